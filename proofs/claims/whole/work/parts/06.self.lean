/-! calls within one world; long compares -/
section NjSelf
variable {p : Program} {l : Launch} {e : Env} {R : Room} {s : State} {m : MethodId} {args : Array Value} {below : List Frame} {meth : Method} {c : Code} {H : Heap} {locs : List Loc} {kc ks : Nat} {Q : State → Prop}
variable {D : va_G} {dT : Nat → ClassId} {A : Nat → Prop} {sA ad : Nat → Nat} {hp hp' : List va_E} {as : List Value} {r : Option Value}
theorem nj_start0 (hK : va_K D nj_cls (nj_tys dT) s) (hNe : nj_Ne s) (hSt : nj_St sA A s s.heap) (hA : ∀ q, s.heap.size ≤ q → A q) (hsa : ∀ j, ad (1000 + j) = sA j) (hP : va_P D nj_cls (nj_pw ad dT hp) H) (hD : va_D A (nj_pw ad dT hp)) (hS : va_S A s.heap H locs) :
    (∀ U : State, U.heap = H → s.WarmedH U.vm → nj_Pre D dT sA ad H.size hp as (as.map (nj_pv ad)).toArray U) ∧ (∀ q, nj_A ad hp.length H.size q → A q) := by
  have hsub : ∀ q, nj_A ad hp.length H.size q → A q := by
    intro q hq
    rcases hq with ⟨j, hj, rfl⟩ | hq
    · exact hD.2 j _ (nj_pw_at (List.getElem?_eq_getElem hj))
    · exact hA q (Nat.le_trans hS.1 hq)
  refine ⟨fun U hU hW => ⟨rfl, by rw [hU], ⟨va_K.moved hW.alike hK, hNe.warm hW, ?_⟩, by rw [hU]; exact hP, ⟨hD.1, fun _ _ _ => trivial⟩, hsa⟩, hsub⟩
  rw [hU]
  exact ((hSt.kept (fun a h1 h2 => hS.2.1 a h1 h2)).narrow hsub).moved hW.alike
theorem nj_run0 {pc : Nat} {lm : Array Slot} {st0 rest : List Value} {a : Array Value} (hr : va_Run p l e R s m args below meth c H locs kc ks 0 0 (F0 m pc lm st0) rest (nj_Post D dT (nj_A ad hp.length H.size) ad r hp' a) (nj_A ad hp.length H.size))
    (hD : va_D A (nj_pw ad dT hp)) (hS : va_S A s.heap H locs) (hl2 : hp'.length = hp.length) (hsub : ∀ q, nj_A ad hp.length H.size q → A q)
    (kk : ∀ (H1 : Heap) (locs1 : List Loc), va_P D nj_cls (nj_pw ad dT hp') H1 → va_D A (nj_pw ad dT hp') → va_S A s.heap H1 locs1 → W p l e R s m args below meth c H1 locs1 kc ks Q (F0 m (pc + 3) lm ((r.map (nj_pv ad)).toList ++ rest))) : W p l e R s m args below meth c H locs kc ks Q (F0 m pc lm st0) := by
  intro T hT X
  obtain ⟨v, st₀, t, T', L, h0, X', hL, e1, e2, ⟨hv, hPt, hz, hk⟩, go⟩ := hr T hT X
  cases hv
  rw [h0] at hz hk
  have hD1 : va_D A (nj_pw ad dT hp') := nj_D_of hD (fun k q hq => by
    obtain ⟨e0, h1, rfl⟩ := nj_pw_of hq
    have hk1 : k < hp.length := by rw [← hl2]; exact (List.getElem?_eq_some_iff.mp h1).1
    exact ⟨_, nj_pw_at (List.getElem?_eq_getElem hk1), rfl⟩) (fun _ z => z)
  obtain ⟨t2, a1, b1⟩ := kk T'.heap (locs ++ L) (by rw [e1]; exact hPt) hD1
    ⟨Nat.le_trans hS.1 (by rw [e1]; exact hz), fun q h1 h2 => by rw [e1, hk q (Nat.lt_of_lt_of_le h1 hS.1) (fun z => h2 (hsub q z))]; exact hS.2.1 q h1 h2, fun q hq => by
      rcases List.mem_append.mp hq with h | h
      · exact hS.2.2 q h
      · exact hsub _ (hL q h)⟩ T' rfl X'
  exact ⟨t2, go t2 a1, b1⟩
end NjSelf
section NjSelfRows
variable {G : nj_G} {cc : ByteArray} {nL : Nat} {own : String} {rm : Room} {ad : Nat → Nat} {kc ks pc pc' tgt : Nat} {ls : List (Option Value)} {hp hp' : List va_E}
variable {y : MethodName} {cy : ByteArray} {nLy n idx : Nat} {rety : Option FieldType} {rmc : Room} {r : Option Value}
theorem vr_selfV (as st : List Value) (C : nj_C G cc nL own rm) (hd : nj_dc cc pc (.invokevirtual idx) pc') (h1 : pc + 3 = pc') (hlk : .methodLink own idx y ∈ nj_T0) (hy : nj_MV y cy nLy rety n) (hM : nj_Con y cy nLy rety rmc hp (.ref 0 :: as) r hp') (ho : nj_Ob y (hp[0]?)) (hna : as.length = n)
    (hst : Nat.ble ((st.map fun v => v.category).sum) 8 = true) (hrm : nj_Ro rmc rm nLy) (hkc : kc ≤ rm.cells) (hks : ks ≤ rm.slots)
    (k : nj_V G ad kc ks pc' ls (r.toList ++ st) hp') : nj_V G ad kc ks pc ls (as.reverse ++ .ref 0 :: st) hp := by
  obtain ⟨⟨p, l, e, R, s, m⟩, ⟨args, below, meth, c, Q⟩, ⟨D, dT, A, sA⟩⟩ := G
  obtain ⟨hx, hb, hml, hown, hts, hR, ⟨hK, hNe, hSt⟩, hlk0, hA⟩ := C
  intro H locs lm hsa hP hD hS hL
  subst hR
  obtain ⟨n1, h, h2⟩ := hd
  have e1 : n1 = 3 := by omega
  subst e1; subst h1
  obtain ⟨y1, y2, y3, y4, y5⟩ := hy
  obtain ⟨r1, r2, r3, r4⟩ := hrm
  obtain ⟨ci, fs, q, o1, o2, o3⟩ := ho
  obtain ⟨hs1, hsub⟩ := nj_start0 (as := .ref 0 :: as) hK hNe hSt hA hsa hP hD hS
  have cw : CallW R s args own y.cls idx y cy nLy rety (.code y cy nLy rety :: nj_T0) rmc 0 0 n := by
    refine cwV n hts (nj_goodIn fun w hw => ?_) rfl r1 r2 ⟨rfl, y5⟩ ⟨Nat.le_of_ble_eq_true r3, Nat.le_of_ble_eq_true r4⟩
    simp only [wsV, List.mem_append, List.mem_cons, List.not_mem_nil, or_false] at hw
    rcases hw with (rfl | rfl | rfl | rfl) | rfl | hw
    · exact hlk
    · exact y1
    · exact y2
    · exact y3
    · exact y4
    · exact hw
  have hrecv : ∃ cellB : Cell, H[ad 0]? = some cellB ∧ cellB.vm.isStatics = false ∧ s.vm.findClass y.cls = some cellB.cls := by
    rw [← o3]
    exact va_recv hK hP o2 (nj_pw_at (ad := ad) (dT := dT) o1)
  have hk : List.map (nj_pv ad) (as.reverse ++ .ref 0 :: st) = (as.map (nj_pv ad)).reverse ++ .ref (ad 0) :: st.map (nj_pv ad) := by
    rw [List.map_append, List.map_reverse]; rfl
  rw [hk]
  refine nj_run0 (va_runV (As := as.map (nj_pv ad)) (rest := st.map (nj_pv ad)) ⟨hx, hb, hml, hown, hts⟩ (hM.2 l D dT sA ad H.size) cw ⟨nj_blind _ _ _ _ _ _ _, hrecv, hs1⟩ rfl (by simpa using hna) (hL.1.trans hml) rfl (lv_room (by rw [nj_cats]; exact Nat.le_of_ble_eq_true hst)) h ⟨hkc, hks⟩) hD hS hM.1 hsub (fun H1 locs1 hP1 hD1 hS1 => ?_)
  have := k H1 locs1 lm hsa hP1 hD1 hS1 hL
  have e9 : List.map (nj_pv ad) (r.toList ++ st) = (r.map (nj_pv ad)).toList ++ st.map (nj_pv ad) := by cases r <;> rfl
  rwa [e9] at this

theorem vr_sVi (as st : List Value) {st0 : List Value} {v : Int32} (C : nj_C G cc nL own rm) (hd : nj_dc cc pc (.invokevirtual idx) pc') (h1 : pc + 3 = pc') (hlk : .methodLink own idx y ∈ nj_T0) (hy : nj_MV y cy nLy rety n) (hM : nj_Con y cy nLy rety rmc hp (.ref 0 :: as) (some (.int v)) hp') (ho : nj_Ob y (hp[0]?)) (hna : as.length = n) (hst : Nat.ble ((st.map fun v => v.category).sum) 8 = true) (hrm : nj_Ro rmc rm nLy) (hkc : kc ≤ rm.cells) (hks : ks ≤ rm.slots) (hsk : as.reverse ++ .ref 0 :: st = st0) (k : nj_V G ad kc ks pc' ls (.int v :: st) hp') : nj_V G ad kc ks pc ls st0 hp := by
  subst hsk
  exact vr_selfV as st C hd h1 hlk hy hM ho hna hst hrm hkc hks k
theorem vr_sVl (as st : List Value) {st0 : List Value} {v : Int64} (C : nj_C G cc nL own rm) (hd : nj_dc cc pc (.invokevirtual idx) pc') (h1 : pc + 3 = pc') (hlk : .methodLink own idx y ∈ nj_T0) (hy : nj_MV y cy nLy rety n) (hM : nj_Con y cy nLy rety rmc hp (.ref 0 :: as) (some (.long v)) hp') (ho : nj_Ob y (hp[0]?)) (hna : as.length = n) (hst : Nat.ble ((st.map fun v => v.category).sum) 8 = true) (hrm : nj_Ro rmc rm nLy) (hkc : kc ≤ rm.cells) (hks : ks ≤ rm.slots) (hsk : as.reverse ++ .ref 0 :: st = st0) (k : nj_V G ad kc ks pc' ls (.long v :: st) hp') : nj_V G ad kc ks pc ls st0 hp := by
  subst hsk
  exact vr_selfV as st C hd h1 hlk hy hM ho hna hst hrm hkc hks k
theorem vr_sVv (as st : List Value) {st0 : List Value} (C : nj_C G cc nL own rm) (hd : nj_dc cc pc (.invokevirtual idx) pc') (h1 : pc + 3 = pc') (hlk : .methodLink own idx y ∈ nj_T0) (hy : nj_MV y cy nLy rety n) (hM : nj_Con y cy nLy rety rmc hp (.ref 0 :: as) none hp') (ho : nj_Ob y (hp[0]?)) (hna : as.length = n) (hst : Nat.ble ((st.map fun v => v.category).sum) 8 = true) (hrm : nj_Ro rmc rm nLy) (hkc : kc ≤ rm.cells) (hks : ks ≤ rm.slots) (hsk : as.reverse ++ .ref 0 :: st = st0) (k : nj_V G ad kc ks pc' ls st hp') : nj_V G ad kc ks pc ls st0 hp := by
  subst hsk
  exact vr_selfV as st C hd h1 hlk hy hM ho hna hst hrm hkc hks k
theorem nj_lt (x y : Int64) : lg_cmp x y < 0 ↔ x < y := by
  unfold lg_cmp
  split
  · next h => exact ⟨fun q => absurd q (by decide), fun q => absurd (Int64.lt_trans h q) (Int64.lt_irrefl)⟩
  · split
    · next h => subst h; exact ⟨fun q => absurd q (by decide), fun q => absurd q (Int64.lt_irrefl)⟩
    · next h1 h2 => exact ⟨fun _ => by
        rcases Int64.lt_or_eq_of_le (Int64.not_lt.mp h1) with q | q
        · exact q
        · exact absurd q h2, fun _ => by decide⟩
theorem nj_eq (x y : Int64) : lg_cmp x y = 0 ↔ x = y := by
  unfold lg_cmp
  split
  · next h => exact ⟨fun q => absurd q (by decide), fun q => absurd h (by rw [q]; exact Int64.lt_irrefl)⟩
  · split
    · next h => exact ⟨fun _ => h, fun _ => rfl⟩
    · next h1 h2 => exact ⟨fun q => absurd q (by decide), fun q => absurd q h2⟩
theorem nj_gt (x y : Int64) : 0 < lg_cmp x y ↔ y < x := by
  unfold lg_cmp
  split
  · next h => exact ⟨fun _ => h, fun _ => by decide⟩
  · split
    · next h1 h => exact ⟨fun q => absurd q (by decide), fun q => absurd q h1⟩
    · next h1 h2 => exact ⟨fun q => absurd q (by decide), fun q => absurd q h1⟩
theorem nj_ge (x y : Int64) : 0 ≤ lg_cmp x y ↔ y ≤ x := by
  rw [← Int32.not_lt, ← Int64.not_lt, nj_lt]
theorem nj_le (x y : Int64) : lg_cmp x y ≤ 0 ↔ x ≤ y := by
  rw [← Int32.not_lt, ← Int64.not_lt, nj_gt]
theorem vr_lif_eq {st : List Value} {pc1 : Nat} {x y : Int64} (C : nj_C G cc nL own rm) (hd : nj_dc cc pc .lcmp pc1) (h1 : pc + 1 = pc1) (hd2 : nj_if cc pc1 .eq tgt pc') (kt : x = y → nj_V G ad kc ks tgt ls st hp) (kf : ¬ x = y → nj_V G ad kc ks pc' ls st hp) : nj_V G ad kc ks pc ls (.long y :: .long x :: st) hp := vr_lcmp C hd h1 (vr_if_eq C hd2 (fun q => kt ((nj_eq _ _).mp q)) (fun q => kf (fun z => q ((nj_eq _ _).mpr z))))
theorem vr_lif_ne {st : List Value} {pc1 : Nat} {x y : Int64} (C : nj_C G cc nL own rm) (hd : nj_dc cc pc .lcmp pc1) (h1 : pc + 1 = pc1) (hd2 : nj_if cc pc1 .ne tgt pc') (kt : ¬ x = y → nj_V G ad kc ks tgt ls st hp) (kf : x = y → nj_V G ad kc ks pc' ls st hp) : nj_V G ad kc ks pc ls (.long y :: .long x :: st) hp := vr_lcmp C hd h1 (vr_if_ne C hd2 (fun q => kt (fun z => q ((nj_eq _ _).mpr z))) (fun q => kf ((nj_eq _ _).mp q)))
theorem vr_lif_lt {st : List Value} {pc1 : Nat} {x y : Int64} (C : nj_C G cc nL own rm) (hd : nj_dc cc pc .lcmp pc1) (h1 : pc + 1 = pc1) (hd2 : nj_if cc pc1 .lt tgt pc') (kt : x < y → nj_V G ad kc ks tgt ls st hp) (kf : ¬ x < y → nj_V G ad kc ks pc' ls st hp) : nj_V G ad kc ks pc ls (.long y :: .long x :: st) hp := vr_lcmp C hd h1 (vr_if_lt C hd2 (fun q => kt ((nj_lt _ _).mp q)) (fun q => kf (fun z => q ((nj_lt _ _).mpr z))))
theorem vr_lif_ge {st : List Value} {pc1 : Nat} {x y : Int64} (C : nj_C G cc nL own rm) (hd : nj_dc cc pc .lcmp pc1) (h1 : pc + 1 = pc1) (hd2 : nj_if cc pc1 .ge tgt pc') (kt : y ≤ x → nj_V G ad kc ks tgt ls st hp) (kf : ¬ y ≤ x → nj_V G ad kc ks pc' ls st hp) : nj_V G ad kc ks pc ls (.long y :: .long x :: st) hp := vr_lcmp C hd h1 (vr_if_ge C hd2 (fun q => kt ((nj_ge _ _).mp q)) (fun q => kf (fun z => q ((nj_ge _ _).mpr z))))
theorem vr_lif_gt {st : List Value} {pc1 : Nat} {x y : Int64} (C : nj_C G cc nL own rm) (hd : nj_dc cc pc .lcmp pc1) (h1 : pc + 1 = pc1) (hd2 : nj_if cc pc1 .gt tgt pc') (kt : y < x → nj_V G ad kc ks tgt ls st hp) (kf : ¬ y < x → nj_V G ad kc ks pc' ls st hp) : nj_V G ad kc ks pc ls (.long y :: .long x :: st) hp := vr_lcmp C hd h1 (vr_if_gt C hd2 (fun q => kt ((nj_gt _ _).mp q)) (fun q => kf (fun z => q ((nj_gt _ _).mpr z))))
theorem vr_lif_le {st : List Value} {pc1 : Nat} {x y : Int64} (C : nj_C G cc nL own rm) (hd : nj_dc cc pc .lcmp pc1) (h1 : pc + 1 = pc1) (hd2 : nj_if cc pc1 .le tgt pc') (kt : x ≤ y → nj_V G ad kc ks tgt ls st hp) (kf : ¬ x ≤ y → nj_V G ad kc ks pc' ls st hp) : nj_V G ad kc ks pc ls (.long y :: .long x :: st) hp := vr_lcmp C hd h1 (vr_if_le C hd2 (fun q => kt ((nj_le _ _).mp q)) (fun q => kf (fun z => q ((nj_le _ _).mpr z))))
end NjSelfRows
def nj_fu : Nat := 1000
theorem nj_lt_of {i : Int32} {n : Nat} (h : vp_in i n) : i.toNatClampNeg < n := Nat.not_le.mp fun q => h (Or.inr q)
