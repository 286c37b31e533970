/-! cells that are made: constructors -/
def nj_wv (n : Nat) (v : Value) : Bool := match v with
  | .ref k => decide (k < n) || decide (1000 ≤ k)
  | _ => true
def nj_wo (n : Nat) (o : Option Nat) : Bool := match o with
  | none => true
  | some k => decide (k < n) || decide (1000 ≤ k)
def nj_we (n : Nat) (e : va_E) : Bool := match e with
  | .inl (_, len, .inr (.inr (.inr (.inr f)))) => (List.range len).all (fun k => nj_wo n (f k))
  | .inl _ => true
  | .inr o => o.2.all (nj_wv n)
def nj_wl (n : Nat) (o : Option Value) : Bool := match o with
  | none => true
  | some v => nj_wv n v
/-- all refs are of the first n places, or of the fixed ones -/
def nj_wf (n : Nat) (ls : List (Option Value)) (st : List Value) (hp : List va_E) : Bool := ls.all (nj_wl n) && (st.all (nj_wv n) && hp.all (nj_we n))
def nj_ag (n : Nat) (ad ad' : Nat → Nat) : Prop := ∀ k, k < n ∨ 1000 ≤ k → ad' k = ad k
theorem nj_wv_ag {n : Nat} {ad ad' : Nat → Nat} (h : nj_ag n ad ad') {v : Value} (hw : nj_wv n v = true) : nj_pv ad' v = nj_pv ad v := by
  cases v with
  | ref k => simp only [nj_wv, Bool.or_eq_true, decide_eq_true_eq] at hw; simp only [nj_pv, h k hw]
  | _ => rfl
theorem nj_wo_ag {n : Nat} {ad ad' : Nat → Nat} (h : nj_ag n ad ad') {o : Option Nat} (hw : nj_wo n o = true) : o.map ad' = o.map ad := by
  cases o with
  | none => rfl
  | some k => simp only [nj_wo, Bool.or_eq_true, decide_eq_true_eq] at hw; simp only [Option.map_some, h k hw]
theorem nj_arrV (cA : ClassId) (n : Nat) {f g : Nat → Value} (h : ∀ j, j < n → f j = g j) : arrV cA n f = arrV cA n g := by
  unfold arrV
  congr 2
  funext j
  exact h j.val j.isLt
theorem nj_we_ag {D : va_G} {dT : Nat → ClassId} {n a : Nat} {ad ad' : Nat → Nat} (h : nj_ag n ad ad') {e : va_E} (hw : nj_we n e = true) {H : Heap} (hat : va_at D nj_cls (a, nj_pe ad dT e) H) : va_at D nj_cls (a, nj_pe ad' dT e) H := by
  rcases e with ⟨t, len, x⟩ | ⟨ci, fs⟩
  · rcases x with x | x | x | x | f
    · exact hat
    · exact hat
    · exact hat
    · exact hat
    · have hw2 : ∀ k, k < len → nj_wo n (f k) = true := by
        intro k hk
        exact List.all_eq_true.mp hw k (List.mem_range.mpr hk)
      have e1 : vp_cell (dT t) (len, nj_px ad (.inr (.inr (.inr (.inr f))))) = vp_cell (dT t) (len, nj_px ad' (.inr (.inr (.inr (.inr f))))) := by
        rw [nj_px, nj_px, vp_cell_q, vp_cell_q]
        exact nj_arrV _ _ (fun j hj => by rw [nj_wo_ag h (hw2 j hj)])
      show H[a]? = some _
      have h2 : H[a]? = some (vp_cell (dT t) (len, nj_px ad (.inr (.inr (.inr (.inr f)))))) := hat
      rw [h2, e1]
  · have e1 : fs.map (nj_pv ad') = fs.map (nj_pv ad) := by
      apply List.map_congr_left
      intro v hv
      exact nj_wv_ag h (List.all_eq_true.mp hw v hv)
    simp only [nj_pe] at hat ⊢
    rw [e1]
    exact hat
theorem nj_lm_ag {n nL : Nat} {ad ad' : Nat → Nat} (h : nj_ag n ad ad') {lm : Array Slot} {ls : List (Option Value)} (hw : ls.all (nj_wl n) = true) (hl : nj_lm ad nL lm ls) : nj_lm ad' nL lm ls := by
  refine ⟨hl.1, hl.2.1, fun j v hv => ?_⟩
  have := List.all_eq_true.mp hw (some v) (List.mem_of_getElem? hv)
  rw [nj_wv_ag h this]
  exact hl.2.2 j v hv
theorem nj_st_ag {n : Nat} {ad ad' : Nat → Nat} (h : nj_ag n ad ad') {st : List Value} (hw : st.all (nj_wv n) = true) : st.map (nj_pv ad') = st.map (nj_pv ad) := by
  apply List.map_congr_left
  intro v hv
  exact nj_wv_ag h (List.all_eq_true.mp hw v hv)
theorem nj_grow {D : va_G} {dT : Nat → ClassId} {A : Nat → Prop} {ad : Nat → Nat} {hp : List va_E} {e0 : va_E} {q : Nat} {H : Heap} (hn : hp.length < 1000) (hw : hp.all (nj_we hp.length) = true) (hw0 : nj_we hp.length e0 = true)
    (hP : va_P D nj_cls (nj_pw ad dT hp ++ [(q, nj_pe ad dT e0)]) H) (hD : va_D A (nj_pw ad dT hp ++ [(q, nj_pe ad dT e0)])) :
    nj_ag hp.length ad (va_up ad hp.length q) ∧ va_P D nj_cls (nj_pw (va_up ad hp.length q) dT (hp ++ [e0])) H ∧ va_D A (nj_pw (va_up ad hp.length q) dT (hp ++ [e0])) := by
  have hag : nj_ag hp.length ad (va_up ad hp.length q) := by
    intro k hk
    show (if k = hp.length then q else ad k) = ad k
    rw [if_neg (by omega)]
  have key : ∀ (k : Nat) (x : Nat × va_E), (nj_pw (va_up ad hp.length q) dT (hp ++ [e0]))[k]? = some x → ∃ y, (nj_pw ad dT hp ++ [(q, nj_pe ad dT e0)])[k]? = some y ∧ y.1 = x.1 ∧ (va_at D nj_cls y H → va_at D nj_cls x H) := by
    intro k x hx
    obtain ⟨e, h1, rfl⟩ := nj_pw_of hx
    by_cases hk : k < hp.length
    · rw [List.getElem?_append_left hk] at h1
      refine ⟨(ad k, nj_pe ad dT e), ?_, ?_, ?_⟩
      · rw [List.getElem?_append_left (by rw [nj_pw_len]; exact hk)]
        exact nj_pw_at h1
      · exact (hag k (Or.inl hk)).symm
      · intro h2
        have h3 := nj_we_ag (ad' := va_up ad hp.length q) hag (List.all_eq_true.mp hw e (List.mem_of_getElem? h1)) h2
        rw [hag k (Or.inl hk)]
        exact h3
    · have hk2 : k = hp.length := by
        have := (List.getElem?_eq_some_iff.mp h1).1
        rw [List.length_append, List.length_singleton] at this
        omega
      subst hk2
      rw [List.getElem?_append_right (Nat.le_refl _), Nat.sub_self] at h1
      cases h1
      have e9 : va_up ad hp.length q hp.length = q := if_pos rfl
      refine ⟨(q, nj_pe ad dT e0), ?_, ?_, ?_⟩
      · rw [List.getElem?_append_right (by rw [nj_pw_len]; exact Nat.le_refl _), nj_pw_len, Nat.sub_self]
        rfl
      · exact e9.symm
      · intro h2
        have h3 := nj_we_ag (ad' := va_up ad hp.length q) hag hw0 h2
        rw [e9]
        exact h3
  refine ⟨hag, fun k x hx => ?_, nj_D_of hD (fun k x hx => ?_) (fun _ z => z)⟩
  · obtain ⟨y, h1, -, h3⟩ := key k x hx
    exact h3 (hP k y h1)
  · obtain ⟨y, h1, h2, -⟩ := key k x hx
    exact ⟨y, h1, h2⟩
def nj_AO (U : State) : Prop := va_AO nj_RRow U ∧ va_AO nj_RText U ∧ va_AO nj_RClub U
theorem nj_AO.moved {u U : State} (hvm : u.vm.Alike U.vm) (h : nj_AO u) : nj_AO U := ⟨h.1.moved hvm, h.2.1.moved hvm, h.2.2.moved hvm⟩
/-- a constructor's context -/
def nj_CA (G : nj_G) (cc : ByteArray) (nL : Nat) (own : String) (rm : Room) : Prop := nj_C G cc nL own rm ∧ nj_AO G.1.2.2.2.2.1 ∧ G.2.1.2.2.1.name = "<init>"
theorem nj_pw_app (ad : Nat → Nat) (dT : Nat → ClassId) (hp : List va_E) : nj_pw ad dT hp = nj_pw ad dT hp := rfl
section NjAlloc
variable {G : nj_G} {cc : ByteArray} {nL : Nat} {own : String} {rm : Room} {ad : Nat → Nat} {kc ks pc pc' : Nat} {ls : List (Option Value)} {st : List Value} {hp hp' : List va_E}
theorem vr_newo {idx ci N : Nat} {C0 : String} {T : u_T} {fs : List Value} (C : nj_C G cc nL own rm) (hd : nj_dc cc pc (.new idx) pc') (h1 : pc + 3 = pc') (hw1 : .classLink own idx C0 ∈ nj_T0) (hw2 : .instantiable C0 N ∈ nj_T0) (hw3 : .initialized C0 ∈ nj_T0) (hc : nj_cls[ci]? = some (C0, T, N)) (ty : Nat → FieldType) (hty : ∀ k, k < N → parseFieldDescriptor (T k).2.2.1 = some (ty k)) (hfs : ∀ j, j < N → defaultValue (ty j) = vp_V fs j) (hnr : fs.all (fun v => match v with | .ref _ => false | _ => true) = true)
    (hn : Nat.blt hp.length 1000 = true) (hwf : nj_wf hp.length ls st hp = true) (hkc : Nat.ble (kc + 1) rm.cells = true) (hks : Nat.ble (ks + N) rm.slots = true) (k : ∀ ad', nj_ag hp.length ad ad' → nj_V G ad' (kc + 1) (ks + N) pc' ls (.ref hp.length :: st) (hp ++ [.inr (ci, fs)])) : nj_V G ad kc ks pc ls st hp := by
  obtain ⟨⟨p, l, e, R, s, m⟩, ⟨args, below, meth, c, Q⟩, ⟨D, dT, A, sA⟩⟩ := G
  obtain ⟨hx, hb, hml, hown, hts, hR, ⟨hK, hNe, hSt⟩, hlk, hA⟩ := C
  intro H locs lm hsa hP hD hS hL
  subst hR
  obtain ⟨n1, h, h2⟩ := hd
  have e1 : n1 = 3 := by omega
  subst e1; subst h1
  simp only [nj_wf, Bool.and_eq_true] at hwf
  obtain ⟨f1, f2, f3⟩ := hwf
  have hn : hp.length < 1000 := by simpa [Nat.blt_eq] using hn
  have hfs2 : fs.map (nj_pv ad) = fs := by
    conv => rhs; rw [← List.map_id fs]
    apply List.map_congr_left
    intro v hv
    have := List.all_eq_true.mp hnr v hv
    cases v <;> first | rfl | (simp at this)
  have hw0 : nj_we hp.length (.inr (ci, fs)) = true := by
    refine List.all_eq_true.mpr (fun v hv => ?_)
    have := List.all_eq_true.mp hnr v hv
    cases v <;> first | rfl | (simp at this)
  refine va_new (C := C0) (T := T) (N := N) (ci := ci) (fs := fs) hx hb hts (nj_cls_ok _ (List.mem_of_getElem? hc)).1 ty hty hown (hts _ hw1) (hts _ hw2) (hts _ hw3) hK hP hD hS hA hc hfs (Nat.le_of_ble_eq_true hkc) (Nat.le_of_ble_eq_true hks) h (fun q H1 hP1 hD1 hS1 => ?_)
  have e5 : (q, (.inr (ci, fs) : va_E)) = (q, nj_pe ad dT (.inr (ci, fs))) := by simp only [nj_pe, hfs2]
  rw [e5] at hP1 hD1
  obtain ⟨g1, g2, g3⟩ := nj_grow hn f3 hw0 hP1 hD1
  have := k _ g1 H1 locs lm (fun j => by rw [g1 (1000 + j) (Or.inr (by omega))]; exact hsa j) g2 g3 hS1 (nj_lm_ag g1 f1 hL)
  have e6 : List.map (nj_pv (va_up ad hp.length q)) (.ref hp.length :: st) = .ref q :: st.map (nj_pv ad) := by
    rw [List.map_cons, nj_st_ag g1 f2]
    simp [nj_pv, va_up]
  rwa [e6] at this

theorem vr_newI {n : Int32} (N : Nat) (C : nj_C G cc nL own rm) (hd : nj_dc cc pc (.newarray .int) pc') (h1 : pc + 2 = pc') (hw : .arrayClass .int ∈ nj_T0) (hn0 : ¬ n < 0) (hN : n.toNatClampNeg = N) (hby : Nat.ble (N * 8) 536870912 = true)
    (hn : Nat.blt hp.length 1000 = true) (hwf : nj_wf hp.length ls st hp = true) (hkc : Nat.ble (kc + 1) rm.cells = true) (hks : Nat.ble (ks + N) rm.slots = true) (k : ∀ ad', nj_ag hp.length ad ad' → nj_V G ad' (kc + 1) (ks + N) pc' ls (.ref hp.length :: st) (hp ++ [.inl (0, N, .inl (fun _ => 0))])) : nj_V G ad kc ks pc ls (.int n :: st) hp := by
  obtain ⟨⟨p, l, e, R, s, m⟩, ⟨args, below, meth, c, Q⟩, ⟨D, dT, A, sA⟩⟩ := G
  obtain ⟨hx, hb, hml, hown, hts, hR, ⟨hK, hNe, hSt⟩, hlk, hA⟩ := C
  intro H locs lm hsa hP hD hS hL
  subst hR
  obtain ⟨n1, h, h2⟩ := hd
  have e1 : n1 = 2 := by omega
  subst e1; subst h1
  simp only [nj_wf, Bool.and_eq_true] at hwf
  obtain ⟨f1, f2, f3⟩ := hwf
  have hn : hp.length < 1000 := by simpa [Nat.blt_eq] using hn
  have hby := Nat.le_of_ble_eq_true hby
  refine va_newa (atype := .int) (ty := .int) (a0 := (N, .inl (fun _ => 0))) hx hb (hts _ hw) rfl hK hP hD hS hA (fun cA => rfl) hn0 hN (by simp only [componentBytes]; omega) (Nat.le_of_ble_eq_true hkc) (Nat.le_of_ble_eq_true hks) h (fun q cA H1 hK1 hP1 hD1 hS1 => ?_)
  have r1 : s.vm.findClass ("[" ++ (FieldType.int).toString) = some cA := (hK1.2 6 (cA, .int) rfl).2
  have r2 : s.vm.findClass ("[" ++ (FieldType.int).toString) = some (dT 0) := (hK.2 0 (dT 0, .int) rfl).2
  have r3 : cA = dT 0 := Option.some.inj (r1.symm.trans r2)
  subst r3
  have e5 : (q, (.inl (dT 0, N, .inl (fun _ => 0)) : va_E)) = (q, nj_pe ad dT (.inl (0, N, .inl (fun _ => 0)))) := rfl
  rw [e5] at hP1 hD1
  obtain ⟨g1, g2, g3⟩ := nj_grow hn f3 rfl hP1 hD1
  have := k _ g1 H1 locs lm (fun j => by rw [g1 (1000 + j) (Or.inr (by omega))]; exact hsa j) g2 g3 hS1 (nj_lm_ag g1 f1 hL)
  have e6 : List.map (nj_pv (va_up ad hp.length q)) (.ref hp.length :: st) = .ref q :: st.map (nj_pv ad) := by
    rw [List.map_cons, nj_st_ag g1 f2]
    simp [nj_pv, va_up]
  rwa [e6] at this
theorem vr_newL {n : Int32} (N : Nat) (C : nj_C G cc nL own rm) (hd : nj_dc cc pc (.newarray .long) pc') (h1 : pc + 2 = pc') (hw : .arrayClass .long ∈ nj_T0) (hn0 : ¬ n < 0) (hN : n.toNatClampNeg = N) (hby : Nat.ble (N * 8) 536870912 = true)
    (hn : Nat.blt hp.length 1000 = true) (hwf : nj_wf hp.length ls st hp = true) (hkc : Nat.ble (kc + 1) rm.cells = true) (hks : Nat.ble (ks + N) rm.slots = true) (k : ∀ ad', nj_ag hp.length ad ad' → nj_V G ad' (kc + 1) (ks + N) pc' ls (.ref hp.length :: st) (hp ++ [.inl (1, N, .inr (.inl (fun _ => 0)))])) : nj_V G ad kc ks pc ls (.int n :: st) hp := by
  obtain ⟨⟨p, l, e, R, s, m⟩, ⟨args, below, meth, c, Q⟩, ⟨D, dT, A, sA⟩⟩ := G
  obtain ⟨hx, hb, hml, hown, hts, hR, ⟨hK, hNe, hSt⟩, hlk, hA⟩ := C
  intro H locs lm hsa hP hD hS hL
  subst hR
  obtain ⟨n1, h, h2⟩ := hd
  have e1 : n1 = 2 := by omega
  subst e1; subst h1
  simp only [nj_wf, Bool.and_eq_true] at hwf
  obtain ⟨f1, f2, f3⟩ := hwf
  have hn : hp.length < 1000 := by simpa [Nat.blt_eq] using hn
  have hby := Nat.le_of_ble_eq_true hby
  refine va_newa (atype := .long) (ty := .long) (a0 := (N, .inr (.inl (fun _ => 0)))) hx hb (hts _ hw) rfl hK hP hD hS hA (fun cA => rfl) hn0 hN (by simp only [componentBytes]; omega) (Nat.le_of_ble_eq_true hkc) (Nat.le_of_ble_eq_true hks) h (fun q cA H1 hK1 hP1 hD1 hS1 => ?_)
  have r1 : s.vm.findClass ("[" ++ (FieldType.long).toString) = some cA := (hK1.2 6 (cA, .long) rfl).2
  have r2 : s.vm.findClass ("[" ++ (FieldType.long).toString) = some (dT 1) := (hK.2 1 (dT 1, .long) rfl).2
  have r3 : cA = dT 1 := Option.some.inj (r1.symm.trans r2)
  subst r3
  have e5 : (q, (.inl (dT 1, N, .inr (.inl (fun _ => 0))) : va_E)) = (q, nj_pe ad dT (.inl (1, N, .inr (.inl (fun _ => 0))))) := rfl
  rw [e5] at hP1 hD1
  obtain ⟨g1, g2, g3⟩ := nj_grow hn f3 rfl hP1 hD1
  have := k _ g1 H1 locs lm (fun j => by rw [g1 (1000 + j) (Or.inr (by omega))]; exact hsa j) g2 g3 hS1 (nj_lm_ag g1 f1 hL)
  have e6 : List.map (nj_pv (va_up ad hp.length q)) (.ref hp.length :: st) = .ref q :: st.map (nj_pv ad) := by
    rw [List.map_cons, nj_st_ag g1 f2]
    simp [nj_pv, va_up]
  rwa [e6] at this
theorem vr_newB {n : Int32} (N : Nat) (C : nj_C G cc nL own rm) (hd : nj_dc cc pc (.newarray .byte) pc') (h1 : pc + 2 = pc') (hw : .arrayClass .byte ∈ nj_T0) (hn0 : ¬ n < 0) (hN : n.toNatClampNeg = N) (hby : Nat.ble (N * 8) 536870912 = true)
    (hn : Nat.blt hp.length 1000 = true) (hwf : nj_wf hp.length ls st hp = true) (hkc : Nat.ble (kc + 1) rm.cells = true) (hks : Nat.ble (ks + N) rm.slots = true) (k : ∀ ad', nj_ag hp.length ad ad' → nj_V G ad' (kc + 1) (ks + N) pc' ls (.ref hp.length :: st) (hp ++ [.inl (2, N, .inl (fun _ => 0))])) : nj_V G ad kc ks pc ls (.int n :: st) hp := by
  obtain ⟨⟨p, l, e, R, s, m⟩, ⟨args, below, meth, c, Q⟩, ⟨D, dT, A, sA⟩⟩ := G
  obtain ⟨hx, hb, hml, hown, hts, hR, ⟨hK, hNe, hSt⟩, hlk, hA⟩ := C
  intro H locs lm hsa hP hD hS hL
  subst hR
  obtain ⟨n1, h, h2⟩ := hd
  have e1 : n1 = 2 := by omega
  subst e1; subst h1
  simp only [nj_wf, Bool.and_eq_true] at hwf
  obtain ⟨f1, f2, f3⟩ := hwf
  have hn : hp.length < 1000 := by simpa [Nat.blt_eq] using hn
  have hby := Nat.le_of_ble_eq_true hby
  refine va_newa (atype := .byte) (ty := .byte) (a0 := (N, .inl (fun _ => 0))) hx hb (hts _ hw) rfl hK hP hD hS hA (fun cA => rfl) hn0 hN (by simp only [componentBytes]; omega) (Nat.le_of_ble_eq_true hkc) (Nat.le_of_ble_eq_true hks) h (fun q cA H1 hK1 hP1 hD1 hS1 => ?_)
  have r1 : s.vm.findClass ("[" ++ (FieldType.byte).toString) = some cA := (hK1.2 6 (cA, .byte) rfl).2
  have r2 : s.vm.findClass ("[" ++ (FieldType.byte).toString) = some (dT 2) := (hK.2 2 (dT 2, .byte) rfl).2
  have r3 : cA = dT 2 := Option.some.inj (r1.symm.trans r2)
  subst r3
  have e5 : (q, (.inl (dT 2, N, .inl (fun _ => 0)) : va_E)) = (q, nj_pe ad dT (.inl (2, N, .inl (fun _ => 0)))) := rfl
  rw [e5] at hP1 hD1
  obtain ⟨g1, g2, g3⟩ := nj_grow hn f3 rfl hP1 hD1
  have := k _ g1 H1 locs lm (fun j => by rw [g1 (1000 + j) (Or.inr (by omega))]; exact hsa j) g2 g3 hS1 (nj_lm_ag g1 f1 hL)
  have e6 : List.map (nj_pv (va_up ad hp.length q)) (.ref hp.length :: st) = .ref q :: st.map (nj_pv ad) := by
    rw [List.map_cons, nj_st_ag g1 f2]
    simp [nj_pv, va_up]
  rwa [e6] at this
theorem vr_newq3 {n : Int32} {idx : Nat} (N : Nat) (CA : nj_CA G cc nL own rm) (hd : nj_dc cc pc (.anewarray idx) pc') (h1 : pc + 3 = pc') (hw : .classLink own idx nj_RRow ∈ nj_T0) (hn0 : ¬ n < 0) (hN : n.toNatClampNeg = N) (hby : Nat.ble (N * 4) 536870912 = true)
    (hn : Nat.blt hp.length 1000 = true) (hwf : nj_wf hp.length ls st hp = true) (hkc : Nat.ble (kc + 1) rm.cells = true) (hks : Nat.ble (ks + N) rm.slots = true) (k : ∀ ad', nj_ag hp.length ad ad' → nj_V G ad' (kc + 1) (ks + N) pc' ls (.ref hp.length :: st) (hp ++ [.inl (3, N, .inr (.inr (.inr (.inr (fun _ => none)))))])) : nj_V G ad kc ks pc ls (.int n :: st) hp := by
  obtain ⟨C, hAO, -⟩ := CA
  obtain ⟨⟨p, l, e, R, s, m⟩, ⟨args, below, meth, c, Q⟩, ⟨D, dT, A, sA⟩⟩ := G
  obtain ⟨hx, hb, hml, hown, hts, hR, ⟨hK, hNe, hSt⟩, hlk, hA⟩ := C
  intro H locs lm hsa hP hD hS hL
  subst hR
  obtain ⟨n1, h, h2⟩ := hd
  have e1 : n1 = 3 := by omega
  subst e1; subst h1
  simp only [nj_wf, Bool.and_eq_true] at hwf
  obtain ⟨f1, f2, f3⟩ := hwf
  have hn : hp.length < 1000 := by simpa [Nat.blt_eq] using hn
  refine va_newq hx hb hown (hts _ hw) hAO.1 hK hP hD hS hA hn0 hN (Nat.le_of_ble_eq_true hby) (Nat.le_of_ble_eq_true hkc) (Nat.le_of_ble_eq_true hks) h (fun q cA H1 hK1 hP1 hD1 hS1 => ?_)
  obtain ⟨_, _, _, _, _, r1⟩ := (hK1.2 6 (cA, .object nj_RRow) rfl).2
  obtain ⟨_, _, _, _, _, r2⟩ := (hK.2 3 (dT 3, .object nj_RRow) rfl).2
  have r3 : cA = dT 3 := Option.some.inj (r1.symm.trans r2)
  subst r3
  have e5 : (q, (.inl (dT 3, N, .inr (.inr (.inr (.inr (fun _ => none))))) : va_E)) = (q, nj_pe ad dT (.inl (3, N, .inr (.inr (.inr (.inr (fun _ => none))))))) := rfl
  rw [e5] at hP1 hD1
  obtain ⟨g1, g2, g3⟩ := nj_grow hn f3 (by simp [nj_we, nj_wo]) hP1 hD1
  have := k _ g1 H1 locs lm (fun j => by rw [g1 (1000 + j) (Or.inr (by omega))]; exact hsa j) g2 g3 hS1 (nj_lm_ag g1 f1 hL)
  have e6 : List.map (nj_pv (va_up ad hp.length q)) (.ref hp.length :: st) = .ref q :: st.map (nj_pv ad) := by
    rw [List.map_cons, nj_st_ag g1 f2]
    simp [nj_pv, va_up]
  rwa [e6] at this
theorem vr_newq4 {n : Int32} {idx : Nat} (N : Nat) (CA : nj_CA G cc nL own rm) (hd : nj_dc cc pc (.anewarray idx) pc') (h1 : pc + 3 = pc') (hw : .classLink own idx nj_RText ∈ nj_T0) (hn0 : ¬ n < 0) (hN : n.toNatClampNeg = N) (hby : Nat.ble (N * 4) 536870912 = true)
    (hn : Nat.blt hp.length 1000 = true) (hwf : nj_wf hp.length ls st hp = true) (hkc : Nat.ble (kc + 1) rm.cells = true) (hks : Nat.ble (ks + N) rm.slots = true) (k : ∀ ad', nj_ag hp.length ad ad' → nj_V G ad' (kc + 1) (ks + N) pc' ls (.ref hp.length :: st) (hp ++ [.inl (4, N, .inr (.inr (.inr (.inr (fun _ => none)))))])) : nj_V G ad kc ks pc ls (.int n :: st) hp := by
  obtain ⟨C, hAO, -⟩ := CA
  obtain ⟨⟨p, l, e, R, s, m⟩, ⟨args, below, meth, c, Q⟩, ⟨D, dT, A, sA⟩⟩ := G
  obtain ⟨hx, hb, hml, hown, hts, hR, ⟨hK, hNe, hSt⟩, hlk, hA⟩ := C
  intro H locs lm hsa hP hD hS hL
  subst hR
  obtain ⟨n1, h, h2⟩ := hd
  have e1 : n1 = 3 := by omega
  subst e1; subst h1
  simp only [nj_wf, Bool.and_eq_true] at hwf
  obtain ⟨f1, f2, f3⟩ := hwf
  have hn : hp.length < 1000 := by simpa [Nat.blt_eq] using hn
  refine va_newq hx hb hown (hts _ hw) hAO.2.1 hK hP hD hS hA hn0 hN (Nat.le_of_ble_eq_true hby) (Nat.le_of_ble_eq_true hkc) (Nat.le_of_ble_eq_true hks) h (fun q cA H1 hK1 hP1 hD1 hS1 => ?_)
  obtain ⟨_, _, _, _, _, r1⟩ := (hK1.2 6 (cA, .object nj_RText) rfl).2
  obtain ⟨_, _, _, _, _, r2⟩ := (hK.2 4 (dT 4, .object nj_RText) rfl).2
  have r3 : cA = dT 4 := Option.some.inj (r1.symm.trans r2)
  subst r3
  have e5 : (q, (.inl (dT 4, N, .inr (.inr (.inr (.inr (fun _ => none))))) : va_E)) = (q, nj_pe ad dT (.inl (4, N, .inr (.inr (.inr (.inr (fun _ => none))))))) := rfl
  rw [e5] at hP1 hD1
  obtain ⟨g1, g2, g3⟩ := nj_grow hn f3 (by simp [nj_we, nj_wo]) hP1 hD1
  have := k _ g1 H1 locs lm (fun j => by rw [g1 (1000 + j) (Or.inr (by omega))]; exact hsa j) g2 g3 hS1 (nj_lm_ag g1 f1 hL)
  have e6 : List.map (nj_pv (va_up ad hp.length q)) (.ref hp.length :: st) = .ref q :: st.map (nj_pv ad) := by
    rw [List.map_cons, nj_st_ag g1 f2]
    simp [nj_pv, va_up]
  rwa [e6] at this
theorem vr_newq5 {n : Int32} {idx : Nat} (N : Nat) (CA : nj_CA G cc nL own rm) (hd : nj_dc cc pc (.anewarray idx) pc') (h1 : pc + 3 = pc') (hw : .classLink own idx nj_RClub ∈ nj_T0) (hn0 : ¬ n < 0) (hN : n.toNatClampNeg = N) (hby : Nat.ble (N * 4) 536870912 = true)
    (hn : Nat.blt hp.length 1000 = true) (hwf : nj_wf hp.length ls st hp = true) (hkc : Nat.ble (kc + 1) rm.cells = true) (hks : Nat.ble (ks + N) rm.slots = true) (k : ∀ ad', nj_ag hp.length ad ad' → nj_V G ad' (kc + 1) (ks + N) pc' ls (.ref hp.length :: st) (hp ++ [.inl (5, N, .inr (.inr (.inr (.inr (fun _ => none)))))])) : nj_V G ad kc ks pc ls (.int n :: st) hp := by
  obtain ⟨C, hAO, -⟩ := CA
  obtain ⟨⟨p, l, e, R, s, m⟩, ⟨args, below, meth, c, Q⟩, ⟨D, dT, A, sA⟩⟩ := G
  obtain ⟨hx, hb, hml, hown, hts, hR, ⟨hK, hNe, hSt⟩, hlk, hA⟩ := C
  intro H locs lm hsa hP hD hS hL
  subst hR
  obtain ⟨n1, h, h2⟩ := hd
  have e1 : n1 = 3 := by omega
  subst e1; subst h1
  simp only [nj_wf, Bool.and_eq_true] at hwf
  obtain ⟨f1, f2, f3⟩ := hwf
  have hn : hp.length < 1000 := by simpa [Nat.blt_eq] using hn
  refine va_newq hx hb hown (hts _ hw) hAO.2.2 hK hP hD hS hA hn0 hN (Nat.le_of_ble_eq_true hby) (Nat.le_of_ble_eq_true hkc) (Nat.le_of_ble_eq_true hks) h (fun q cA H1 hK1 hP1 hD1 hS1 => ?_)
  obtain ⟨_, _, _, _, _, r1⟩ := (hK1.2 6 (cA, .object nj_RClub) rfl).2
  obtain ⟨_, _, _, _, _, r2⟩ := (hK.2 5 (dT 5, .object nj_RClub) rfl).2
  have r3 : cA = dT 5 := Option.some.inj (r1.symm.trans r2)
  subst r3
  have e5 : (q, (.inl (dT 5, N, .inr (.inr (.inr (.inr (fun _ => none))))) : va_E)) = (q, nj_pe ad dT (.inl (5, N, .inr (.inr (.inr (.inr (fun _ => none))))))) := rfl
  rw [e5] at hP1 hD1
  obtain ⟨g1, g2, g3⟩ := nj_grow hn f3 (by simp [nj_we, nj_wo]) hP1 hD1
  have := k _ g1 H1 locs lm (fun j => by rw [g1 (1000 + j) (Or.inr (by omega))]; exact hsa j) g2 g3 hS1 (nj_lm_ag g1 f1 hL)
  have e6 : List.map (nj_pv (va_up ad hp.length q)) (.ref hp.length :: st) = .ref q :: st.map (nj_pv ad) := by
    rw [List.map_cons, nj_st_ag g1 f2]
    simp [nj_pv, va_up]
  rwa [e6] at this
theorem vr_putF {idx ci k0 q y : Nat} {ty : FieldType} {fs : List Value} (CA : nj_CA G cc nL own rm) (hd : nj_dc cc pc (.putfield idx) pc') (h1 : pc + 3 = pc') (hf : nj_FL own idx ci k0 ty true) (hdecl : ∀ r, nj_cls[ci]? = some r → (r.2.1 k0).1 = own) (hn : ∀ a, narrow ty (.ref a) = .ref a) (hfit : ∀ a, fits ty (.ref a) = true) (he : hp[q]? = some (.inr (ci, fs))) (hl : Nat.blt k0 fs.length = true) (hs : hp.set q (.inr (ci, fs.set k0 (.ref y))) = hp') (k : nj_V G ad kc ks pc' ls st hp') : nj_V G ad kc ks pc ls (.ref y :: .ref q :: st) hp := by
  obtain ⟨C, hAO, hnm⟩ := CA
  obtain ⟨⟨p, l, e, R, s, m⟩, ⟨args, below, meth, c, Q⟩, ⟨D, dT, A, sA⟩⟩ := G
  obtain ⟨hx, hb, hml, hown, hts, hR, ⟨hK, hNe, hSt⟩, hlk, hA⟩ := C
  intro H locs lm hsa hP hD hS hL
  obtain ⟨n1, h, h2⟩ := hd
  have e1 : n1 = 3 := by omega
  subst e1; subst h1
  obtain ⟨r, hc, hk, hl2, hty, hfi⟩ := hf
  obtain ⟨c1, ⟨ty0, c2⟩, c3⟩ := nj_cls_ok r (List.mem_of_getElem? hc)
  have hl3 : k0 < fs.length := by simpa [Nat.blt_eq] using hl
  refine va_putF (C := r.1) (T := r.2.1) (N := r.2.2) (v := .ref (ad y)) hx hb hts c1 ty0 c2 c3 hown hK hP hD hS q (nj_pw_at he) hc k0 hk (hts _ hl2) (fun _ z => z) hfi hnm (hdecl r hc) hty (hn _) (hfit _) (by simpa using hl3) h (fun H1 locs1 hP1 hD1 hS1 => ?_)
  have e9 : (nj_pw ad dT hp).set q (ad q, .inr (ci, (fs.map (nj_pv ad)).set k0 (.ref (ad y)))) = nj_pw ad dT hp' := by
    rw [← hs, ← nj_pw_set]
    simp [nj_pe, List.map_set, nj_pv]
  exact k H1 locs1 lm hsa (e9 ▸ hP1) (e9 ▸ hD1) hS1 hL
theorem vr_aast3 {q n y ci j : Nat} {f : Nat → Option Nat} {i : Int32} {vs : List Value} {T : u_T} {N : Nat} (C : nj_C G cc nL own rm) (hd : nj_dc cc pc .aastore pc') (h1 : pc + 1 = pc') (he : hp[q]? = some (.inl (3, n, .inr (.inr (.inr (.inr f)))))) (hv : hp[y]? = some (.inr (ci, vs))) (hc : nj_cls[ci]? = some (nj_RRow, T, N)) (hin : vp_in i n) (hj : i.toNatClampNeg = j) (hs : hp.set q (.inl (3, n, .inr (.inr (.inr (.inr (va_up f j (some y))))))) = hp') (k : nj_V G ad kc ks pc' ls st hp') : nj_V G ad kc ks pc ls (.ref y :: .int i :: .ref q :: st) hp := by
  obtain ⟨⟨p, l, e, R, s, m⟩, ⟨args, below, meth, c, Q⟩, ⟨D, dT, A, sA⟩⟩ := G
  obtain ⟨hx, hb, hml, hown, hts, hR, ⟨hK, hNe, hSt⟩, hlk, hA⟩ := C
  intro H locs lm hsa hP hD hS hL
  subst hj
  obtain ⟨n1, h, h2⟩ := hd
  have e1 : n1 = 1 := by omega
  subst e1; subst h1
  refine va_astq (r := (nj_RRow, T, N)) hx hb hK hP hD hS q 3 y ci (nj_pw_at he) rfl (nj_pw_at hv) hc hin h (fun H1 locs1 hP1 hD1 hS1 => ?_)
  have e9 : (nj_pw ad dT hp).set q (ad q, .inl (dT 3, n, .inr (.inr (.inr (.inr (va_up (fun k => (f k).map ad) i.toNatClampNeg (some (ad y)))))))) = nj_pw ad dT hp' := by
    rw [← hs, ← nj_pw_set]
    have e8 : va_up (fun k => (f k).map ad) i.toNatClampNeg (some (ad y)) = (fun k => (va_up f i.toNatClampNeg (some y) k).map ad) := by
      funext k
      by_cases hk : k = i.toNatClampNeg
      · subst hk; simp [va_up]
      · simp [va_up, hk]
    rw [e8]
    rfl
  exact k H1 locs1 lm hsa (e9 ▸ hP1) (e9 ▸ hD1) hS1 hL
theorem vr_aast4 {q n y ci j : Nat} {f : Nat → Option Nat} {i : Int32} {vs : List Value} {T : u_T} {N : Nat} (C : nj_C G cc nL own rm) (hd : nj_dc cc pc .aastore pc') (h1 : pc + 1 = pc') (he : hp[q]? = some (.inl (4, n, .inr (.inr (.inr (.inr f)))))) (hv : hp[y]? = some (.inr (ci, vs))) (hc : nj_cls[ci]? = some (nj_RText, T, N)) (hin : vp_in i n) (hj : i.toNatClampNeg = j) (hs : hp.set q (.inl (4, n, .inr (.inr (.inr (.inr (va_up f j (some y))))))) = hp') (k : nj_V G ad kc ks pc' ls st hp') : nj_V G ad kc ks pc ls (.ref y :: .int i :: .ref q :: st) hp := by
  obtain ⟨⟨p, l, e, R, s, m⟩, ⟨args, below, meth, c, Q⟩, ⟨D, dT, A, sA⟩⟩ := G
  obtain ⟨hx, hb, hml, hown, hts, hR, ⟨hK, hNe, hSt⟩, hlk, hA⟩ := C
  intro H locs lm hsa hP hD hS hL
  subst hj
  obtain ⟨n1, h, h2⟩ := hd
  have e1 : n1 = 1 := by omega
  subst e1; subst h1
  refine va_astq (r := (nj_RText, T, N)) hx hb hK hP hD hS q 4 y ci (nj_pw_at he) rfl (nj_pw_at hv) hc hin h (fun H1 locs1 hP1 hD1 hS1 => ?_)
  have e9 : (nj_pw ad dT hp).set q (ad q, .inl (dT 4, n, .inr (.inr (.inr (.inr (va_up (fun k => (f k).map ad) i.toNatClampNeg (some (ad y)))))))) = nj_pw ad dT hp' := by
    rw [← hs, ← nj_pw_set]
    have e8 : va_up (fun k => (f k).map ad) i.toNatClampNeg (some (ad y)) = (fun k => (va_up f i.toNatClampNeg (some y) k).map ad) := by
      funext k
      by_cases hk : k = i.toNatClampNeg
      · subst hk; simp [va_up]
      · simp [va_up, hk]
    rw [e8]
    rfl
  exact k H1 locs1 lm hsa (e9 ▸ hP1) (e9 ▸ hD1) hS1 hL
theorem vr_aast5 {q n y ci j : Nat} {f : Nat → Option Nat} {i : Int32} {vs : List Value} {T : u_T} {N : Nat} (C : nj_C G cc nL own rm) (hd : nj_dc cc pc .aastore pc') (h1 : pc + 1 = pc') (he : hp[q]? = some (.inl (5, n, .inr (.inr (.inr (.inr f)))))) (hv : hp[y]? = some (.inr (ci, vs))) (hc : nj_cls[ci]? = some (nj_RClub, T, N)) (hin : vp_in i n) (hj : i.toNatClampNeg = j) (hs : hp.set q (.inl (5, n, .inr (.inr (.inr (.inr (va_up f j (some y))))))) = hp') (k : nj_V G ad kc ks pc' ls st hp') : nj_V G ad kc ks pc ls (.ref y :: .int i :: .ref q :: st) hp := by
  obtain ⟨⟨p, l, e, R, s, m⟩, ⟨args, below, meth, c, Q⟩, ⟨D, dT, A, sA⟩⟩ := G
  obtain ⟨hx, hb, hml, hown, hts, hR, ⟨hK, hNe, hSt⟩, hlk, hA⟩ := C
  intro H locs lm hsa hP hD hS hL
  subst hj
  obtain ⟨n1, h, h2⟩ := hd
  have e1 : n1 = 1 := by omega
  subst e1; subst h1
  refine va_astq (r := (nj_RClub, T, N)) hx hb hK hP hD hS q 5 y ci (nj_pw_at he) rfl (nj_pw_at hv) hc hin h (fun H1 locs1 hP1 hD1 hS1 => ?_)
  have e9 : (nj_pw ad dT hp).set q (ad q, .inl (dT 5, n, .inr (.inr (.inr (.inr (va_up (fun k => (f k).map ad) i.toNatClampNeg (some (ad y)))))))) = nj_pw ad dT hp' := by
    rw [← hs, ← nj_pw_set]
    have e8 : va_up (fun k => (f k).map ad) i.toNatClampNeg (some (ad y)) = (fun k => (va_up f i.toNatClampNeg (some y) k).map ad) := by
      funext k
      by_cases hk : k = i.toNatClampNeg
      · subst hk; simp [va_up]
      · simp [va_up, hk]
    rw [e8]
    rfl
  exact k H1 locs1 lm hsa (e9 ▸ hP1) (e9 ▸ hD1) hS1 hL
theorem vr_oin {idx q : Nat} (C : nj_C G cc nL own rm) (hd : nj_dc cc pc (.invokespecial idx) pc') (h1 : pc + 3 = pc') (hw : .methodLink own idx Lib.objectInit ∈ nj_T0) (hw2 : .instanceMethod Lib.objectInit ∈ nj_T0) (hw3 : .code Lib.objectInit ⟨#[0xb1]⟩ 1 none ∈ nj_T0) (hst : Nat.ble ((st.map fun v => v.category).sum) 8 = true) (hf : Nat.ble 1 rm.frames = true) (hlo : Nat.ble 20 rm.locals = true) (k : nj_V G ad kc ks pc' ls st hp) : nj_V G ad kc ks pc ls (.ref q :: st) hp := by
  obtain ⟨⟨p, l, e, R, s, m⟩, ⟨args, below, meth, c, Q⟩, ⟨D, dT, A, sA⟩⟩ := G
  obtain ⟨hx, hb, hml, hown, hts, hR, ⟨hK, hNe, hSt⟩, hlk, hA⟩ := C
  intro H locs lm hsa hP hD hS hL
  subst hR
  obtain ⟨n1, h, h2⟩ := hd
  have e1 : n1 = 3 := by omega
  subst e1; subst h1
  have hst := Nat.le_of_ble_eq_true hst
  have hlo := Nat.le_of_ble_eq_true hlo
  exact W.objInit hx hb hown (hts _ hw) (hts _ hw2) (hts _ hw3) rfl hL.1 rfl h (Nat.le_of_ble_eq_true hf) (by
    have h8 := nj_cats ad st
    have h9 := lv_room (m := m) (pc := pc) (ls := lm) (rest := List.map (nj_pv ad) (.ref q :: st)) (st := st.map (nj_pv ad)) (by rw [h8]; exact hst)
    omega) (k H locs lm hsa hP hD hS hL)
end NjAlloc
