/-! contracts and calls over nj_V -/
def nj_A (ad : Nat → Nat) (n sz : Nat) : Nat → Prop := fun q => (∃ k, k < n ∧ q = ad k) ∨ sz ≤ q
def nj_Pre (D : va_G) (dT : Nat → ClassId) (sA ad : Nat → Nat) (sz : Nat) (hp : List va_E) (as : List Value) : Array Value → State → Prop := fun v U => v = (as.map (nj_pv ad)).toArray ∧ U.heap.size = sz ∧ nj_Inv D dT sA (nj_A ad hp.length sz) U U.heap ∧ va_P D nj_cls (nj_pw ad dT hp) U.heap ∧ va_D (fun _ => True) (nj_pw ad dT hp) ∧ ∀ j, ad (1000 + j) = sA j
def nj_Post (D : va_G) (dT : Nat → ClassId) (A : Nat → Prop) (ad : Nat → Nat) (r : Option Value) (hp' : List va_E) : Array Value → State → Outcome → State → Prop := fun _ st oc t => oc = .returned (r.map (nj_pv ad)) ∧ va_P D nj_cls (nj_pw ad dT hp') t.heap ∧ va_F A st t
def nj_Con (y : MethodName) (cc : ByteArray) (nL : Nat) (ret : Option FieldType) (rm : Room) (hp : List va_E) (as : List Value) (r : Option Value) (hp' : List va_E) : Prop :=
  hp'.length = hp.length ∧ ∀ (l : Launch) (D : va_G) (dT : Nat → ClassId) (sA ad : Nat → Nat) (sz : Nat), Met l y (.code y cc nL ret :: nj_T0) rm (nj_Pre D dT sA ad sz hp as) (nj_Post D dT (nj_A ad hp.length sz) ad r hp') 0 0 (nj_A ad hp.length sz)
def nj_Rt (G : nj_G) (ad : Nat → Nat) (r : Option Value) (hp' : List va_E) (ret : Option FieldType) : Prop :=
  match G with
  | ((p, l, e, R, s, m), (args, below, meth, c, Q), (D, dT, A, sA)) => Q = MQ below (nj_Post D dT A ad r hp') args s 0 0 A ∧ meth.sig.returnType = ret
-- the locals at a method's entry
def nj_en : List Value → List (Option Value)
  | [] => []
  | .long x :: r => some (.long x) :: none :: nj_en r
  | .double x :: r => some (.double x) :: none :: nj_en r
  | v :: r => some v :: nj_en r
theorem nj_en_cat1 (v : Value) (r : List Value) (h : ¬ v.category = 2) : nj_en (v :: r) = some v :: nj_en r := by
  cases v <;> first | rfl | (simp [Value.category] at h)
theorem nj_en_cat2 (v : Value) (r : List Value) (h : v.category = 2) : nj_en (v :: r) = some v :: none :: nj_en r := by
  cases v <;> first | rfl | (simp [Value.category] at h)
theorem nj_en_of (ad : Nat → Nat) : ∀ (as : List Value) (i j : Nat) (v : Value), (nj_en as)[j]? = some (some v) → (i + j, nj_pv ad v) ∈ lv_args i (as.map (nj_pv ad))
  | [], i, j, v, h => by simp [nj_en] at h
  | a :: r, i, j, v, h => by
    rw [List.map_cons, lv_args, nj_cat]
    by_cases hc : a.category = 2
    · rw [nj_en_cat2 a r hc] at h
      rw [if_pos hc]
      match j, h with
      | 0, h =>
        simp only [List.getElem?_cons_zero, Option.some.injEq] at h
        subst h
        exact List.mem_cons_self
      | 1, h => simp at h
      | j + 2, h =>
        simp only [List.getElem?_cons_succ] at h
        have := nj_en_of ad r (i + 2) j v h
        rw [show i + (j + 2) = i + 2 + j by omega]
        exact List.mem_cons_of_mem _ this
    · rw [nj_en_cat1 a r hc] at h
      rw [if_neg hc]
      match j, h with
      | 0, h =>
        simp only [List.getElem?_cons_zero, Option.some.injEq] at h
        subst h
        exact List.mem_cons_self
      | j + 1, h =>
        simp only [List.getElem?_cons_succ] at h
        have := nj_en_of ad r (i + 1) j v h
        rw [show i + (j + 1) = i + 1 + j by omega]
        exact List.mem_cons_of_mem _ this
theorem nj_en_len (ad : Nat → Nat) : ∀ as : List Value, (lg_sl (as.map (nj_pv ad))).length = (nj_en as).length
  | [] => rfl
  | a :: r => by
    have ih := nj_en_len ad r
    simp only [lg_sl] at ih
    by_cases hc : a.category = 2
    · rw [nj_en_cat2 a r hc]
      simp only [lg_sl, List.map_cons, List.flatMap_cons, nj_cat, hc, if_true, List.length_append, List.length_cons, List.length_nil, ih]
      omega
    · rw [nj_en_cat1 a r hc]
      simp only [lg_sl, List.map_cons, List.flatMap_cons, nj_cat, if_neg hc, List.length_append, List.length_cons, List.length_nil, ih]
      omega
theorem nj_en_none (as : List Value) (n j : Nat) (v : Value) (h : (nj_en as ++ List.replicate n none)[j]? = some (some v)) : (nj_en as)[j]? = some (some v) := by
  by_cases hl : j < (nj_en as).length
  · rwa [List.getElem?_append_left hl] at h
  · rw [List.getElem?_append_right (by omega), List.getElem?_replicate] at h
    split at h <;> cases h
/-- a contract out of a walk -/
theorem nj_con {y : MethodName} {cc : ByteArray} {nL : Nat} {ret : Option FieldType} {rm : Room} {hp : List va_E} {as : List Value} {r : Option Value} {hp' : List va_E} (hy : plainName y.cls = true) (hlen : hp'.length = hp.length) (k : Nat) (hen : (nj_en as).length + k = nL)
    (body : ∀ (G : nj_G) (ad : Nat → Nat), nj_C G cc nL y.cls rm → nj_Rt G ad r hp' ret → nj_V G ad 0 0 0 (nj_en as ++ List.replicate k none) [] hp) : nj_Con y cc nL ret rm hp as r hp' := by
  refine ⟨hlen, fun l D dT sA ad sz => ?_⟩
  refine Met.ofW (cc := cc) (maxL := nL) (ret := ret) hy rfl ?_
  intro p e s m args below meth c s₁ B hml hv
  obtain ⟨rfl, hsz, hI, hP, hD0, hsa⟩ := hv
  have hts := atoms_spec (ws := .code y cc nL ret :: nj_T0) B.pre
  have hown : s.vm.findClass y.cls = some m.cls := findClass_of_methodNamed B.named
  subst hsz
  have h := body ((p, l, e, rm, s, m), (((as.map (nj_pv ad)).toArray), below, meth, c, MQ below (nj_Post D dT (nj_A ad hp.length s.heap.size) ad r hp') ((as.map (nj_pv ad)).toArray) s 0 0 (nj_A ad hp.length s.heap.size)), (D, dT, nj_A ad hp.length s.heap.size, sA)) ad
    ⟨B.exec, B.bytes, hml, hown, fun w hw => hts w (List.mem_cons_of_mem _ hw), rfl, hI, B.notSynchronized, fun q hq => Or.inr hq⟩ ⟨rfl, B.returns⟩
  have hle : (lg_sl (as.map (nj_pv ad))).length ≤ nL := by rw [nj_en_len]; omega
  have hl := lv_entry (as.map (nj_pv ad)) (n := nL) hle
  rw [lg_entry_eq]
  refine h s.heap [] _ hsa hP ?_ va_S.rf ⟨by rw [hml]; exact hl.1, hl.2.1, fun j v hv => ?_⟩
  · refine ⟨hD0.1, fun i q hq => ?_⟩
    obtain ⟨e0, h1, rfl⟩ := nj_pw_of hq
    exact Or.inl ⟨i, (List.getElem?_eq_some_iff.mp h1).1, rfl⟩
  · have h1 := nj_en_of ad as 0 j v (nj_en_none as k j v hv)
    rw [Nat.zero_add] at h1
    exact hl.2.2 _ h1
section NjRet
variable {G : nj_G} {cc : ByteArray} {nL : Nat} {own : String} {rm : Room} {ad : Nat → Nat} {pc pc' : Nat} {ls : List (Option Value)} {hp : List va_E}

theorem vr_iret {v : Int32} (C : nj_C G cc nL own rm) (hq : nj_Rt G ad (some (.int v)) hp (some .int)) (hd : nj_dc cc pc .ireturn pc') (h1 : pc + 1 = pc') : nj_V G ad 0 0 pc ls [.int v] hp := by
  obtain ⟨⟨p, l, e, R, s, m⟩, ⟨args, below, meth, c, Q⟩, ⟨D, dT, A, sA⟩⟩ := G
  obtain ⟨hx, hb, hml, hown, hts, hR, ⟨hK, hNe, hSt⟩, hlk, hA⟩ := C
  obtain ⟨hq, hr⟩ := hq
  intro H locs lm hsa hP hD hS hL
  subst hq
  obtain ⟨n1, h, h2⟩ := hd
  have e1 : n1 = 1 := by omega
  subst e1
  exact W.iret hx hb hr (fun t ht hW => ⟨rfl, by rw [ht]; exact hP, hS.F ht⟩) hS.2.2 h hlk
theorem vr_lret {v : Int64} (C : nj_C G cc nL own rm) (hq : nj_Rt G ad (some (.long v)) hp (some .long)) (hd : nj_dc cc pc .lreturn pc') (h1 : pc + 1 = pc') : nj_V G ad 0 0 pc ls [.long v] hp := by
  obtain ⟨⟨p, l, e, R, s, m⟩, ⟨args, below, meth, c, Q⟩, ⟨D, dT, A, sA⟩⟩ := G
  obtain ⟨hx, hb, hml, hown, hts, hR, ⟨hK, hNe, hSt⟩, hlk, hA⟩ := C
  obtain ⟨hq, hr⟩ := hq
  intro H locs lm hsa hP hD hS hL
  subst hq
  obtain ⟨n1, h, h2⟩ := hd
  have e1 : n1 = 1 := by omega
  subst e1
  exact W.lret hx hb hr (fun t ht hW => ⟨rfl, by rw [ht]; exact hP, hS.F ht⟩) hS.2.2 h hlk
theorem vr_zret (b : Bool) (C : nj_C G cc nL own rm) (hq : nj_Rt G ad (some (.int (nj_b b))) hp (some .boolean)) (hd : nj_dc cc pc .ireturn pc') (h1 : pc + 1 = pc') : nj_V G ad 0 0 pc ls [.int (nj_b b)] hp := by
  obtain ⟨⟨p, l, e, R, s, m⟩, ⟨args, below, meth, c, Q⟩, ⟨D, dT, A, sA⟩⟩ := G
  obtain ⟨hx, hb, hml, hown, hts, hR, ⟨hK, hNe, hSt⟩, hlk, hA⟩ := C
  obtain ⟨hq, hr⟩ := hq
  intro H locs lm hsa hP hD hS hL
  subst hq
  obtain ⟨n1, h, h2⟩ := hd
  have e1 : n1 = 1 := by omega
  subst e1
  exact W.zret hx hb hr (by cases b <;> rfl) (fun t ht hW => ⟨rfl, by rw [ht]; exact hP, hS.F ht⟩) hS.2.2 h hlk
theorem vr_vret (C : nj_C G cc nL own rm) (hq : nj_Rt G ad none hp none) (hd : nj_dc cc pc .return_ pc') (h1 : pc + 1 = pc') : nj_V G ad 0 0 pc ls [] hp := by
  obtain ⟨⟨p, l, e, R, s, m⟩, ⟨args, below, meth, c, Q⟩, ⟨D, dT, A, sA⟩⟩ := G
  obtain ⟨hx, hb, hml, hown, hts, hR, ⟨hK, hNe, hSt⟩, hlk, hA⟩ := C
  obtain ⟨hq, hr⟩ := hq
  intro H locs lm hsa hP hD hS hL
  subst hq
  obtain ⟨n1, h, h2⟩ := hd
  have e1 : n1 = 1 := by omega
  subst e1
  exact W.vret hx hb hr (fun t ht hW => ⟨rfl, by rw [ht]; exact hP, hS.F ht⟩) hS.2.2 h hlk
end NjRet
-- a part of a world under other names
def nj_rn (is : List Nat) (k : Nat) : Nat := if k < 1000 then is.getD k 0 else k
def nj_re (is : List Nat) (e : va_E) : va_E := nj_pe (nj_rn is) (fun t => t) e
def nj_emb (hp : List va_E) (is : List Nat) (hpc : List va_E) : Prop := is.map (fun k => hp[k]?) = hpc.map (fun e => some (nj_re is e))
def nj_patch : List va_E → List Nat → List va_E → List va_E
  | hp, k :: is, e :: es => nj_patch (hp.set k e) is es
  | hp, _, _ => hp
theorem nj_pv_pv (f g : Nat → Nat) (v : Value) : nj_pv f (nj_pv g v) = nj_pv (fun k => f (g k)) v := by cases v <;> rfl
theorem nj_px_px (f g : Nat → Nat) (x : nj_AR) : nj_px f (nj_px g x) = nj_px (fun k => f (g k)) x := by
  rcases x with x | x | x | x | x <;> first | rfl | (simp only [nj_px, Option.map_map]; rfl)
theorem nj_pe_re (ad : Nat → Nat) (dT : Nat → ClassId) (is : List Nat) (e : va_E) : nj_pe ad dT (nj_re is e) = nj_pe (fun k => ad (nj_rn is k)) dT e := by
  rcases e with ⟨t, n, x⟩ | ⟨c, fs⟩
  · simp only [nj_re, nj_pe, nj_px_px]
  · simp only [nj_re, nj_pe, List.map_map]
    congr 2
    apply List.map_congr_left
    intro v _
    exact nj_pv_pv _ _ v
theorem nj_patch_len : ∀ (is : List Nat) (es hp : List va_E), (nj_patch hp is es).length = hp.length
  | [], es, hp => by cases es <;> rfl
  | k :: is, [], hp => rfl
  | k :: is, e :: es, hp => by rw [nj_patch, nj_patch_len is es, List.length_set]
theorem nj_patch_out : ∀ (is : List Nat) (es hp : List va_E) (k : Nat), k ∉ is → (nj_patch hp is es)[k]? = hp[k]?
  | [], es, hp, k, h => by cases es <;> rfl
  | i :: is, [], hp, k, h => rfl
  | i :: is, e :: es, hp, k, h => by
    rw [nj_patch, nj_patch_out is es _ k (fun q => h (List.mem_cons_of_mem _ q)), List.getElem?_set_ne (fun q => h (by rw [q]; exact List.mem_cons_self))]
theorem nj_patch_in : ∀ (is : List Nat) (es hp : List va_E) (j k : Nat) (e : va_E), va_nd is = true → is[j]? = some k → es[j]? = some e → k < hp.length → (nj_patch hp is es)[k]? = some e
  | [], es, hp, j, k, e, hn, h1, h2, hl => by simp at h1
  | i :: is, [], hp, j, k, e, hn, h1, h2, hl => by simp at h2
  | i :: is, x :: es, hp, j, k, e, hn, h1, h2, hl => by
    simp only [va_nd, Bool.and_eq_true, decide_eq_true_eq] at hn
    cases j with
    | zero =>
      simp only [List.getElem?_cons_zero, Option.some.injEq] at h1 h2
      subst h1; subst h2
      rw [nj_patch, nj_patch_out is es _ i hn.1, List.getElem?_set_self hl]
    | succ j =>
      simp only [List.getElem?_cons_succ] at h1 h2
      rw [nj_patch]
      exact nj_patch_in is es _ j k e hn.2 h1 h2 (by rw [List.length_set]; exact hl)
theorem nj_emb_at {hp hpc : List va_E} {is : List Nat} (h : nj_emb hp is hpc) {j : Nat} {e : va_E} (he : hpc[j]? = some e) : ∃ k, is[j]? = some k ∧ hp[k]? = some (nj_re is e) := by
  have h1 : (is.map (fun k => hp[k]?))[j]? = some (some (nj_re is e)) := by rw [h, List.getElem?_map, he]; rfl
  rw [List.getElem?_map] at h1
  cases hi : is[j]? with
  | none => rw [hi] at h1; cases h1
  | some k => rw [hi] at h1; exact ⟨k, rfl, Option.some.inj h1⟩
theorem nj_emb_len {hp hpc : List va_E} {is : List Nat} (h : nj_emb hp is hpc) : is.length = hpc.length := by
  have := congrArg List.length h
  simpa using this
theorem nj_patch_same {hp hpc : List va_E} {is : List Nat} (h : nj_emb hp is hpc) (hn : va_nd is = true) : nj_patch hp is (hpc.map (nj_re is)) = hp := by
  apply List.ext_getElem?
  intro k
  by_cases hk : k ∈ is
  · obtain ⟨j, hj⟩ := List.getElem?_of_mem hk
    have hl : j < hpc.length := by rw [← nj_emb_len h]; exact (List.getElem?_eq_some_iff.mp hj).1
    obtain ⟨k', h1, h2⟩ := nj_emb_at h (List.getElem?_eq_getElem hl)
    rw [hj] at h1
    cases h1
    rw [h2]
    exact nj_patch_in is _ hp j k _ hn hj (by rw [List.getElem?_map, List.getElem?_eq_getElem hl]; rfl) (List.getElem?_eq_some_iff.mp h2).1
  · exact nj_patch_out is _ hp k hk
theorem nj_rn_at {is : List Nat} {j k : Nat} (h : is[j]? = some k) (hj : j < 1000) : nj_rn is j = k := by
  rw [nj_rn, if_pos hj, List.getD_eq_getElem?_getD, h]; rfl
theorem nj_blind (D : va_G) (dT : Nat → ClassId) (sA ad : Nat → Nat) (sz : Nat) (hp : List va_E) (as : List Value) : FrameBlind (nj_Pre D dT sA ad sz hp as) := by
  intro a U g mk q
  obtain ⟨q0, q1, ⟨qK, qN, qS⟩, qP, qD, qa⟩ := q
  exact ⟨q0, q1, ⟨va_K.moved (u := U) (U := U.calling g mk a) (Vm.Alike.refl U.vm) qK, qN.same rfl, qS.moved (u := U) (U := U.calling g mk a) (Vm.Alike.refl U.vm)⟩, qP, qD, qa⟩
section NjCalls
variable {p : Program} {l : Launch} {e : Env} {R : Room} {s : State} {m : MethodId} {args : Array Value} {below : List Frame} {meth : Method} {c : Code} {H : Heap} {locs : List Loc} {kc ks : Nat} {Q : State → Prop}
variable {D : va_G} {dT : Nat → ClassId} {A : Nat → Prop} {sA ad : Nat → Nat} {hp hpc hpc' : List va_E} {is : List Nat} {as : List Value} {r : Option Value}
/-- the callee's start, at the call -/
theorem nj_start (hK : va_K D nj_cls (nj_tys dT) s) (hNe : nj_Ne s) (hSt : nj_St sA A s s.heap) (hA : ∀ q, s.heap.size ≤ q → A q) (hsa : ∀ j, ad (1000 + j) = sA j) (hP : va_P D nj_cls (nj_pw ad dT hp) H) (hD : va_D A (nj_pw ad dT hp)) (hS : va_S A s.heap H locs) (hemb : nj_emb hp is hpc) (hn : va_nd is = true) (hlen : is.length ≤ 1000) :
    (∀ U : State, U.heap = H → s.WarmedH U.vm → nj_Pre D dT sA (fun k => ad (nj_rn is k)) H.size hpc as (as.map (nj_pv (fun k => ad (nj_rn is k)))).toArray U) ∧ (∀ q, nj_A (fun k => ad (nj_rn is k)) hpc.length H.size q → A q) := by
  have hl := nj_emb_len hemb
  have at1 : ∀ (j : Nat) (e : va_E), hpc[j]? = some e → ∃ k, is[j]? = some k ∧ hp[k]? = some (nj_re is e) ∧ nj_rn is j = k := by
    intro j e he
    obtain ⟨k, h1, h2⟩ := nj_emb_at hemb he
    have hj : j < hpc.length := (List.getElem?_eq_some_iff.mp he).1
    exact ⟨k, h1, h2, nj_rn_at h1 (by omega)⟩
  have hsub : ∀ q, nj_A (fun k => ad (nj_rn is k)) hpc.length H.size q → A q := by
    intro q hq
    rcases hq with ⟨j, hj, rfl⟩ | hq
    · obtain ⟨k, h1, h2, h3⟩ := at1 j _ (List.getElem?_eq_getElem hj)
      have := hD.2 k _ (nj_pw_at h2)
      show A (ad (nj_rn is j))
      rw [h3]
      exact this
    · exact hA q (Nat.le_trans hS.1 hq)
  refine ⟨fun U hU hW => ⟨rfl, by rw [hU], ⟨va_K.moved hW.alike hK, hNe.warm hW, ?_⟩, ?_, ?_, fun j => ?_⟩, hsub⟩
  · rw [hU]
    exact ((hSt.kept (fun a h1 h2 => hS.2.1 a h1 h2)).narrow hsub).moved hW.alike
  · rw [hU]
    intro j q hq
    obtain ⟨e0, h1, rfl⟩ := nj_pw_of hq
    obtain ⟨k, h2, h3, h4⟩ := at1 j e0 h1
    have := hP k _ (nj_pw_at h3)
    rw [nj_pe_re] at this
    rw [h4]
    exact this
  · refine ⟨fun i j x y hi hj hxy => ?_, fun _ _ _ => trivial⟩
    obtain ⟨e1, h1, rfl⟩ := nj_pw_of hi
    obtain ⟨e2, h2, rfl⟩ := nj_pw_of hj
    obtain ⟨k1, a1, b1, c1⟩ := at1 i e1 h1
    obtain ⟨k2, a2, b2, c2⟩ := at1 j e2 h2
    simp only [c1, c2] at hxy
    have := hD.1 k1 k2 _ _ (nj_pw_at b1) (nj_pw_at b2) hxy
    subst this
    exact va_nd_inj is hn i j k1 a1 a2
  · show ad (nj_rn is (1000 + j)) = sA j
    rw [nj_rn, if_neg (by omega)]
    exact hsa j
/-- behind the call -/
theorem nj_behind {t : State} (hP : va_P D nj_cls (nj_pw ad dT hp) H) (hD : va_D A (nj_pw ad dT hp)) (hemb : nj_emb hp is hpc) (hn : va_nd is = true) (hlen : is.length ≤ 1000) (hl2 : hpc'.length = hpc.length)
    (hPt : va_P D nj_cls (nj_pw (fun k => ad (nj_rn is k)) dT hpc') t.heap) (hk : ∀ q : Nat, q < H.size → ¬ nj_A (fun k => ad (nj_rn is k)) hpc.length H.size q → t.heap[q]? = H[q]?) :
    va_P D nj_cls (nj_pw ad dT (nj_patch hp is (hpc'.map (nj_re is)))) t.heap ∧ va_D A (nj_pw ad dT (nj_patch hp is (hpc'.map (nj_re is)))) := by
  have hl := nj_emb_len hemb
  have at1 : ∀ (j : Nat), j < hpc.length → ∃ k, is[j]? = some k ∧ (∃ e, hp[k]? = some e) ∧ nj_rn is j = k := by
    intro j hj
    obtain ⟨k, h1, h2⟩ := nj_emb_at hemb (List.getElem?_eq_getElem hj)
    exact ⟨k, h1, ⟨_, h2⟩, nj_rn_at h1 (by omega)⟩
  constructor
  · intro k q hq
    obtain ⟨e0, h1, rfl⟩ := nj_pw_of hq
    by_cases hm : k ∈ is
    · obtain ⟨j, hj⟩ := List.getElem?_of_mem hm
      have hj2 : j < hpc.length := by rw [← hl]; exact (List.getElem?_eq_some_iff.mp hj).1
      obtain ⟨k', a1, ⟨e1, a2⟩, a3⟩ := at1 j hj2
      rw [hj] at a1
      cases a1
      have hj3 : hpc'[j]? = some hpc'[j] := List.getElem?_eq_getElem (by omega)
      have h4 := nj_patch_in is (hpc'.map (nj_re is)) hp j k _ hn hj (by rw [List.getElem?_map, hj3]; rfl) (List.getElem?_eq_some_iff.mp a2).1
      rw [h4] at h1
      cases h1
      have := hPt j _ (nj_pw_at hj3)
      rw [nj_pe_re]
      rw [← a3]
      exact this
    · rw [nj_patch_out is _ hp k hm] at h1
      have h2 := hP k _ (nj_pw_at h1)
      refine h2.kept (hk _ h2.lt (fun z => ?_))
      rcases z with ⟨j, hj, h5⟩ | z
      · obtain ⟨k', a1, ⟨e1, a2⟩, a3⟩ := at1 j hj
        simp only [a3] at h5
        have := hD.1 k k' _ _ (nj_pw_at h1) (nj_pw_at a2) h5
        subst this
        exact hm (List.mem_of_getElem? a1)
      · exact Nat.not_le.mpr h2.lt z
  · refine nj_D_of hD (fun k q hq => ?_) (fun _ z => z)
    obtain ⟨e0, h1, rfl⟩ := nj_pw_of hq
    have hk1 : k < hp.length := by rw [← nj_patch_len is (hpc'.map (nj_re is)) hp]; exact (List.getElem?_eq_some_iff.mp h1).1
    exact ⟨_, nj_pw_at (List.getElem?_eq_getElem hk1), rfl⟩
theorem nj_run {pc : Nat} {lm : Array Slot} {st0 rest : List Value} {a : Array Value} (hr : va_Run p l e R s m args below meth c H locs kc ks 0 0 (F0 m pc lm st0) rest (nj_Post D dT (nj_A (fun k => ad (nj_rn is k)) hpc.length H.size) (fun k => ad (nj_rn is k)) r hpc' a) (nj_A (fun k => ad (nj_rn is k)) hpc.length H.size))
    (hP : va_P D nj_cls (nj_pw ad dT hp) H) (hD : va_D A (nj_pw ad dT hp)) (hS : va_S A s.heap H locs) (hemb : nj_emb hp is hpc) (hn : va_nd is = true) (hlen : is.length ≤ 1000) (hl2 : hpc'.length = hpc.length) (hsub : ∀ q, nj_A (fun k => ad (nj_rn is k)) hpc.length H.size q → A q)
    (kk : ∀ (H1 : Heap) (locs1 : List Loc), va_P D nj_cls (nj_pw ad dT (nj_patch hp is (hpc'.map (nj_re is)))) H1 → va_D A (nj_pw ad dT (nj_patch hp is (hpc'.map (nj_re is)))) → va_S A s.heap H1 locs1 → W p l e R s m args below meth c H1 locs1 kc ks Q (F0 m (pc + 3) lm ((r.map (nj_pv (fun k => ad (nj_rn is k)))).toList ++ rest))) : W p l e R s m args below meth c H locs kc ks Q (F0 m pc lm st0) := by
  intro T hT X
  obtain ⟨v, st₀, t, T', L, h0, X', hL, e1, e2, ⟨hv, hPt, hz, hk⟩, go⟩ := hr T hT X
  cases hv
  rw [h0] at hz hk
  obtain ⟨hP1, hD1⟩ := nj_behind hP hD hemb hn hlen hl2 hPt hk
  obtain ⟨t2, a1, b1⟩ := kk T'.heap (locs ++ L) (by rw [e1]; exact hP1) hD1
    ⟨Nat.le_trans hS.1 (by rw [e1]; exact hz), fun q h1 h2 => by rw [e1, hk q (Nat.lt_of_lt_of_le h1 hS.1) (fun z => h2 (hsub q z))]; exact hS.2.1 q h1 h2, fun q hq => by
      rcases List.mem_append.mp hq with h | h
      · exact hS.2.2 q h
      · exact hsub _ (hL q h)⟩ T' rfl X'
  exact ⟨t2, go t2 a1, b1⟩
end NjCalls
/-- what the tables say of a method -/
def nj_MV (y : MethodName) (cy : ByteArray) (nLy : Nat) (rety : Option FieldType) (n : Nat) : Prop := .instanceMethod y ∈ nj_T0 ∧ .selects y.cls y y ∈ nj_T0 ∧ .initialized y.cls ∈ nj_T0 ∧ .code y cy nLy rety ∈ nj_T0 ∧ (y.cls ≠ "java/lang/invoke/MethodHandle" ∧ y.cls ≠ "java/lang/invoke/VarHandle" ∧ (parseMethodDescriptor y.desc).map (fun d => d.parameters.length) = some n)
def nj_MS (y : MethodName) (cy : ByteArray) (nLy : Nat) (rety : Option FieldType) (n : Nat) : Prop := .static y ∈ nj_T0 ∧ .initialized y.cls ∈ nj_T0 ∧ .code y cy nLy rety ∈ nj_T0 ∧ (y.cls ≠ "java/lang/invoke/MethodHandle" ∧ y.cls ≠ "java/lang/invoke/VarHandle" ∧ (parseMethodDescriptor y.desc).map (fun d => d.parameters.length) = some n)
section NjCallRows
variable {G : nj_G} {cc : ByteArray} {nL : Nat} {own : String} {rm : Room} {ad : Nat → Nat} {kc ks pc pc' : Nat} {ls : List (Option Value)} {st : List Value} {hp hp' : List va_E}
variable {y : MethodName} {cy : ByteArray} {nLy n idx : Nat} {rety : Option FieldType} {rmc : Room} {hpc hpc' : List va_E} {as : List Value} {r : Option Value}
theorem nj_stk (ad : Nat → Nat) (is : List Nat) (as : List Value) (st : List Value) : ((as.map (nj_pv (nj_rn is))).reverse ++ st).map (nj_pv ad) = (as.map (nj_pv (fun k => ad (nj_rn is k)))).reverse ++ st.map (nj_pv ad) := by
  rw [List.map_append, List.map_reverse, List.map_map]
  congr 2
  apply List.map_congr_left
  intro v _
  exact nj_pv_pv _ _ v
theorem nj_stk2 (ad : Nat → Nat) (is : List Nat) (r : Option Value) (st : List Value) : ((r.map (nj_pv (nj_rn is))).toList ++ st).map (nj_pv ad) = (r.map (nj_pv (fun k => ad (nj_rn is k)))).toList ++ st.map (nj_pv ad) := by
  cases r with
  | none => rfl
  | some v => simp [nj_pv_pv]
theorem nj_cats (ad : Nat → Nat) (st : List Value) : ((st.map (nj_pv ad)).map fun v => v.category).sum = (st.map fun v => v.category).sum := by
  rw [List.map_map]
  congr 1
  apply List.map_congr_left
  intro v _
  exact nj_cat ad v
theorem vr_callV (is : List Nat) (C : nj_C G cc nL own rm) (hd : nj_dc cc pc (.invokevirtual idx) pc') (h1 : pc + 3 = pc') (hlk : .methodLink own idx y ∈ nj_T0) (hy : nj_MV y cy nLy rety n) (hM : nj_Con y cy nLy rety rmc hpc (.ref 0 :: as) r hpc')
    (hemb : nj_emb hp is hpc) (hn : va_nd is = true) (hlen : Nat.ble is.length 1000 = true) {ci : Nat} {fs : List Value} (hrc : hpc[0]? = some (.inr (ci, fs))) {q : vw_C} (hcl : nj_cls[ci]? = some q) (hq : q.1 = y.cls) (hna : as.length = n)
    (hst : Nat.ble ((st.map fun v => v.category).sum) 8 = true) (hrm : rmc.cells = 0 ∧ rmc.slots = 0 ∧ Nat.ble (rmc.frames + 1) rm.frames = true ∧ Nat.ble (8 + (nLy + 11) + rmc.locals) rm.locals = true) (hkc : kc ≤ rm.cells) (hks : ks ≤ rm.slots)
    (k : nj_V G ad kc ks pc' ls ((r.map (nj_pv (nj_rn is))).toList ++ st) (nj_patch hp is (hpc'.map (nj_re is)))) : nj_V G ad kc ks pc ls ((as.map (nj_pv (nj_rn is))).reverse ++ .ref (nj_rn is 0) :: st) hp := by
  obtain ⟨⟨p, l, e, R, s, m⟩, ⟨args, below, meth, c, Q⟩, ⟨D, dT, A, sA⟩⟩ := G
  obtain ⟨hx, hb, hml, hown, hts, hR, ⟨hK, hNe, hSt⟩, hlk0, hA⟩ := C
  intro H locs lm hsa hP hD hS hL
  subst hR
  obtain ⟨n1, h, h2⟩ := hd
  have e1 : n1 = 3 := by omega
  subst e1; subst h1
  obtain ⟨y1, y2, y3, y4, y5⟩ := hy
  obtain ⟨r1, r2, r3, r4⟩ := hrm
  have hlen := Nat.le_of_ble_eq_true hlen
  obtain ⟨hs1, hsub⟩ := nj_start (as := .ref 0 :: as) hK hNe hSt hA hsa hP hD hS hemb hn hlen
  have cw : CallW R s args own y.cls idx y cy nLy rety (.code y cy nLy rety :: nj_T0) rmc 0 0 n := by
    refine cwV n hts (nj_goodIn fun w hw => ?_) rfl r1 r2 ⟨rfl, y5⟩ ⟨Nat.le_of_ble_eq_true r3, Nat.le_of_ble_eq_true r4⟩
    simp only [wsV, List.mem_append, List.mem_cons, List.not_mem_nil, or_false] at hw
    rcases hw with (rfl | rfl | rfl | rfl) | rfl | hw
    · exact hlk
    · exact y1
    · exact y2
    · exact y3
    · exact y4
    · exact hw
  obtain ⟨k0, g1, g2⟩ := nj_emb_at hemb hrc
  have e0 : nj_rn is 0 = k0 := nj_rn_at g1 (by decide)
  have hrecv : ∃ cellB : Cell, H[ad (nj_rn is 0)]? = some cellB ∧ cellB.vm.isStatics = false ∧ s.vm.findClass y.cls = some cellB.cls := by
    rw [e0, ← hq]
    have g3 := nj_pw_at (ad := ad) (dT := dT) g2
    exact va_recv hK hP hcl g3
  have hk : List.map (nj_pv ad) ((as.map (nj_pv (nj_rn is))).reverse ++ .ref (nj_rn is 0) :: st) = (as.map (nj_pv (fun k => ad (nj_rn is k)))).reverse ++ .ref (ad (nj_rn is 0)) :: st.map (nj_pv ad) := nj_stk ad is as (.ref (nj_rn is 0) :: st)
  rw [hk]
  refine nj_run (va_runV (As := as.map (nj_pv (fun k => ad (nj_rn is k)))) (rest := st.map (nj_pv ad)) ⟨hx, hb, hml, hown, hts⟩ (hM.2 l D dT sA (fun k => ad (nj_rn is k)) H.size) cw ⟨nj_blind _ _ _ _ _ _ _, hrecv, hs1⟩ rfl (by simpa using hna) (hL.1.trans hml) rfl (lv_room (by rw [nj_cats]; exact Nat.le_of_ble_eq_true hst)) h ⟨hkc, hks⟩) hP hD hS hemb hn hlen hM.1 hsub (fun H1 locs1 hP1 hD1 hS1 => ?_)
  have := k H1 locs1 lm hsa hP1 hD1 hS1 hL
  rwa [nj_stk2] at this
theorem vr_callS (is : List Nat) (C : nj_C G cc nL own rm) (hd : nj_dc cc pc (.invokestatic idx) pc') (h1 : pc + 3 = pc') (hlk : .methodLink own idx y ∈ nj_T0) (hy : nj_MS y cy nLy rety n) (hM : nj_Con y cy nLy rety rmc hpc as r hpc')
    (hemb : nj_emb hp is hpc) (hn : va_nd is = true) (hlen : Nat.ble is.length 1000 = true) (hna : as.length = n)
    (hst : Nat.ble ((st.map fun v => v.category).sum) 8 = true) (hrm : rmc.cells = 0 ∧ rmc.slots = 0 ∧ Nat.ble (rmc.frames + 1) rm.frames = true ∧ Nat.ble (8 + (nLy + 11) + rmc.locals) rm.locals = true) (hkc : kc ≤ rm.cells) (hks : ks ≤ rm.slots)
    (k : nj_V G ad kc ks pc' ls ((r.map (nj_pv (nj_rn is))).toList ++ st) (nj_patch hp is (hpc'.map (nj_re is)))) : nj_V G ad kc ks pc ls ((as.map (nj_pv (nj_rn is))).reverse ++ st) hp := by
  obtain ⟨⟨p, l, e, R, s, m⟩, ⟨args, below, meth, c, Q⟩, ⟨D, dT, A, sA⟩⟩ := G
  obtain ⟨hx, hb, hml, hown, hts, hR, ⟨hK, hNe, hSt⟩, hlk0, hA⟩ := C
  intro H locs lm hsa hP hD hS hL
  subst hR
  obtain ⟨n1, h, h2⟩ := hd
  have e1 : n1 = 3 := by omega
  subst e1; subst h1
  obtain ⟨y1, y3, y4, y5⟩ := hy
  obtain ⟨r1, r2, r3, r4⟩ := hrm
  have hlen := Nat.le_of_ble_eq_true hlen
  obtain ⟨hs1, hsub⟩ := nj_start (as := as) hK hNe hSt hA hsa hP hD hS hemb hn hlen
  have cw : CallB R s args own idx y cy nLy rety (.code y cy nLy rety :: nj_T0) rmc 0 0 n ∧ (Cond.static y).before args s = true := by
    refine va_cwS n hts (nj_goodIn fun w hw => ?_) rfl r1 r2 y5 ⟨Nat.le_of_ble_eq_true r3, Nat.le_of_ble_eq_true r4⟩
    simp only [va_wsS, List.mem_append, List.mem_cons, List.not_mem_nil, or_false] at hw
    rcases hw with (rfl | rfl | rfl) | rfl | hw
    · exact hlk
    · exact y1
    · exact y3
    · exact y4
    · exact hw
  rw [nj_stk]
  refine nj_run (va_runS (As := as.map (nj_pv (fun k => ad (nj_rn is k)))) (rest := st.map (nj_pv ad)) ⟨hx, hb, hml, hown, hts⟩ (hM.2 l D dT sA (fun k => ad (nj_rn is k)) H.size) cw ⟨nj_blind _ _ _ _ _ _ _, hs1⟩ rfl (by simpa using hna) (hL.1.trans hml) rfl (lv_room (by rw [nj_cats]; exact Nat.le_of_ble_eq_true hst)) h ⟨hkc, hks⟩) hP hD hS hemb hn hlen hM.1 hsub (fun H1 locs1 hP1 hD1 hS1 => ?_)
  have := k H1 locs1 lm hsa hP1 hD1 hS1 hL
  rwa [nj_stk2] at this
def nj_Em (hp : List va_E) (is : List Nat) (hpc : List va_E) : Prop := nj_emb hp is hpc ∧ va_nd is = true ∧ Nat.ble is.length 1000 = true
/-- the room of a call -/
def nj_Ro (rmc rm : Room) (nLy : Nat) : Prop := rmc.cells = 0 ∧ rmc.slots = 0 ∧ Nat.ble (rmc.frames + 1) rm.frames = true ∧ Nat.ble (8 + (nLy + 11) + rmc.locals) rm.locals = true
/-- a cell of an object of the class of y -/
def nj_Ob (y : MethodName) (e : Option va_E) : Prop := ∃ (ci : Nat) (fs : List Value) (q : vw_C), e = some (.inr (ci, fs)) ∧ nj_cls[ci]? = some q ∧ q.1 = y.cls
theorem vr_cVip (is : List Nat) (as st : List Value) {st0 : List Value} {v : Int32} (C : nj_C G cc nL own rm) (hd : nj_dc cc pc (.invokevirtual idx) pc') (h1 : pc + 3 = pc') (hlk : .methodLink own idx y ∈ nj_T0) (hy : nj_MV y cy nLy rety n) (hM : nj_Con y cy nLy rety rmc hpc (.ref 0 :: as) (some (.int v)) hpc) (hE : nj_Em hp is hpc) (ho : nj_Ob y (hpc[0]?)) (hna : as.length = n) (hst : Nat.ble ((st.map fun v => v.category).sum) 8 = true) (hrm : nj_Ro rmc rm nLy) (hkc : kc ≤ rm.cells) (hks : ks ≤ rm.slots) (hsk : (as.map (nj_pv (nj_rn is))).reverse ++ .ref (nj_rn is 0) :: st = st0) (k : nj_V G ad kc ks pc' ls (.int v :: st) hp) : nj_V G ad kc ks pc ls st0 hp := by
  subst hsk
  obtain ⟨ci, fs, q, o1, o2, o3⟩ := ho
  have e0 := nj_patch_same hE.1 hE.2.1
  refine vr_callV is C hd h1 hlk hy hM hE.1 hE.2.1 hE.2.2 o1 o2 o3 hna hst hrm hkc hks ?_
  rw [e0]
  exact k
theorem vr_cVi (is : List Nat) (as st : List Value) {st0 : List Value} {v : Int32} (C : nj_C G cc nL own rm) (hd : nj_dc cc pc (.invokevirtual idx) pc') (h1 : pc + 3 = pc') (hlk : .methodLink own idx y ∈ nj_T0) (hy : nj_MV y cy nLy rety n) (hM : nj_Con y cy nLy rety rmc hpc (.ref 0 :: as) (some (.int v)) hpc') (hE : nj_Em hp is hpc) (ho : nj_Ob y (hpc[0]?)) (hna : as.length = n) (hst : Nat.ble ((st.map fun v => v.category).sum) 8 = true) (hrm : nj_Ro rmc rm nLy) (hkc : kc ≤ rm.cells) (hks : ks ≤ rm.slots) (hsk : (as.map (nj_pv (nj_rn is))).reverse ++ .ref (nj_rn is 0) :: st = st0) (hpa : nj_patch hp is (hpc'.map (nj_re is)) = hp') (k : nj_V G ad kc ks pc' ls (.int v :: st) hp') : nj_V G ad kc ks pc ls st0 hp := by
  subst hsk
  obtain ⟨ci, fs, q, o1, o2, o3⟩ := ho
  subst hpa
  exact vr_callV is C hd h1 hlk hy hM hE.1 hE.2.1 hE.2.2 o1 o2 o3 hna hst hrm hkc hks k
theorem vr_cVlp (is : List Nat) (as st : List Value) {st0 : List Value} {v : Int64} (C : nj_C G cc nL own rm) (hd : nj_dc cc pc (.invokevirtual idx) pc') (h1 : pc + 3 = pc') (hlk : .methodLink own idx y ∈ nj_T0) (hy : nj_MV y cy nLy rety n) (hM : nj_Con y cy nLy rety rmc hpc (.ref 0 :: as) (some (.long v)) hpc) (hE : nj_Em hp is hpc) (ho : nj_Ob y (hpc[0]?)) (hna : as.length = n) (hst : Nat.ble ((st.map fun v => v.category).sum) 8 = true) (hrm : nj_Ro rmc rm nLy) (hkc : kc ≤ rm.cells) (hks : ks ≤ rm.slots) (hsk : (as.map (nj_pv (nj_rn is))).reverse ++ .ref (nj_rn is 0) :: st = st0) (k : nj_V G ad kc ks pc' ls (.long v :: st) hp) : nj_V G ad kc ks pc ls st0 hp := by
  subst hsk
  obtain ⟨ci, fs, q, o1, o2, o3⟩ := ho
  have e0 := nj_patch_same hE.1 hE.2.1
  refine vr_callV is C hd h1 hlk hy hM hE.1 hE.2.1 hE.2.2 o1 o2 o3 hna hst hrm hkc hks ?_
  rw [e0]
  exact k
theorem vr_cVl (is : List Nat) (as st : List Value) {st0 : List Value} {v : Int64} (C : nj_C G cc nL own rm) (hd : nj_dc cc pc (.invokevirtual idx) pc') (h1 : pc + 3 = pc') (hlk : .methodLink own idx y ∈ nj_T0) (hy : nj_MV y cy nLy rety n) (hM : nj_Con y cy nLy rety rmc hpc (.ref 0 :: as) (some (.long v)) hpc') (hE : nj_Em hp is hpc) (ho : nj_Ob y (hpc[0]?)) (hna : as.length = n) (hst : Nat.ble ((st.map fun v => v.category).sum) 8 = true) (hrm : nj_Ro rmc rm nLy) (hkc : kc ≤ rm.cells) (hks : ks ≤ rm.slots) (hsk : (as.map (nj_pv (nj_rn is))).reverse ++ .ref (nj_rn is 0) :: st = st0) (hpa : nj_patch hp is (hpc'.map (nj_re is)) = hp') (k : nj_V G ad kc ks pc' ls (.long v :: st) hp') : nj_V G ad kc ks pc ls st0 hp := by
  subst hsk
  obtain ⟨ci, fs, q, o1, o2, o3⟩ := ho
  subst hpa
  exact vr_callV is C hd h1 hlk hy hM hE.1 hE.2.1 hE.2.2 o1 o2 o3 hna hst hrm hkc hks k
theorem vr_cVv (is : List Nat) (as st : List Value) {st0 : List Value} (C : nj_C G cc nL own rm) (hd : nj_dc cc pc (.invokevirtual idx) pc') (h1 : pc + 3 = pc') (hlk : .methodLink own idx y ∈ nj_T0) (hy : nj_MV y cy nLy rety n) (hM : nj_Con y cy nLy rety rmc hpc (.ref 0 :: as) none hpc') (hE : nj_Em hp is hpc) (ho : nj_Ob y (hpc[0]?)) (hna : as.length = n) (hst : Nat.ble ((st.map fun v => v.category).sum) 8 = true) (hrm : nj_Ro rmc rm nLy) (hkc : kc ≤ rm.cells) (hks : ks ≤ rm.slots) (hsk : (as.map (nj_pv (nj_rn is))).reverse ++ .ref (nj_rn is 0) :: st = st0) (hpa : nj_patch hp is (hpc'.map (nj_re is)) = hp') (k : nj_V G ad kc ks pc' ls st hp') : nj_V G ad kc ks pc ls st0 hp := by
  subst hsk
  obtain ⟨ci, fs, q, o1, o2, o3⟩ := ho
  subst hpa
  exact vr_callV is C hd h1 hlk hy hM hE.1 hE.2.1 hE.2.2 o1 o2 o3 hna hst hrm hkc hks k
theorem vr_cSip (is : List Nat) (as st : List Value) {st0 : List Value} {v : Int32} (C : nj_C G cc nL own rm) (hd : nj_dc cc pc (.invokestatic idx) pc') (h1 : pc + 3 = pc') (hlk : .methodLink own idx y ∈ nj_T0) (hy : nj_MS y cy nLy rety n) (hM : nj_Con y cy nLy rety rmc hpc as (some (.int v)) hpc) (hE : nj_Em hp is hpc) (hna : as.length = n) (hst : Nat.ble ((st.map fun v => v.category).sum) 8 = true) (hrm : nj_Ro rmc rm nLy) (hkc : kc ≤ rm.cells) (hks : ks ≤ rm.slots) (hsk : (as.map (nj_pv (nj_rn is))).reverse ++ st = st0) (k : nj_V G ad kc ks pc' ls (.int v :: st) hp) : nj_V G ad kc ks pc ls st0 hp := by
  subst hsk
  have e0 := nj_patch_same hE.1 hE.2.1
  refine vr_callS is C hd h1 hlk hy hM hE.1 hE.2.1 hE.2.2 hna hst hrm hkc hks ?_
  rw [e0]
  exact k
theorem vr_cSi (is : List Nat) (as st : List Value) {st0 : List Value} {v : Int32} (C : nj_C G cc nL own rm) (hd : nj_dc cc pc (.invokestatic idx) pc') (h1 : pc + 3 = pc') (hlk : .methodLink own idx y ∈ nj_T0) (hy : nj_MS y cy nLy rety n) (hM : nj_Con y cy nLy rety rmc hpc as (some (.int v)) hpc') (hE : nj_Em hp is hpc) (hna : as.length = n) (hst : Nat.ble ((st.map fun v => v.category).sum) 8 = true) (hrm : nj_Ro rmc rm nLy) (hkc : kc ≤ rm.cells) (hks : ks ≤ rm.slots) (hsk : (as.map (nj_pv (nj_rn is))).reverse ++ st = st0) (hpa : nj_patch hp is (hpc'.map (nj_re is)) = hp') (k : nj_V G ad kc ks pc' ls (.int v :: st) hp') : nj_V G ad kc ks pc ls st0 hp := by
  subst hsk
  subst hpa
  exact vr_callS is C hd h1 hlk hy hM hE.1 hE.2.1 hE.2.2 hna hst hrm hkc hks k
theorem vr_cSlp (is : List Nat) (as st : List Value) {st0 : List Value} {v : Int64} (C : nj_C G cc nL own rm) (hd : nj_dc cc pc (.invokestatic idx) pc') (h1 : pc + 3 = pc') (hlk : .methodLink own idx y ∈ nj_T0) (hy : nj_MS y cy nLy rety n) (hM : nj_Con y cy nLy rety rmc hpc as (some (.long v)) hpc) (hE : nj_Em hp is hpc) (hna : as.length = n) (hst : Nat.ble ((st.map fun v => v.category).sum) 8 = true) (hrm : nj_Ro rmc rm nLy) (hkc : kc ≤ rm.cells) (hks : ks ≤ rm.slots) (hsk : (as.map (nj_pv (nj_rn is))).reverse ++ st = st0) (k : nj_V G ad kc ks pc' ls (.long v :: st) hp) : nj_V G ad kc ks pc ls st0 hp := by
  subst hsk
  have e0 := nj_patch_same hE.1 hE.2.1
  refine vr_callS is C hd h1 hlk hy hM hE.1 hE.2.1 hE.2.2 hna hst hrm hkc hks ?_
  rw [e0]
  exact k
theorem vr_cSl (is : List Nat) (as st : List Value) {st0 : List Value} {v : Int64} (C : nj_C G cc nL own rm) (hd : nj_dc cc pc (.invokestatic idx) pc') (h1 : pc + 3 = pc') (hlk : .methodLink own idx y ∈ nj_T0) (hy : nj_MS y cy nLy rety n) (hM : nj_Con y cy nLy rety rmc hpc as (some (.long v)) hpc') (hE : nj_Em hp is hpc) (hna : as.length = n) (hst : Nat.ble ((st.map fun v => v.category).sum) 8 = true) (hrm : nj_Ro rmc rm nLy) (hkc : kc ≤ rm.cells) (hks : ks ≤ rm.slots) (hsk : (as.map (nj_pv (nj_rn is))).reverse ++ st = st0) (hpa : nj_patch hp is (hpc'.map (nj_re is)) = hp') (k : nj_V G ad kc ks pc' ls (.long v :: st) hp') : nj_V G ad kc ks pc ls st0 hp := by
  subst hsk
  subst hpa
  exact vr_callS is C hd h1 hlk hy hM hE.1 hE.2.1 hE.2.2 hna hst hrm hkc hks k
theorem vr_cSv (is : List Nat) (as st : List Value) {st0 : List Value} (C : nj_C G cc nL own rm) (hd : nj_dc cc pc (.invokestatic idx) pc') (h1 : pc + 3 = pc') (hlk : .methodLink own idx y ∈ nj_T0) (hy : nj_MS y cy nLy rety n) (hM : nj_Con y cy nLy rety rmc hpc as none hpc') (hE : nj_Em hp is hpc) (hna : as.length = n) (hst : Nat.ble ((st.map fun v => v.category).sum) 8 = true) (hrm : nj_Ro rmc rm nLy) (hkc : kc ≤ rm.cells) (hks : ks ≤ rm.slots) (hsk : (as.map (nj_pv (nj_rn is))).reverse ++ st = st0) (hpa : nj_patch hp is (hpc'.map (nj_re is)) = hp') (k : nj_V G ad kc ks pc' ls st hp') : nj_V G ad kc ks pc ls st0 hp := by
  subst hsk
  subst hpa
  exact vr_callS is C hd h1 hlk hy hM hE.1 hE.2.1 hE.2.2 hna hst hrm hkc hks k
end NjCallRows

section NjMore
variable {G : nj_G} {cc : ByteArray} {nL : Nat} {own : String} {rm : Room} {ad : Nat → Nat} {kc ks pc pc' tgt : Nat} {ls : List (Option Value)} {st : List Value} {hp hp' : List va_E}
theorem vr_tsI (v : Int32) {x : Int32} {dflt lo hi off : Int} {offs : Array Int} {len : Nat} (C : nj_C G cc nL own rm) (hd : decode cc pc = .ok (.tableswitch dflt lo hi offs, len)) (hv : x = v) (h1 : ¬ v.toInt < lo) (h2 : ¬ hi < v.toInt) (ho : offs[(v.toInt - lo).toNat]? = some off) (ht : (pc : Int) + off = (tgt : Int)) (k : nj_V G ad kc ks tgt ls st hp) : nj_V G ad kc ks pc ls (.int x :: st) hp := by
  obtain ⟨⟨p, l, e, R, s, m⟩, ⟨args, below, meth, c, Q⟩, ⟨D, dT, A, sA⟩⟩ := G
  obtain ⟨hx, hb, hml, hown, hts, hR, ⟨hK, hNe, hSt⟩, hlk, hA⟩ := C
  intro H locs lm hsa hP hD hS hL
  subst hv
  exact lv_tableIn hx hb hd h1 h2 ho ht (k H locs lm hsa hP hD hS hL)
theorem vr_tsO {x : Int32} {dflt lo hi : Int} {offs : Array Int} {len : Nat} (C : nj_C G cc nL own rm) (hd : decode cc pc = .ok (.tableswitch dflt lo hi offs, len)) (h1 : x.toInt < lo ∨ hi < x.toInt) (ht : (pc : Int) + dflt = (tgt : Int)) (k : nj_V G ad kc ks tgt ls st hp) : nj_V G ad kc ks pc ls (.int x :: st) hp := by
  obtain ⟨⟨p, l, e, R, s, m⟩, ⟨args, below, meth, c, Q⟩, ⟨D, dT, A, sA⟩⟩ := G
  obtain ⟨hx, hb, hml, hown, hts, hR, ⟨hK, hNe, hSt⟩, hlk, hA⟩ := C
  intro H locs lm hsa hP hD hS hL
  exact lv_tableOut hx hb hd h1 ht (k H locs lm hsa hP hD hS hL)
theorem vr_ls {x : Int32} {dflt off : Int} {ps : Array (Int × Int)} {len : Nat} (C : nj_C G cc nL own rm) (hd : decode cc pc = .ok (.lookupswitch dflt ps, len)) (hp0 : (ps.toList.zip (ps.toList.drop 1)).all (fun (a, next) => a.1 < next.1) = true) (ho : Op.lookupswitch.offset ps.toList dflt x.toInt = off) (ht : (pc : Int) + off = (tgt : Int)) (k : nj_V G ad kc ks tgt ls st hp) : nj_V G ad kc ks pc ls (.int x :: st) hp := by
  obtain ⟨⟨p, l, e, R, s, m⟩, ⟨args, below, meth, c, Q⟩, ⟨D, dT, A, sA⟩⟩ := G
  obtain ⟨hx, hb, hml, hown, hts, hR, ⟨hK, hNe, hSt⟩, hlk, hA⟩ := C
  intro H locs lm hsa hP hD hS hL
  exact lv_lookup hx hb hd hp0 ho ht (k H locs lm hsa hP hD hS hL)
theorem vr_max {idx : Nat} {x y : Int32} (C : nj_C G cc nL own rm) (hd : nj_dc cc pc (.invokestatic idx) pc') (h1 : pc + 3 = pc') (hw : Cond.methodLink own idx Lib.Math.max.name ∈ nj_T0) (hw2 : Cond.static Lib.Math.max.name ∈ nj_T0) (hw3 : Cond.initialized "java/lang/Math" ∈ nj_T0) (hw4 : Cond.code Lib.Math.max.name Lib.Math.max.code 2 (some .int) ∈ nj_T0)
    (hst : Nat.ble ((st.map fun v => v.category).sum) 8 = true) (hf : Nat.ble 1 rm.frames = true) (hlo : Nat.ble 21 rm.locals = true) (hkc : kc ≤ rm.cells) (hks : ks ≤ rm.slots) (k : nj_V G ad kc ks pc' ls (.int (if x < y then y else x) :: st) hp) : nj_V G ad kc ks pc ls (.int y :: .int x :: st) hp := by
  obtain ⟨⟨p, l, e, R, s, m⟩, ⟨args, below, meth, c, Q⟩, ⟨D, dT, A, sA⟩⟩ := G
  obtain ⟨hx, hb, hml, hown, hts, hR, ⟨hK, hNe, hSt⟩, hlk, hA⟩ := C
  intro H locs lm hsa hP hD hS hL
  subst hR
  obtain ⟨n1, h, h2⟩ := hd
  have e1 : n1 = 3 := by omega
  subst e1; subst h1
  have hst := Nat.le_of_ble_eq_true hst
  have hlo := Nat.le_of_ble_eq_true hlo
  exact va_mmax hx hb hL.1.symm hown (hts _ hw) (hts _ hw2) (hts _ hw3) (hts _ hw4) (Nat.le_of_ble_eq_true hf) (by rw [nj_cats]; omega) hkc hks h (k H locs lm hsa hP hD hS hL)
theorem vr_acpy {idx q0 q1 n0 n1 : Nat} {f g : Nat → Int32} {sp dp n : Int32} (C : nj_C G cc nL own rm) (hd : nj_dc cc pc (.invokestatic idx) pc') (h1 : pc + 3 = pc') (hw : Cond.methodLink own idx arraycopyName ∈ nj_T0) (hw2 : Cond.native arraycopyName ∈ nj_T0) (hw3 : Cond.static arraycopyName ∈ nj_T0) (hw4 : Cond.initialized "java/lang/System" ∈ nj_T0)
    (he0 : hp[q0]? = some (.inl (0, n0, .inl f))) (he1 : hp[q1]? = some (.inl (0, n1, .inl g))) (g1 : ¬ sp < 0) (g2 : ¬ dp < 0) (g3 : ¬ n < 0) (g4 : sp.toNatClampNeg + n.toNatClampNeg ≤ n0) (g5 : dp.toNatClampNeg + n.toNatClampNeg ≤ n1)
    (hst : Nat.ble ((st.map fun v => v.category).sum) 8 = true) (hf : Nat.ble 1 rm.frames = true) (hlo : Nat.ble (8 + (nativeFrameWords "java/lang/System" "arraycopy" 5 + 11)) rm.locals = true) (hs : hp.set q1 (.inl (0, n1, .inl (va_cpy f g sp.toNatClampNeg dp.toNatClampNeg n.toNatClampNeg))) = hp')
    (k : nj_V G ad kc ks pc' ls st hp') : nj_V G ad kc ks pc ls (.int n :: .int dp :: .ref q1 :: .int sp :: .ref q0 :: st) hp := by
  obtain ⟨⟨p, l, e, R, s, m⟩, ⟨args, below, meth, c, Q⟩, ⟨D, dT, A, sA⟩⟩ := G
  obtain ⟨hx, hb, hml, hown, hts, hR, ⟨hK, hNe, hSt⟩, hlk, hA⟩ := C
  intro H locs lm hsa hP hD hS hL
  subst hR
  obtain ⟨m1, h, h2⟩ := hd
  have e1 : m1 = 3 := by omega
  subst e1; subst h1
  have hst := Nat.le_of_ble_eq_true hst
  have hlo := Nat.le_of_ble_eq_true hlo
  refine va_copyi (ty := .int) hx hb hL.1.symm hown (hts _ hw) (hts _ hw2) (hts _ hw3) (hts _ hw4) hK hP hD hS q0 q1 0 0 (nj_pw_at he0) (nj_pw_at he1) rfl rfl rfl g1 g2 g3 g4 g5 (fun _ _ => rfl) (Nat.le_of_ble_eq_true hf) (by rw [nj_cats]; omega) h (fun H1 locs1 hP1 hD1 hS1 => ?_)
  have e9 : (nj_pw ad dT hp).set q1 (ad q1, .inl (dT 0, n1, .inl (va_cpy f g sp.toNatClampNeg dp.toNatClampNeg n.toNatClampNeg))) = nj_pw ad dT hp' := by
    rw [← hs, ← nj_pw_set]
    rfl
  exact k H1 locs1 lm hsa (e9 ▸ hP1) (e9 ▸ hD1) hS1 hL
end NjMore
-- a model's steps
theorem no_if {α : Type} {c : Prop} [Decidable c] {A : Option α} {r : α} (h : (if c then A else none) = some r) : c ∧ A = some r := by
  by_cases hc : c
  · rw [if_pos hc] at h; exact ⟨hc, h⟩
  · rw [if_neg hc] at h; cases h
theorem no_t {α : Type} {c : Prop} [Decidable c] {A B : α} {r : α} (hc : c) (h : (if c then A else B) = r) : A = r := by rwa [if_pos hc] at h
theorem no_f {α : Type} {c : Prop} [Decidable c] {A B : α} {r : α} (hc : ¬ c) (h : (if c then A else B) = r) : B = r := by rwa [if_neg hc] at h
theorem no_bt {α : Type} {b : Bool} {A B : α} {r : α} (hc : b = true) (h : (bif b then A else B) = r) : A = r := by rw [hc] at h; exact h
theorem no_bf {α : Type} {b : Bool} {A B : α} {r : α} (hc : b = false) (h : (bif b then A else B) = r) : B = r := by rw [hc] at h; exact h
theorem no_b {α β : Type} {x : Option α} {f : α → Option β} {r : β} (h : x.bind f = some r) : ∃ a, x = some a ∧ f a = some r := Option.bind_eq_some_iff.mp h
theorem no_s {α : Type} {a r : α} (h : some a = some r) : r = a := (Option.some.inj h).symm
def nj_in (i : Int32) (n : Nat) : Bool := !(decide (i < 0) || decide (n ≤ i.toNatClampNeg))
theorem no_i {α : Type} {i : Int32} {n : Nat} {A : Option α} {r : α} (h : (bif nj_in i n then A else none) = some r) : vp_in i n ∧ A = some r := by
  cases hb : nj_in i n with
  | false => rw [hb] at h; cases h
  | true =>
    rw [hb] at h
    refine ⟨?_, h⟩
    simp only [nj_in, Bool.not_eq_true', Bool.or_eq_false_iff, decide_eq_false_iff_not] at hb
    exact fun q => q.elim hb.1 hb.2

