/-! contracts of constructors, and their calls -/
def nj_PreA (D : va_G) (dT : Nat → ClassId) (sA ad : Nat → Nat) (sz : Nat) (hp : List va_E) (as : List Value) : Array Value → State → Prop := fun v U => nj_Pre D dT sA ad sz hp as v U ∧ nj_AO U
def nj_PostA (D : va_G) (dT : Nat → ClassId) (A : Nat → Prop) (ad : Nat → Nat) (n : Nat) (hp' : List va_E) : Array Value → State → Outcome → State → Prop := fun _ st oc t => oc = .returned none ∧ (∃ ad', nj_ag n ad ad' ∧ va_P D nj_cls (nj_pw ad' dT hp') t.heap ∧ va_D A (nj_pw ad' dT hp')) ∧ va_F A st t
def nj_ConA (y : MethodName) (cc : ByteArray) (nL : Nat) (rm : Room) (mc ms : Nat) (hp : List va_E) (as : List Value) (hp' : List va_E) : Prop :=
  ∀ (l : Launch) (D : va_G) (dT : Nat → ClassId) (sA ad : Nat → Nat) (sz : Nat), Met l y (.code y cc nL none :: nj_T0) rm (nj_PreA D dT sA ad sz hp as) (nj_PostA D dT (nj_A ad hp.length sz) ad hp.length hp') mc ms (nj_A ad hp.length sz)
def nj_RtA (G : nj_G) (n : Nat) (ad : Nat → Nat) (mc ms : Nat) (hp' : List va_E) : Prop :=
  match G with
  | ((p, l, e, R, s, m), (args, below, meth, c, Q), (D, dT, A, sA)) => Q = MQ below (nj_PostA D dT A ad n hp') args s mc ms A ∧ meth.sig.returnType = none
theorem nj_blindA (D : va_G) (dT : Nat → ClassId) (sA ad : Nat → Nat) (sz : Nat) (hp : List va_E) (as : List Value) : FrameBlind (nj_PreA D dT sA ad sz hp as) := fun a U g mk q => ⟨nj_blind D dT sA ad sz hp as a U g mk q.1, q.2.moved (u := U) (U := U.calling g mk a) (Vm.Alike.refl U.vm)⟩
theorem nj_conA {y : MethodName} {cc : ByteArray} {nL : Nat} {rm : Room} {mc ms : Nat} {hp : List va_E} {as : List Value} {hp' : List va_E} (hy : plainName y.cls = true) (hyn : y.name = "<init>") (k : Nat) (hen : (nj_en as).length + k = nL)
    (body : ∀ (G : nj_G) (ad : Nat → Nat), nj_CA G cc nL y.cls rm → nj_RtA G hp.length ad mc ms hp' → nj_V G ad 0 0 0 (nj_en as ++ List.replicate k none) [] hp) : nj_ConA y cc nL rm mc ms hp as hp' := by
  intro l D dT sA ad sz
  refine Met.ofW (cc := cc) (maxL := nL) (ret := none) hy rfl ?_
  intro p e s m args below meth c s₁ B hml hv
  obtain ⟨⟨rfl, hsz, hI, hP, hD0, hsa⟩, hAO⟩ := hv
  have hts := atoms_spec (ws := .code y cc nL none :: nj_T0) B.pre
  have hown : s.vm.findClass y.cls = some m.cls := findClass_of_methodNamed B.named
  have hin : meth.name = "<init>" := ((name_of_methodNamed B.named B.method).1).trans hyn
  subst hsz
  have h := body ((p, l, e, rm, s, m), (((as.map (nj_pv ad)).toArray), below, meth, c, MQ below (nj_PostA D dT (nj_A ad hp.length s.heap.size) ad hp.length hp') ((as.map (nj_pv ad)).toArray) s mc ms (nj_A ad hp.length s.heap.size)), (D, dT, nj_A ad hp.length s.heap.size, sA)) ad
    ⟨⟨B.exec, B.bytes, hml, hown, fun w hw => hts w (List.mem_cons_of_mem _ hw), rfl, hI, B.notSynchronized, fun q hq => Or.inr hq⟩, hAO, hin⟩ ⟨rfl, B.returns⟩
  have hle : (lg_sl (as.map (nj_pv ad))).length ≤ nL := by rw [nj_en_len]; omega
  have hl := lv_entry (as.map (nj_pv ad)) (n := nL) hle
  rw [lg_entry_eq]
  refine h s.heap [] _ hsa hP ?_ va_S.rf ⟨by rw [hml]; exact hl.1, hl.2.1, fun j v hv => ?_⟩
  · refine ⟨hD0.1, fun i q hq => ?_⟩
    obtain ⟨e0, h1, rfl⟩ := nj_pw_of hq
    exact Or.inl ⟨i, (List.getElem?_eq_some_iff.mp h1).1, rfl⟩
  · have h1 := nj_en_of ad as 0 j v (nj_en_none as k j v hv)
    rw [Nat.zero_add] at h1
    exact hl.2.2 _ h1
theorem vr_vretA {G : nj_G} {cc : ByteArray} {nL : Nat} {own : String} {rm : Room} {ad ad0 : Nat → Nat} {n kc ks pc pc' : Nat} {ls : List (Option Value)} {hp : List va_E} (C : nj_C G cc nL own rm) (hq : nj_RtA G n ad0 kc ks hp) (hag : nj_ag n ad0 ad) (hd : nj_dc cc pc .return_ pc') (h1 : pc + 1 = pc') : nj_V G ad kc ks pc ls [] hp := by
  obtain ⟨⟨p, l, e, R, s, m⟩, ⟨args, below, meth, c, Q⟩, ⟨D, dT, A, sA⟩⟩ := G
  obtain ⟨hx, hb, hml, hown, hts, hR, ⟨hK, hNe, hSt⟩, hlk, hA⟩ := C
  obtain ⟨hq, hr⟩ := hq
  intro H locs lm hsa hP hD hS hL
  subst hq
  obtain ⟨n1, h, h2⟩ := hd
  have e1 : n1 = 1 := by omega
  subst e1
  exact W.vret hx hb hr (fun t ht hW => ⟨rfl, ⟨ad, hag, by rw [ht]; exact hP, hD⟩, hS.F ht⟩) hS.2.2 h hlk
def nj_is2 (is : List Nat) (n e : Nat) : List Nat := is ++ List.range' n e
def nj_res (hp : List va_E) (is : List Nat) (e : Nat) (hpc' : List va_E) : List va_E := nj_patch (hp ++ List.replicate e (.inr (0, []))) (nj_is2 is hp.length e) (hpc'.map (nj_re (nj_is2 is hp.length e)))
section NjCtor
variable {D : va_G} {dT : Nat → ClassId} {A : Nat → Prop} {ad ad1 : Nat → Nat} {hp hpc hpc' : List va_E} {is : List Nat} {x : Nat} {H H1 : Heap}
theorem nj_rn_l {is : List Nat} {n x j i : Nat} (h : is[j]? = some i) (hj : j < 1000) : nj_rn (nj_is2 is n x) j = i := by
  have h1 : j < is.length := (List.getElem?_eq_some_iff.mp h).1
  exact nj_rn_at (by rw [nj_is2, List.getElem?_append_left h1]; exact h) hj
theorem nj_rn_r {is : List Nat} {n x j : Nat} (h : j < x) (hj : is.length + j < 1000) : nj_rn (nj_is2 is n x) (is.length + j) = n + j := by
  refine nj_rn_at ?_ hj
  rw [nj_is2, List.getElem?_append_right (by omega), show is.length + j - is.length = j by omega, List.getElem?_range' h]
  simp
theorem nj_is2_at {is : List Nat} {n x j k : Nat} (h : (nj_is2 is n x)[j]? = some k) : (j < is.length ∧ is[j]? = some k) ∨ (is.length ≤ j ∧ j < is.length + x ∧ k = n + (j - is.length)) := by
  by_cases hj : j < is.length
  · rw [nj_is2, List.getElem?_append_left hj] at h
    exact Or.inl ⟨hj, h⟩
  · have hl : j < is.length + x := by
      have := (List.getElem?_eq_some_iff.mp h).1
      simpa [nj_is2] using this
    rw [nj_is2, List.getElem?_append_right (by omega), List.getElem?_range' (by omega)] at h
    simp at h
    exact Or.inr ⟨by omega, hl, by omega⟩
/-- the addresses behind the call -/
def nj_ad2 (ad ad1 : Nat → Nat) (n N x : Nat) : Nat → Nat := fun k => if n ≤ k ∧ k < n + x then ad1 (N + (k - n)) else ad k
theorem nj_grown (hP : va_P D nj_cls (nj_pw ad dT hp) H) (hD : va_D A (nj_pw ad dT hp)) (hemb : nj_emb hp is hpc) (hn : va_nd (nj_is2 is hp.length x) = true) (hl : hp.length + x < 1000) (hlc : is.length + x < 1000) (hw : hp.all (nj_we hp.length) = true) (hwc : hpc'.all (nj_we (is.length + x)) = true) (hl2 : hpc'.length = is.length + x)
    (hag : nj_ag hpc.length (fun k => ad (nj_rn is k)) ad1) (hPt : va_P D nj_cls (nj_pw ad1 dT hpc') H1) (hDt : va_D (nj_A (fun k => ad (nj_rn is k)) hpc.length H.size) (nj_pw ad1 dT hpc')) (hsub : ∀ q, nj_A (fun k => ad (nj_rn is k)) hpc.length H.size q → A q)
    (hk : ∀ q : Nat, q < H.size → ¬ nj_A (fun k => ad (nj_rn is k)) hpc.length H.size q → H1[q]? = H[q]?) :
    nj_ag hp.length ad (nj_ad2 ad ad1 hp.length is.length x) ∧ va_P D nj_cls (nj_pw (nj_ad2 ad ad1 hp.length is.length x) dT (nj_res hp is x hpc')) H1 ∧ va_D A (nj_pw (nj_ad2 ad ad1 hp.length is.length x) dT (nj_res hp is x hpc')) := by
  have hil := nj_emb_len hemb
  have at1 : ∀ (j : Nat), j < hpc.length → ∃ k, is[j]? = some k ∧ (∃ e, hp[k]? = some e) ∧ nj_rn is j = k ∧ k < hp.length := by
    intro j hj
    obtain ⟨k, h1, h2⟩ := nj_emb_at hemb (List.getElem?_eq_getElem hj)
    exact ⟨k, h1, ⟨_, h2⟩, nj_rn_at h1 (by omega), (List.getElem?_eq_some_iff.mp h2).1⟩
  have hagn : nj_ag hp.length ad (nj_ad2 ad ad1 hp.length is.length x) := by
    intro k hk
    show (if _ then _ else _) = _
    rw [if_neg (by omega)]
  have hnew : ∀ j, j < x → nj_ad2 ad ad1 hp.length is.length x (hp.length + j) = ad1 (is.length + j) := by
    intro j hj
    show (if _ then _ else _) = _
    rw [if_pos (by omega), show hp.length + j - hp.length = j by omega]
  have hcomp : nj_ag (is.length + x) ad1 (fun k => nj_ad2 ad ad1 hp.length is.length x (nj_rn (nj_is2 is hp.length x) k)) := by
    intro k hk
    show nj_ad2 ad ad1 hp.length is.length x (nj_rn (nj_is2 is hp.length x) k) = ad1 k
    rcases hk with hk | hk
    · by_cases hk2 : k < is.length
      · obtain ⟨i, g1, -, g3, g4⟩ := at1 k (by omega)
        rw [nj_rn_l g1 (by omega), hagn i (Or.inl g4), hag k (Or.inl (by omega))]
        show ad i = ad (nj_rn is k)
        rw [g3]
      · rw [show k = is.length + (k - is.length) by omega, nj_rn_r (by omega) (by omega), hnew _ (by omega)]
    · have e1 : nj_rn (nj_is2 is hp.length x) k = k := by rw [nj_rn, if_neg (by omega)]
      rw [e1, hagn k (Or.inr hk), hag k (Or.inr hk)]
      show ad k = ad (nj_rn is k)
      rw [nj_rn, if_neg (by omega)]
  have hlen : (nj_res hp is x hpc').length = hp.length + x := by simp [nj_res, nj_patch_len]
  have hbig : ∀ j, j < x → H.size ≤ ad1 (is.length + j) := by
    intro j hj
    have hj2 : hpc'[is.length + j]? = some hpc'[is.length + j] := List.getElem?_eq_getElem (by omega)
    rcases hDt.2 _ _ (nj_pw_at (ad := ad1) (dT := dT) hj2) with ⟨i, h1, h2⟩ | h2
    · exfalso
      have hi2 : hpc'[i]? = some hpc'[i] := List.getElem?_eq_getElem (by omega)
      have h3 : ad1 i = ad (nj_rn is i) := hag i (Or.inl h1)
      have := hDt.1 _ _ _ _ (nj_pw_at (ad := ad1) (dT := dT) hj2) (nj_pw_at (ad := ad1) (dT := dT) hi2) (by rw [h3]; exact h2)
      omega
    · exact h2
  refine ⟨hagn, fun k q hq => ?_, ?_⟩
  · obtain ⟨e0, h1, rfl⟩ := nj_pw_of hq
    have hk1 : k < hp.length + x := by rw [← hlen]; exact (List.getElem?_eq_some_iff.mp h1).1
    by_cases hm : k ∈ nj_is2 is hp.length x
    · obtain ⟨j, hj⟩ := List.getElem?_of_mem hm
      have hj2 : j < is.length + x := by
        have := (List.getElem?_eq_some_iff.mp hj).1
        simpa [nj_is2] using this
      have hj3 : hpc'[j]? = some hpc'[j] := List.getElem?_eq_getElem (by omega)
      have h4 := nj_patch_in (nj_is2 is hp.length x) (hpc'.map (nj_re (nj_is2 is hp.length x))) (hp ++ List.replicate x (.inr (0, []))) j k _ hn hj (by rw [List.getElem?_map, hj3]; rfl) (by simp; omega)
      have h5 : some (nj_re (nj_is2 is hp.length x) hpc'[j]) = some e0 := h4.symm.trans h1
      cases h5
      have h6 := hPt j _ (nj_pw_at hj3)
      have h7 := nj_we_ag (ad' := fun k => nj_ad2 ad ad1 hp.length is.length x (nj_rn (nj_is2 is hp.length x) k)) hcomp (List.all_eq_true.mp hwc _ (List.mem_of_getElem? hj3)) h6
      rw [nj_pe_re]
      have h8 : nj_ad2 ad ad1 hp.length is.length x k = ad1 j := by
        have h9 := hcomp j (Or.inl hj2)
        have h10 : nj_rn (nj_is2 is hp.length x) j = k := nj_rn_at hj (by omega)
        simp only [h10] at h9
        exact h9
      rw [h8]
      exact h7
    · have hkn : k < hp.length := by
        rcases Nat.lt_or_ge k hp.length with h | h
        · exact h
        · exfalso
          apply hm
          rw [nj_is2]
          refine List.mem_append_right _ (List.mem_range'.mpr ⟨k - hp.length, by omega, by omega⟩)
      have h1' : (nj_patch (hp ++ List.replicate x (.inr (0, []))) (nj_is2 is hp.length x) (hpc'.map (nj_re (nj_is2 is hp.length x))))[k]? = some e0 := h1
      rw [nj_patch_out _ _ _ _ hm, List.getElem?_append_left hkn] at h1'
      have h2 := hP k _ (nj_pw_at h1')
      have h3 : va_at D nj_cls (ad k, nj_pe ad dT e0) H1 := by
        refine h2.kept (hk _ h2.lt (fun z => ?_))
        rcases z with ⟨j, hj, h5⟩ | z
        · obtain ⟨i, a1, ⟨e1, a2⟩, a3, a4⟩ := at1 j hj
          simp only [a3] at h5
          have := hD.1 k i _ _ (nj_pw_at h1') (nj_pw_at a2) h5
          subst this
          apply hm
          rw [nj_is2]
          exact List.mem_append_left _ (List.mem_of_getElem? a1)
        · exact Nat.not_le.mpr h2.lt z
      have h4 := nj_we_ag (ad' := nj_ad2 ad ad1 hp.length is.length x) hagn (List.all_eq_true.mp hw _ (List.mem_of_getElem? h1')) h3
      rw [hagn k (Or.inl hkn)]
      exact h4
  · have adr : ∀ k, k < hp.length + x → (k < hp.length ∧ nj_ad2 ad ad1 hp.length is.length x k = ad k) ∨ (hp.length ≤ k ∧ nj_ad2 ad ad1 hp.length is.length x k = ad1 (is.length + (k - hp.length))) := by
      intro k hk2
      rcases Nat.lt_or_ge k hp.length with h | h
      · exact Or.inl ⟨h, hagn k (Or.inl h)⟩
      · refine Or.inr ⟨h, ?_⟩
        have := hnew (k - hp.length) (by omega)
        rw [show hp.length + (k - hp.length) = k by omega] at this
        exact this
    have old : ∀ k, k < hp.length → ad k < H.size ∧ A (ad k) := by
      intro k hk2
      have h2 := nj_pw_at (ad := ad) (dT := dT) (List.getElem?_eq_getElem hk2)
      exact ⟨(hP k _ h2).lt, hD.2 k _ h2⟩
    refine ⟨fun i j p q hi hj hpq => ?_, fun k q hq => ?_⟩
    · obtain ⟨e1, h1, rfl⟩ := nj_pw_of hi
      obtain ⟨e2, h2, rfl⟩ := nj_pw_of hj
      have hi1 : i < hp.length + x := by rw [← hlen]; exact (List.getElem?_eq_some_iff.mp h1).1
      have hj1 : j < hp.length + x := by rw [← hlen]; exact (List.getElem?_eq_some_iff.mp h2).1
      simp only at hpq
      rcases adr i hi1 with ⟨a1, b1⟩ | ⟨a1, b1⟩ <;> rcases adr j hj1 with ⟨a2, b2⟩ | ⟨a2, b2⟩
      · rw [b1, b2] at hpq
        exact hD.1 i j _ _ (nj_pw_at (ad := ad) (dT := dT) (List.getElem?_eq_getElem a1)) (nj_pw_at (ad := ad) (dT := dT) (List.getElem?_eq_getElem a2)) hpq
      · rw [b1, b2] at hpq
        have := (old i a1).1
        have := hbig (j - hp.length) (by omega)
        omega
      · rw [b1, b2] at hpq
        have := (old j a2).1
        have := hbig (i - hp.length) (by omega)
        omega
      · rw [b1, b2] at hpq
        have g1 : hpc'[is.length + (i - hp.length)]? = some _ := List.getElem?_eq_getElem (by omega)
        have g2 : hpc'[is.length + (j - hp.length)]? = some _ := List.getElem?_eq_getElem (by omega)
        have := hDt.1 _ _ _ _ (nj_pw_at (ad := ad1) (dT := dT) g1) (nj_pw_at (ad := ad1) (dT := dT) g2) hpq
        omega
    · obtain ⟨e1, h1, rfl⟩ := nj_pw_of hq
      have hk1 : k < hp.length + x := by rw [← hlen]; exact (List.getElem?_eq_some_iff.mp h1).1
      rcases adr k hk1 with ⟨a1, b1⟩ | ⟨a1, b1⟩
      · simp only [b1]; exact (old k a1).2
      · simp only [b1]
        have g1 : hpc'[is.length + (k - hp.length)]? = some _ := List.getElem?_eq_getElem (by omega)
        exact hsub _ (hDt.2 _ _ (nj_pw_at (ad := ad1) (dT := dT) g1))
end NjCtor
section NjCtorRows
variable {G : nj_G} {cc : ByteArray} {nL : Nat} {own : String} {rm : Room} {ad : Nat → Nat} {kc ks pc pc' : Nat} {ls : List (Option Value)} {hp : List va_E}
variable {y : MethodName} {cy : ByteArray} {nLy n idx mc ms : Nat} {rmc : Room} {hpc hpc' : List va_E}
def nj_RoA (rmc rm : Room) (nLy mc ms : Nat) : Prop := rmc.cells = mc ∧ rmc.slots = ms ∧ Nat.ble (rmc.frames + 1) rm.frames = true ∧ Nat.ble (8 + (nLy + 11) + rmc.locals) rm.locals = true
theorem vr_ctorI (is : List Nat) (x : Nat) (as st : List Value) {st0 : List Value} {hp2 : List va_E} (C : nj_C G cc nL own rm) (hAO : nj_AO G.1.2.2.2.2.1) (hd : nj_dc cc pc (.invokespecial idx) pc') (h1 : pc + 3 = pc') (hlk : .methodLink own idx y ∈ nj_T0) (hy1 : .instanceMethod y ∈ nj_T0) (hy2 : .initialized y.cls ∈ nj_T0) (hy3 : .code y cy nLy none ∈ nj_T0) (hyn : y.name = "<init>") (hy5 : y.cls ≠ "java/lang/invoke/MethodHandle" ∧ y.cls ≠ "java/lang/invoke/VarHandle" ∧ (parseMethodDescriptor y.desc).map (fun d => d.parameters.length) = some n)
    (hM : nj_ConA y cy nLy rmc mc ms hpc (.ref 0 :: as) hpc') (hE : nj_Em hp is hpc) (hnd : va_nd (nj_is2 is hp.length x) = true) (hl : Nat.blt (hp.length + x) 1000 = true) (hlc : Nat.blt (is.length + x) 1000 = true) (hl2 : hpc'.length = is.length + x) (hwf : nj_wf hp.length ls st hp = true) (hwc : hpc'.all (nj_we (is.length + x)) = true) (hna : as.length = n) (hst : Nat.ble ((st.map fun v => v.category).sum) 8 = true) (hrm : nj_RoA rmc rm nLy mc ms) (hkc : Nat.ble (kc + mc) rm.cells = true) (hks : Nat.ble (ks + ms) rm.slots = true)
    (hsk : (as.map (nj_pv (nj_rn is))).reverse ++ .ref (nj_rn is 0) :: st = st0) (hres : nj_res hp is x hpc' = hp2) (k : ∀ ad', nj_ag hp.length ad ad' → nj_V G ad' (kc + mc) (ks + ms) pc' ls st hp2) : nj_V G ad kc ks pc ls st0 hp := by
  obtain ⟨⟨p, l, e, R, s, m⟩, ⟨args, below, meth, c, Q⟩, ⟨D, dT, A, sA⟩⟩ := G
  obtain ⟨hx, hb, hml, hown, hts, hR, ⟨hK, hNe, hSt⟩, hlk0, hA⟩ := C
  intro H locs lm hsa hP hD hS hL
  subst hR; subst hsk; subst hres
  obtain ⟨n1, h, h2⟩ := hd
  have e1 : n1 = 3 := by omega
  subst e1; subst h1
  obtain ⟨r1, r2, r3, r4⟩ := hrm
  obtain ⟨hemb, hn0, hlen⟩ := hE
  have hlen := Nat.le_of_ble_eq_true hlen
  have hl : hp.length + x < 1000 := by simpa [Nat.blt_eq] using hl
  have hlc : is.length + x < 1000 := by simpa [Nat.blt_eq] using hlc
  simp only [nj_wf, Bool.and_eq_true] at hwf
  obtain ⟨f1, f2, f3⟩ := hwf
  obtain ⟨hs1, hsub⟩ := nj_start (as := .ref 0 :: as) hK hNe hSt hA hsa hP hD hS hemb hn0 hlen
  have hG : GoodIn nj_T0 (.code y cy nLy none :: nj_T0) := nj_goodIn fun w hw => by
    rcases List.mem_cons.mp hw with rfl | hw
    · exact hy3
    · exact hw
  have cw : CallB R s args own idx y cy nLy none (.code y cy nLy none :: nj_T0) rmc mc ms n ∧ y.name = "<init>" ∧ (Cond.instanceMethod y).before args s = true := cwI n hts hG rfl r1 r2 (hts _ hy2) (hts _ hlk) (hts _ hy1) hyn hy5 ⟨Nat.le_of_ble_eq_true r3, Nat.le_of_ble_eq_true r4⟩
  have hk : List.map (nj_pv ad) ((as.map (nj_pv (nj_rn is))).reverse ++ .ref (nj_rn is 0) :: st) = (as.map (nj_pv (fun k => ad (nj_rn is k)))).reverse ++ .ref (ad (nj_rn is 0)) :: st.map (nj_pv ad) := nj_stk ad is as (.ref (nj_rn is 0) :: st)
  rw [hk]
  have hr := va_runI (H := H) (locs := locs) (cells := kc) (slots := ks) (below := below) (meth := meth) (e := e) (R := R) (As := as.map (nj_pv (fun k => ad (nj_rn is k)))) (rest := st.map (nj_pv ad)) (b := ad (nj_rn is 0)) (g := F0 m pc lm ((as.map (nj_pv (fun k => ad (nj_rn is k)))).reverse ++ .ref (ad (nj_rn is 0)) :: st.map (nj_pv ad))) ⟨hx, hb, hml, hown, hts⟩ (hM l D dT sA (fun k => ad (nj_rn is k)) H.size) cw ⟨nj_blindA _ _ _ _ _ _ _, fun U hU hW => ⟨hs1 U hU hW, hAO.moved hW.alike⟩⟩ rfl (by simpa using hna) (hL.1.trans hml) rfl (lv_room (by rw [nj_cats]; exact Nat.le_of_ble_eq_true hst)) h ⟨Nat.le_of_ble_eq_true hkc, Nat.le_of_ble_eq_true hks⟩
  intro T hT X
  obtain ⟨v, st₀, t, T', L, h0, X', hLo, e1, e2, ⟨hv, ⟨ad1, hag, hPt, hDt⟩, hz, hkk⟩, go⟩ := hr T hT X
  cases hv
  rw [h0] at hz hkk
  obtain ⟨g1, g2, g3⟩ := nj_grown (H1 := t.heap) hP hD hemb hnd hl hlc f3 hwc hl2 hag hPt hDt hsub hkk
  have h9 := k _ g1 T'.heap (locs ++ L) lm (fun j => by rw [g1 (1000 + j) (Or.inr (by omega))]; exact hsa j) (by rw [e1]; exact g2) g3
    ⟨Nat.le_trans hS.1 (by rw [e1]; exact hz), fun q h1 h2 => by rw [e1, hkk q (Nat.lt_of_lt_of_le h1 hS.1) (fun z => h2 (hsub q z))]; exact hS.2.1 q h1 h2, fun q hq => by
      rcases List.mem_append.mp hq with h | h
      · exact hS.2.2 q h
      · exact hsub _ (hLo q h)⟩ (nj_lm_ag g1 f1 hL)
  rw [nj_st_ag g1 f2] at h9
  obtain ⟨t2, a1, b1⟩ := h9 T' rfl X'
  exact ⟨t2, go t2 a1, b1⟩
theorem vr_ctorN {host : String} (is : List Nat) (x : Nat) (as st : List Value) {st0 : List Value} {hp2 : List va_E} (C : nj_C G cc nL own rm) (hAO : nj_AO G.1.2.2.2.2.1) (hd : nj_dc cc pc (.invokespecial idx) pc') (h1 : pc + 3 = pc') (hlk : va_Nw (.methodLinkNest own idx y host) G.1.2.2.2.2.1) (hy1 : .instanceMethod y ∈ nj_T0) (hy2 : .initialized y.cls ∈ nj_T0) (hy3 : .code y cy nLy none ∈ nj_T0) (hyn : y.name = "<init>") (hy5 : y.cls ≠ "java/lang/invoke/MethodHandle" ∧ y.cls ≠ "java/lang/invoke/VarHandle" ∧ (parseMethodDescriptor y.desc).map (fun d => d.parameters.length) = some n)
    (hM : nj_ConA y cy nLy rmc mc ms hpc (.ref 0 :: as) hpc') (hE : nj_Em hp is hpc) (hnd : va_nd (nj_is2 is hp.length x) = true) (hl : Nat.blt (hp.length + x) 1000 = true) (hlc : Nat.blt (is.length + x) 1000 = true) (hl2 : hpc'.length = is.length + x) (hwf : nj_wf hp.length ls st hp = true) (hwc : hpc'.all (nj_we (is.length + x)) = true) (hna : as.length = n) (hst : Nat.ble ((st.map fun v => v.category).sum) 8 = true) (hrm : nj_RoA rmc rm nLy mc ms) (hkc : Nat.ble (kc + mc) rm.cells = true) (hks : Nat.ble (ks + ms) rm.slots = true)
    (hsk : (as.map (nj_pv (nj_rn is))).reverse ++ .ref (nj_rn is 0) :: st = st0) (hres : nj_res hp is x hpc' = hp2) (k : ∀ ad', nj_ag hp.length ad ad' → nj_V G ad' (kc + mc) (ks + ms) pc' ls st hp2) : nj_V G ad kc ks pc ls st0 hp := by
  obtain ⟨⟨p, l, e, R, s, m⟩, ⟨args, below, meth, c, Q⟩, ⟨D, dT, A, sA⟩⟩ := G
  obtain ⟨hx, hb, hml, hown, hts, hR, ⟨hK, hNe, hSt⟩, hlk0, hA⟩ := C
  intro H locs lm hsa hP hD hS hL
  subst hR; subst hsk; subst hres
  obtain ⟨n1, h, h2⟩ := hd
  have e1 : n1 = 3 := by omega
  subst e1; subst h1
  obtain ⟨r1, r2, r3, r4⟩ := hrm
  obtain ⟨hemb, hn0, hlen⟩ := hE
  have hlen := Nat.le_of_ble_eq_true hlen
  have hl : hp.length + x < 1000 := by simpa [Nat.blt_eq] using hl
  have hlc : is.length + x < 1000 := by simpa [Nat.blt_eq] using hlc
  simp only [nj_wf, Bool.and_eq_true] at hwf
  obtain ⟨f1, f2, f3⟩ := hwf
  obtain ⟨hs1, hsub⟩ := nj_start (as := .ref 0 :: as) hK hNe hSt hA hsa hP hD hS hemb hn0 hlen
  have hG : GoodIn nj_T0 (.code y cy nLy none :: nj_T0) := nj_goodIn fun w hw => by
    rcases List.mem_cons.mp hw with rfl | hw
    · exact hy3
    · exact hw
  have cw : va_CN R s args own idx y host cy nLy none (.code y cy nLy none :: nj_T0) rmc mc ms n ∧ y.name = "<init>" ∧ (Cond.instanceMethod y).before args s = true := ⟨va_cnB n hts hG rfl r1 r2 hlk (hts _ hy2) hy5 ⟨Nat.le_of_ble_eq_true r3, Nat.le_of_ble_eq_true r4⟩, hyn, hts _ hy1⟩
  have hk : List.map (nj_pv ad) ((as.map (nj_pv (nj_rn is))).reverse ++ .ref (nj_rn is 0) :: st) = (as.map (nj_pv (fun k => ad (nj_rn is k)))).reverse ++ .ref (ad (nj_rn is 0)) :: st.map (nj_pv ad) := nj_stk ad is as (.ref (nj_rn is 0) :: st)
  rw [hk]
  have hr := va_runIN (H := H) (locs := locs) (cells := kc) (slots := ks) (below := below) (meth := meth) (e := e) (R := R) (As := as.map (nj_pv (fun k => ad (nj_rn is k)))) (rest := st.map (nj_pv ad)) (b := ad (nj_rn is 0)) (g := F0 m pc lm ((as.map (nj_pv (fun k => ad (nj_rn is k)))).reverse ++ .ref (ad (nj_rn is 0)) :: st.map (nj_pv ad))) ⟨hx, hb, hml, hown, hts⟩ (hM l D dT sA (fun k => ad (nj_rn is k)) H.size) cw ⟨nj_blindA _ _ _ _ _ _ _, fun U hU hW => ⟨hs1 U hU hW, hAO.moved hW.alike⟩⟩ rfl (by simpa using hna) (hL.1.trans hml) rfl (lv_room (by rw [nj_cats]; exact Nat.le_of_ble_eq_true hst)) h ⟨Nat.le_of_ble_eq_true hkc, Nat.le_of_ble_eq_true hks⟩
  intro T hT X
  obtain ⟨v, st₀, t, T', L, h0, X', hLo, e1, e2, ⟨hv, ⟨ad1, hag, hPt, hDt⟩, hz, hkk⟩, go⟩ := hr T hT X
  cases hv
  rw [h0] at hz hkk
  obtain ⟨g1, g2, g3⟩ := nj_grown (H1 := t.heap) hP hD hemb hnd hl hlc f3 hwc hl2 hag hPt hDt hsub hkk
  have h9 := k _ g1 T'.heap (locs ++ L) lm (fun j => by rw [g1 (1000 + j) (Or.inr (by omega))]; exact hsa j) (by rw [e1]; exact g2) g3
    ⟨Nat.le_trans hS.1 (by rw [e1]; exact hz), fun q h1 h2 => by rw [e1, hkk q (Nat.lt_of_lt_of_le h1 hS.1) (fun z => h2 (hsub q z))]; exact hS.2.1 q h1 h2, fun q hq => by
      rcases List.mem_append.mp hq with h | h
      · exact hS.2.2 q h
      · exact hsub _ (hLo q h)⟩ (nj_lm_ag g1 f1 hL)
  rw [nj_st_ag g1 f2] at h9
  obtain ⟨t2, a1, b1⟩ := h9 T' rfl X'
  exact ⟨t2, go t2 a1, b1⟩
end NjCtorRows
theorem nj_agt {n m : Nat} {a b c : Nat → Nat} (h1 : nj_ag n a b) (h2 : nj_ag m b c) (h : Nat.ble n m = true) : nj_ag n a c := fun k hk => by
  have := Nat.le_of_ble_eq_true h
  rw [h2 k (by omega), h1 k hk]
theorem nj_agr (n : Nat) (a : Nat → Nat) : nj_ag n a a := fun _ _ => rfl
theorem nj_neI {G : nj_G} {cc : ByteArray} {nL : Nat} {own : String} {rm : Room} (C : nj_C G cc nL own rm) : nj_Ne G.1.2.2.2.2.1 := by
  obtain ⟨⟨p, l, e, R, s, m⟩, ⟨args, below, meth, c, Q⟩, ⟨D, dT, A, sA⟩⟩ := G
  exact C.2.2.2.2.2.2.1.2.1
/-- one world under another order -/
def nj_eqv (a b : va_E) : Prop := a = b ∨ ∃ (t n : Nat) (f g : Nat → Option Nat), a = .inl (t, n, .inr (.inr (.inr (.inr f)))) ∧ b = .inl (t, n, .inr (.inr (.inr (.inr g)))) ∧ ∀ k, k < n → f k = g k
theorem nj_eqv_at {D : va_G} {dT : Nat → ClassId} {ad : Nat → Nat} {a b : va_E} {q : Nat} {H : Heap} (h : nj_eqv a b) (hat : va_at D nj_cls (q, nj_pe ad dT a) H) : va_at D nj_cls (q, nj_pe ad dT b) H := by
  rcases h with rfl | ⟨t, n, f, g, rfl, rfl, h⟩
  · exact hat
  · have e1 : vp_cell (dT t) (n, nj_px ad (.inr (.inr (.inr (.inr f))))) = vp_cell (dT t) (n, nj_px ad (.inr (.inr (.inr (.inr g))))) := by
      rw [nj_px, nj_px, vp_cell_q, vp_cell_q]
      exact nj_arrV _ _ (fun j hj => by rw [h j hj])
    have h2 : H[q]? = some (vp_cell (dT t) (n, nj_px ad (.inr (.inr (.inr (.inr f)))))) := hat
    show H[q]? = some _
    rw [h2, e1]
theorem vr_perm {G : nj_G} {ad : Nat → Nat} {kc ks pc : Nat} {ls ls0 : List (Option Value)} {st st0 : List Value} {hp hpL : List va_E} (is : List Nat) (hlen : is.length = hpL.length) (h1000 : Nat.ble is.length 1000 = true) (hn : va_nd is = true) (hc : ∀ (j : Nat) (e : va_E), hpL[j]? = some e → ∃ (k : Nat) (e' : va_E), is[j]? = some k ∧ hp[k]? = some e' ∧ nj_eqv e' (nj_re is e))
    (hls : ls.map (Option.map (nj_pv (nj_rn is))) = ls0) (hst : st.map (nj_pv (nj_rn is)) = st0) (k : nj_V G (fun k => ad (nj_rn is k)) kc ks pc ls st hpL) : nj_V G ad kc ks pc ls0 st0 hp := by
  obtain ⟨⟨p, l, e, R, s, m⟩, ⟨args, below, meth, c, Q⟩, ⟨D, dT, A, sA⟩⟩ := G
  intro H locs lm hsa hP hD hS hL
  subst hls; subst hst
  have h1000 := Nat.le_of_ble_eq_true h1000
  have key : ∀ (j : Nat) (e : va_E), hpL[j]? = some e → ∃ (k : Nat) (e' : va_E), is[j]? = some k ∧ hp[k]? = some e' ∧ nj_eqv e' (nj_re is e) ∧ nj_rn is j = k := by
    intro j e he
    obtain ⟨k, e', g1, g2, g3⟩ := hc j e he
    have hj : j < is.length := (List.getElem?_eq_some_iff.mp g1).1
    exact ⟨k, e', g1, g2, g3, nj_rn_at g1 (by omega)⟩
  have h := k H locs lm (fun j => by show ad (nj_rn is (1000 + j)) = sA j; rw [nj_rn, if_neg (by omega)]; exact hsa j) (fun j q hq => by
      obtain ⟨e0, g0, rfl⟩ := nj_pw_of hq
      obtain ⟨i, e', g1, g2, g3, g4⟩ := key j e0 g0
      have := nj_eqv_at g3 (hP i _ (nj_pw_at g2))
      rw [nj_pe_re] at this
      simp only [g4]
      exact this) (by
      refine ⟨fun i j x y hi hj hxy => ?_, fun j q hq => ?_⟩
      · obtain ⟨e1, g1, rfl⟩ := nj_pw_of hi
        obtain ⟨e2, g2, rfl⟩ := nj_pw_of hj
        obtain ⟨i1, e1', a1, b1, c1, d1⟩ := key i e1 g1
        obtain ⟨i2, e2', a2, b2, c2, d2⟩ := key j e2 g2
        simp only [d1, d2] at hxy
        have := hD.1 i1 i2 _ _ (nj_pw_at b1) (nj_pw_at b2) hxy
        subst this
        exact va_nd_inj is hn i j i1 a1 a2
      · obtain ⟨e1, g1, rfl⟩ := nj_pw_of hq
        obtain ⟨i1, e1', a1, b1, c1, d1⟩ := key j e1 g1
        simp only [d1]
        exact hD.2 i1 _ (nj_pw_at b1)) hS ⟨hL.1, hL.2.1, fun j v hv => by
      have := hL.2.2 j (nj_pv (nj_rn is) v) (by rw [List.getElem?_map, hv]; rfl)
      rw [nj_pv_pv] at this
      exact this⟩
  have e1 : st.map (nj_pv (fun k => ad (nj_rn is k))) = (st.map (nj_pv (nj_rn is))).map (nj_pv ad) := by
    rw [List.map_map]
    apply List.map_congr_left
    intro v _
    exact (nj_pv_pv _ _ v).symm
  rwa [e1] at h
section NjWrap
variable {G : nj_G} {cc : ByteArray} {nL : Nat} {own : String} {rm : Room} {ad : Nat → Nat} {kc ks pc pc' : Nat} {ls : List (Option Value)} {st : List Value} {hp : List va_E}
theorem vr_newo2 {idx ci N : Nat} {C0 : String} {T : u_T} {fs : List Value} (p kc2 ks2 : Nat) (hp2 : List va_E) (C : nj_C G cc nL own rm) (hd : nj_dc cc pc (.new idx) pc') (h1 : pc + 3 = pc') (hw1 : .classLink own idx C0 ∈ nj_T0) (hw2 : .instantiable C0 N ∈ nj_T0) (hw3 : .initialized C0 ∈ nj_T0) (hc : nj_cls[ci]? = some (C0, T, N)) (ty : Nat → FieldType) (hty : ∀ k, k < N → parseFieldDescriptor (T k).2.2.1 = some (ty k)) (hfs : ∀ j, j < N → defaultValue (ty j) = vp_V fs j) (hnr : fs.all (fun v => match v with | .ref _ => false | _ => true) = true)
    (hlen : hp.length = p) (happ : hp ++ [.inr (ci, fs)] = hp2) (hn : Nat.blt p 1000 = true) (hwf : nj_wf p ls st hp = true) (hk1 : kc + 1 = kc2) (hk2 : ks + N = ks2) (hkc : Nat.ble kc2 rm.cells = true) (hks : Nat.ble ks2 rm.slots = true) (k : ∀ ad', nj_ag p ad ad' → nj_V G ad' kc2 ks2 pc' ls (.ref p :: st) hp2) : nj_V G ad kc ks pc ls st hp := by
  subst hlen; subst happ; subst hk1; subst hk2
  exact vr_newo C hd h1 hw1 hw2 hw3 hc ty hty hfs hnr hn hwf hkc hks k
theorem vr_newI2 {n : Int32} (N p kc2 ks2 : Nat) (hp2 : List va_E) (C : nj_C G cc nL own rm) (hd : nj_dc cc pc (.newarray .int) pc') (h1 : pc + 2 = pc') (hw : .arrayClass .int ∈ nj_T0) (hn0 : ¬ n < 0) (hN : n.toNatClampNeg = N) (hby : Nat.ble (N * 8) 536870912 = true) (hlen : hp.length = p) (happ : hp ++ [.inl (0, N, .inl (fun _ => 0))] = hp2) (hn : Nat.blt p 1000 = true) (hwf : nj_wf p ls st hp = true) (hk1 : kc + 1 = kc2) (hk2 : ks + N = ks2) (hkc : Nat.ble kc2 rm.cells = true) (hks : Nat.ble ks2 rm.slots = true) (k : ∀ ad', nj_ag p ad ad' → nj_V G ad' kc2 ks2 pc' ls (.ref p :: st) hp2) : nj_V G ad kc ks pc ls (.int n :: st) hp := by
  subst hlen; subst happ; subst hk1; subst hk2
  exact vr_newI N C hd h1 hw hn0 hN hby hn hwf hkc hks k
theorem vr_newL2 {n : Int32} (N p kc2 ks2 : Nat) (hp2 : List va_E) (C : nj_C G cc nL own rm) (hd : nj_dc cc pc (.newarray .long) pc') (h1 : pc + 2 = pc') (hw : .arrayClass .long ∈ nj_T0) (hn0 : ¬ n < 0) (hN : n.toNatClampNeg = N) (hby : Nat.ble (N * 8) 536870912 = true) (hlen : hp.length = p) (happ : hp ++ [.inl (1, N, .inr (.inl (fun _ => 0)))] = hp2) (hn : Nat.blt p 1000 = true) (hwf : nj_wf p ls st hp = true) (hk1 : kc + 1 = kc2) (hk2 : ks + N = ks2) (hkc : Nat.ble kc2 rm.cells = true) (hks : Nat.ble ks2 rm.slots = true) (k : ∀ ad', nj_ag p ad ad' → nj_V G ad' kc2 ks2 pc' ls (.ref p :: st) hp2) : nj_V G ad kc ks pc ls (.int n :: st) hp := by
  subst hlen; subst happ; subst hk1; subst hk2
  exact vr_newL N C hd h1 hw hn0 hN hby hn hwf hkc hks k
theorem vr_newB2 {n : Int32} (N p kc2 ks2 : Nat) (hp2 : List va_E) (C : nj_C G cc nL own rm) (hd : nj_dc cc pc (.newarray .byte) pc') (h1 : pc + 2 = pc') (hw : .arrayClass .byte ∈ nj_T0) (hn0 : ¬ n < 0) (hN : n.toNatClampNeg = N) (hby : Nat.ble (N * 8) 536870912 = true) (hlen : hp.length = p) (happ : hp ++ [.inl (2, N, .inl (fun _ => 0))] = hp2) (hn : Nat.blt p 1000 = true) (hwf : nj_wf p ls st hp = true) (hk1 : kc + 1 = kc2) (hk2 : ks + N = ks2) (hkc : Nat.ble kc2 rm.cells = true) (hks : Nat.ble ks2 rm.slots = true) (k : ∀ ad', nj_ag p ad ad' → nj_V G ad' kc2 ks2 pc' ls (.ref p :: st) hp2) : nj_V G ad kc ks pc ls (.int n :: st) hp := by
  subst hlen; subst happ; subst hk1; subst hk2
  exact vr_newB N C hd h1 hw hn0 hN hby hn hwf hkc hks k
theorem vr_newq32 {n : Int32} {idx : Nat} (N p kc2 ks2 : Nat) (hp2 : List va_E) (CA : nj_CA G cc nL own rm) (hd : nj_dc cc pc (.anewarray idx) pc') (h1 : pc + 3 = pc') (hw : .classLink own idx nj_RRow ∈ nj_T0) (hn0 : ¬ n < 0) (hN : n.toNatClampNeg = N) (hby : Nat.ble (N * 4) 536870912 = true) (hlen : hp.length = p) (happ : hp ++ [.inl (3, N, .inr (.inr (.inr (.inr (fun _ => none)))))] = hp2) (hn : Nat.blt p 1000 = true) (hwf : nj_wf p ls st hp = true) (hk1 : kc + 1 = kc2) (hk2 : ks + N = ks2) (hkc : Nat.ble kc2 rm.cells = true) (hks : Nat.ble ks2 rm.slots = true) (k : ∀ ad', nj_ag p ad ad' → nj_V G ad' kc2 ks2 pc' ls (.ref p :: st) hp2) : nj_V G ad kc ks pc ls (.int n :: st) hp := by
  subst hlen; subst happ; subst hk1; subst hk2
  exact vr_newq3 N CA hd h1 hw hn0 hN hby hn hwf hkc hks k
theorem vr_newq42 {n : Int32} {idx : Nat} (N p kc2 ks2 : Nat) (hp2 : List va_E) (CA : nj_CA G cc nL own rm) (hd : nj_dc cc pc (.anewarray idx) pc') (h1 : pc + 3 = pc') (hw : .classLink own idx nj_RText ∈ nj_T0) (hn0 : ¬ n < 0) (hN : n.toNatClampNeg = N) (hby : Nat.ble (N * 4) 536870912 = true) (hlen : hp.length = p) (happ : hp ++ [.inl (4, N, .inr (.inr (.inr (.inr (fun _ => none)))))] = hp2) (hn : Nat.blt p 1000 = true) (hwf : nj_wf p ls st hp = true) (hk1 : kc + 1 = kc2) (hk2 : ks + N = ks2) (hkc : Nat.ble kc2 rm.cells = true) (hks : Nat.ble ks2 rm.slots = true) (k : ∀ ad', nj_ag p ad ad' → nj_V G ad' kc2 ks2 pc' ls (.ref p :: st) hp2) : nj_V G ad kc ks pc ls (.int n :: st) hp := by
  subst hlen; subst happ; subst hk1; subst hk2
  exact vr_newq4 N CA hd h1 hw hn0 hN hby hn hwf hkc hks k
theorem vr_newq52 {n : Int32} {idx : Nat} (N p kc2 ks2 : Nat) (hp2 : List va_E) (CA : nj_CA G cc nL own rm) (hd : nj_dc cc pc (.anewarray idx) pc') (h1 : pc + 3 = pc') (hw : .classLink own idx nj_RClub ∈ nj_T0) (hn0 : ¬ n < 0) (hN : n.toNatClampNeg = N) (hby : Nat.ble (N * 4) 536870912 = true) (hlen : hp.length = p) (happ : hp ++ [.inl (5, N, .inr (.inr (.inr (.inr (fun _ => none)))))] = hp2) (hn : Nat.blt p 1000 = true) (hwf : nj_wf p ls st hp = true) (hk1 : kc + 1 = kc2) (hk2 : ks + N = ks2) (hkc : Nat.ble kc2 rm.cells = true) (hks : Nat.ble ks2 rm.slots = true) (k : ∀ ad', nj_ag p ad ad' → nj_V G ad' kc2 ks2 pc' ls (.ref p :: st) hp2) : nj_V G ad kc ks pc ls (.int n :: st) hp := by
  subst hlen; subst happ; subst hk1; subst hk2
  exact vr_newq5 N CA hd h1 hw hn0 hN hby hn hwf hkc hks k
theorem vr_ctorI2 {y : MethodName} {cy : ByteArray} {nLy n idx mc ms : Nat} {rmc : Room} {hpc hpc' : List va_E} (is : List Nat) (x p kc2 ks2 : Nat) (as st : List Value) {st0 : List Value} (hp2 : List va_E) (C : nj_C G cc nL own rm) (hAO : nj_AO G.1.2.2.2.2.1) (hd : nj_dc cc pc (.invokespecial idx) pc') (h1 : pc + 3 = pc') (hlk : .methodLink own idx y ∈ nj_T0) (hy1 : .instanceMethod y ∈ nj_T0) (hy2 : .initialized y.cls ∈ nj_T0) (hy3 : .code y cy nLy none ∈ nj_T0) (hyn : y.name = "<init>") (hy5 : y.cls ≠ "java/lang/invoke/MethodHandle" ∧ y.cls ≠ "java/lang/invoke/VarHandle" ∧ (parseMethodDescriptor y.desc).map (fun d => d.parameters.length) = some n)
    (hM : nj_ConA y cy nLy rmc mc ms hpc (.ref 0 :: as) hpc') (hE : nj_Em hp is hpc) (hlen : hp.length = p) (hnd : va_nd (nj_is2 is p x) = true) (hl : Nat.blt (p + x) 1000 = true) (hlc : Nat.blt (is.length + x) 1000 = true) (hl2 : hpc'.length = is.length + x) (hwf : nj_wf p ls st hp = true) (hwc : hpc'.all (nj_we (is.length + x)) = true) (hna : as.length = n) (hst : Nat.ble ((st.map fun v => v.category).sum) 8 = true) (hrm : nj_RoA rmc rm nLy mc ms) (hk1 : kc + mc = kc2) (hk2 : ks + ms = ks2) (hkc : Nat.ble kc2 rm.cells = true) (hks : Nat.ble ks2 rm.slots = true)
    (hsk : (as.map (nj_pv (nj_rn is))).reverse ++ .ref (nj_rn is 0) :: st = st0) (hres : nj_patch (hp ++ List.replicate x (.inr (0, []))) (nj_is2 is p x) (hpc'.map (nj_re (nj_is2 is p x))) = hp2) (k : ∀ ad', nj_ag p ad ad' → nj_V G ad' kc2 ks2 pc' ls st hp2) : nj_V G ad kc ks pc ls st0 hp := by
  subst hlen; subst hk1; subst hk2
  exact vr_ctorI is x as st C hAO hd h1 hlk hy1 hy2 hy3 hyn hy5 hM hE hnd hl hlc hl2 hwf hwc hna hst hrm hkc hks hsk hres k
theorem vr_ctorN2 {host : String} {y : MethodName} {cy : ByteArray} {nLy n idx mc ms : Nat} {rmc : Room} {hpc hpc' : List va_E} (is : List Nat) (x p kc2 ks2 : Nat) (as st : List Value) {st0 : List Value} (hp2 : List va_E) (C : nj_C G cc nL own rm) (hAO : nj_AO G.1.2.2.2.2.1) (hd : nj_dc cc pc (.invokespecial idx) pc') (h1 : pc + 3 = pc') (hlk : va_Nw (.methodLinkNest own idx y host) G.1.2.2.2.2.1) (hy1 : .instanceMethod y ∈ nj_T0) (hy2 : .initialized y.cls ∈ nj_T0) (hy3 : .code y cy nLy none ∈ nj_T0) (hyn : y.name = "<init>") (hy5 : y.cls ≠ "java/lang/invoke/MethodHandle" ∧ y.cls ≠ "java/lang/invoke/VarHandle" ∧ (parseMethodDescriptor y.desc).map (fun d => d.parameters.length) = some n)
    (hM : nj_ConA y cy nLy rmc mc ms hpc (.ref 0 :: as) hpc') (hE : nj_Em hp is hpc) (hlen : hp.length = p) (hnd : va_nd (nj_is2 is p x) = true) (hl : Nat.blt (p + x) 1000 = true) (hlc : Nat.blt (is.length + x) 1000 = true) (hl2 : hpc'.length = is.length + x) (hwf : nj_wf p ls st hp = true) (hwc : hpc'.all (nj_we (is.length + x)) = true) (hna : as.length = n) (hst : Nat.ble ((st.map fun v => v.category).sum) 8 = true) (hrm : nj_RoA rmc rm nLy mc ms) (hk1 : kc + mc = kc2) (hk2 : ks + ms = ks2) (hkc : Nat.ble kc2 rm.cells = true) (hks : Nat.ble ks2 rm.slots = true)
    (hsk : (as.map (nj_pv (nj_rn is))).reverse ++ .ref (nj_rn is 0) :: st = st0) (hres : nj_patch (hp ++ List.replicate x (.inr (0, []))) (nj_is2 is p x) (hpc'.map (nj_re (nj_is2 is p x))) = hp2) (k : ∀ ad', nj_ag p ad ad' → nj_V G ad' kc2 ks2 pc' ls st hp2) : nj_V G ad kc ks pc ls st0 hp := by
  subst hlen; subst hk1; subst hk2
  exact vr_ctorN is x as st C hAO hd h1 hlk hy1 hy2 hy3 hyn hy5 hM hE hnd hl hlc hl2 hwf hwc hna hst hrm hkc hks hsk hres k
end NjWrap
