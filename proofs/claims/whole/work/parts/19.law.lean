def R_law : String := "NobodyJoinsLaw"
def lw_P (b : Addr) (xs : List Int32) (args : Array Value) (s : State) : Prop := args = #[.ref b] ∧ s.IntsAt b xs ∧ xs.length ≤ 384 ∧ (Jvm.Cond.and given_1 narrow_1).before args s = true
def lw_Q (_ : Array Value) (s : State) (o : Outcome) (t : State) : Prop := o = .returned (some (.int 1)) ∧ Framed s o t [] 600000 7302250
def lw_Z (below : List Frame) (a : Array Value) (s : State) : State → Prop := fun t => ∃ o, t.status = .running ∧ Ended t below o ∧ lw_Q a s o t
/-- the law's own end, with 1 on the stack, nothing written that was there before, its room as the claim has it -/
theorem lw_ret {p : Program} {l : Launch} {e : Env} {s : State} {m : MethodId} {below : List Frame} {meth : Method} {c : Code} {b : Nat} (hx : p.tables.exec = Jvm.exec) (hb : c.code = code) (hr : meth.sig.returnType = ret) (hlocks : meth.locks = false) {pc : Nat} {H : Heap} {ls : Array Slot} (hdg : decode code pc = .ok (.ireturn, 1)) : W p l e room_1 s m #[Value.ref b] below meth c H [] 600000 7302250 (lw_Z below #[Value.ref b] s) (F0 m pc ls [.int 1]) := by
  intro T hT X
  obtain ⟨fs, hret, hrun, hended, hW, hframe⟩ := X.leave (v := some (.int 1)) (hlocks := hlocks) (fun h => by rw [hr] at h; cases h)
  have hmeth' : T.vm.method? m = some meth := X.method'
  refine ⟨T.setFrames fs, ?_, .returned (some (.int 1)), hrun, hended, rfl, ⟨_, rfl⟩, hW, hframe⟩
  jvm_step X.here [X.here.top, hx, hb, hdg, hmeth', hr, ret, narrow_b1]
  (try refine ⟨rfl, ?_⟩); (try refine ⟨rfl, ?_⟩)
  first | (intro acts; rw [hret _ acts rfl rfl rfl]) | rw [hret _ _ rfl rfl rfl]
  exact Steps.refl _
/-- what holds at the law's entry: the machine, the code, the tables' words (any of lw_tbl by 'hts w (by decide +kernel)'), the script of L ints xs at the cell b, what the Statement gives of the start (any of its parts by flat_of_before) -/
def lw_At (p : Program) (s : State) (m : MethodId) (meth : Method) (c : Code) (b L : Nat) (xs : Nat → Int32) : Prop :=
  p.tables.exec = Jvm.exec ∧ c.code = code ∧ meth.sig.returnType = ret ∧ c.maxLocals = 4 ∧ s.vm.findClass R_law = some m.cls ∧ (∀ w ∈ lw_tbl, w.before #[Value.ref b] s = true) ∧ va_X b L xs s s.heap ∧ b < s.heap.size ∧ meth.locks = false ∧ (Jvm.Cond.and given_1 narrow_1).before #[Value.ref b] s = true
/-- what the law's own context has besides -/
def nj_Lw (G : nj_G) (ad : Nat → Nat) (b L : Nat) (xs : Nat → Int32) : Prop :=
  match G with
  | ((p, l, e, R, s, m), (args, below, meth, c, Q), (D, dT, A, sA)) => args = #[Value.ref b] ∧ Q = lw_Z below #[Value.ref b] s ∧ meth.sig.returnType = ret ∧ va_X b L xs s s.heap ∧ b < s.heap.size ∧ ¬ A b ∧ (∀ q, A q → s.heap.size ≤ q) ∧ ad 2000 = b
section NjLawRows
variable {G : nj_G} {nL : Nat} {own : String} {ad : Nat → Nat} {kc ks pc pc' b L : Nat} {xs : Nat → Int32} {ls : List (Option Value)} {st : List Value} {hp : List va_E}
theorem vr_script {i : Int32} (C : nj_C G code nL own room_1) (hW : nj_Lw G ad b L xs) (hd : nj_dc code pc .iaload pc') (h1 : pc + 1 = pc') (hin : vp_in i L) (k : nj_V G ad kc ks pc' ls (.int (xs (nj_n i)) :: st) hp) : nj_V G ad kc ks pc ls (.int i :: .ref 2000 :: st) hp := by
  obtain ⟨⟨p, l, e, R, s, m⟩, ⟨args, below, meth, c, Q⟩, ⟨D, dT, A, sA⟩⟩ := G
  obtain ⟨hx, hb, hml, hown, hts, hR, ⟨hK, hNe, hSt⟩, hlk, hA⟩ := C
  obtain ⟨w1, w2, w3, w4, w5, w6, w7, w8⟩ := hW
  intro H locs lm hsa hP hD hS hL
  obtain ⟨n1, h, h2⟩ := hd
  have e1 : n1 = 1 := by omega
  subst e1; subst h1
  show W p l e R s m args below meth c H locs kc ks Q (F0 m pc lm (.int i :: .ref (ad 2000) :: st.map (nj_pv ad)))
  rw [w8]
  exact va_sld hx hb w4 w5 w6 hS hin h (k H locs lm hsa hP hD hS hL)
theorem vr_slen (C : nj_C G code nL own room_1) (hW : nj_Lw G ad b L xs) (hd : nj_dc code pc .arraylength pc') (h1 : pc + 1 = pc') (k : nj_V G ad kc ks pc' ls (.int (Int32.ofNat L) :: st) hp) : nj_V G ad kc ks pc ls (.ref 2000 :: st) hp := by
  obtain ⟨⟨p, l, e, R, s, m⟩, ⟨args, below, meth, c, Q⟩, ⟨D, dT, A, sA⟩⟩ := G
  obtain ⟨hx, hb, hml, hown, hts, hR, ⟨hK, hNe, hSt⟩, hlk, hA⟩ := C
  obtain ⟨w1, w2, w3, w4, w5, w6, w7, w8⟩ := hW
  intro H locs lm hsa hP hD hS hL
  obtain ⟨n1, h, h2⟩ := hd
  have e1 : n1 = 1 := by omega
  subst e1; subst h1
  show W p l e R s m args below meth c H locs kc ks Q (F0 m pc lm (.ref (ad 2000) :: st.map (nj_pv ad)))
  rw [w8]
  exact va_slen hx hb w4 w5 w6 hS h (k H locs lm hsa hP hD hS hL)
theorem vr_lawret (C : nj_C G code nL own room_1) (hW : nj_Lw G ad b L xs) (hkc : kc ≤ room_1.cells) (hks : ks ≤ room_1.slots) (hd : nj_dc code pc .ireturn pc') (h1 : pc + 1 = pc') : nj_V G ad kc ks pc ls [.int 1] hp := by
  obtain ⟨⟨p, l, e, R, s, m⟩, ⟨args, below, meth, c, Q⟩, ⟨D, dT, A, sA⟩⟩ := G
  obtain ⟨hx, hb, hml, hown, hts, hR, ⟨hK, hNe, hSt⟩, hlk, hA⟩ := C
  obtain ⟨w1, w2, w3, w4, w5, w6, w7, w8⟩ := hW
  intro H locs lm hsa hP hD hS hL
  obtain ⟨n1, h, h2⟩ := hd
  have e1 : n1 = 1 := by omega
  subst e1; subst h1; subst w1; subst w2; subst hR
  refine va_forget (fun q hq => w7 _ (hS.2.2 q hq)) ?_
  refine W.widen (k := 600000) (n := 7302250) hkc hks ?_
  exact lw_ret hx hb w3 hlk h
end NjLawRows
def nj_isX : List Nat := [0, 1, 2, 3, 4, 5, 6, 7, 8, 9, 10, 11, 12, 13, 14, 15, 16, 17, 18, 19, 20, 21, 22, 23, 24, 25, 26, 27, 28, 29, 30, 31, 32, 33, 34, 35, 36, 37, 38, 39, 40, 41, 42, 43, 44, 45, 46, 47, 48, 49, 50, 51, 52]
def nj_isM : List Nat := [53, 54, 55, 56, 57, 58, 59, 60, 61, 62, 63, 64, 65]
def rp_Law (s : NjS) (m : MdS) : List va_E := (rp_Nj s).map (nj_re nj_isX) ++ (rp_Md m).map (nj_re nj_isM)
set_option maxRecDepth 100000 in
theorem em_Law_Nj (s : NjS) (m : MdS) : nj_Em (rp_Law s m) nj_isX (rp_Nj s) := ⟨rfl, by decide, rfl⟩
set_option maxRecDepth 100000 in
theorem em_Law_Md (s : NjS) (m : MdS) : nj_Em (rp_Law s m) nj_isM (rp_Md m) := ⟨rfl, by decide, rfl⟩
theorem nj_patch_mid : ∀ (a es pre b : List va_E), es.length = a.length → nj_patch (pre ++ a ++ b) (List.range' pre.length a.length) es = pre ++ es ++ b
  | [], [], pre, b, _ => by simp [nj_patch]
  | [], e :: es, pre, b, h => by simp at h
  | x :: a, [], pre, b, h => by simp at h
  | x :: a, e :: es, pre, b, h => by
    have h1 : es.length = a.length := by simpa using h
    rw [List.length_cons, List.range'_succ, nj_patch]
    have h2 : (pre ++ (x :: a) ++ b).set pre.length e = (pre ++ [e]) ++ a ++ b := by simp [List.set_append]
    have h3 := nj_patch_mid a es (pre ++ [e]) b h1
    rw [List.length_append, List.length_singleton] at h3
    rw [h2, h3]
    simp
theorem nj_isX_eq : nj_isX = List.range' 0 53 := by decide
theorem nj_isM_eq : nj_isM = List.range' 53 13 := by decide
theorem pa_Law_Nj (s : NjS) (m : MdS) (s' : NjS) : nj_patch (rp_Law s m) nj_isX ((rp_Nj s').map (nj_re nj_isX)) = rp_Law s' m := by
  have h := nj_patch_mid ((rp_Nj s).map (nj_re nj_isX)) ((rp_Nj s').map (nj_re nj_isX)) [] ((rp_Md m).map (nj_re nj_isM)) (by rw [List.length_map, List.length_map]; rfl)
  have e : ((rp_Nj s).map (nj_re nj_isX)).length = 53 := by rw [List.length_map]; rfl
  rw [e, List.length_nil, ← nj_isX_eq] at h
  exact h
theorem pa_Law_Md (s : NjS) (m : MdS) (m' : MdS) : nj_patch (rp_Law s m) nj_isM ((rp_Md m').map (nj_re nj_isM)) = rp_Law s m' := by
  have h := nj_patch_mid ((rp_Md m).map (nj_re nj_isM)) ((rp_Md m').map (nj_re nj_isM)) ((rp_Nj s).map (nj_re nj_isX)) [] (by rw [List.length_map, List.length_map]; rfl)
  have e1 : ((rp_Md m).map (nj_re nj_isM)).length = 13 := by rw [List.length_map]; rfl
  have e2 : ((rp_Nj s).map (nj_re nj_isX)).length = 53 := by rw [List.length_map]; rfl
  rw [e1, e2, ← nj_isM_eq, List.append_nil, List.append_nil] at h
  exact h
theorem nj_ro_Nj_row : nj_Ro nr_Nj_row room_1 3 := ⟨rfl, rfl, rfl, rfl⟩
theorem nj_ro_Md_row : nj_Ro nr_Md_row room_1 3 := ⟨rfl, rfl, rfl, rfl⟩
theorem nj_ro_Nj_lay : nj_Ro nr_Nj_lay room_1 5 := ⟨rfl, rfl, rfl, rfl⟩
theorem nj_ro_Md_lay : nj_Ro nr_Md_lay room_1 6 := ⟨rfl, rfl, rfl, rfl⟩
theorem nj_ro_Nj_at : nj_Ro nr_Nj_at room_1 4 := ⟨rfl, rfl, rfl, rfl⟩
theorem nj_ro_Md_at : nj_Ro nr_Md_at room_1 4 := ⟨rfl, rfl, rfl, rfl⟩
theorem nj_ro_Nj_tear : nj_Ro nr_Nj_tear room_1 2 := ⟨rfl, rfl, rfl, rfl⟩
theorem nj_ro_Md_tear : nj_Ro nr_Md_tear room_1 2 := ⟨rfl, rfl, rfl, rfl⟩
theorem nj_ro_Nj_copy : nj_Ro nr_Nj_copy room_1 6 := ⟨rfl, rfl, rfl, rfl⟩
theorem nj_ro_Md_copy : nj_Ro nr_Md_copy room_1 9 := ⟨rfl, rfl, rfl, rfl⟩
theorem nj_ro_Nj_mean : nj_Ro nr_Nj_mean room_1 3 := ⟨rfl, rfl, rfl, rfl⟩
theorem nj_ro_Md_mean : nj_Ro nr_Md_mean room_1 5 := ⟨rfl, rfl, rfl, rfl⟩
theorem nj_ro_Nj_text : nj_Ro nr_Nj_text room_1 3 := ⟨rfl, rfl, rfl, rfl⟩
theorem nj_ro_Md_text : nj_Ro nr_Md_text room_1 4 := ⟨rfl, rfl, rfl, rfl⟩
theorem nj_ro_Nj_put : nj_Ro nr_Nj_put room_1 6 := ⟨rfl, rfl, rfl, rfl⟩
theorem nj_ro_Md_put : nj_Ro nr_Md_put room_1 5 := ⟨rfl, rfl, rfl, rfl⟩
theorem nj_ro_Nj_fault : nj_Ro nr_Nj_fault room_1 2 := ⟨rfl, rfl, rfl, rfl⟩
theorem nj_ro_Md_fault : nj_Ro nr_Md_fault room_1 2 := ⟨rfl, rfl, rfl, rfl⟩
theorem nj_ro_Nj_club : nj_Ro nr_Nj_club room_1 3 := ⟨rfl, rfl, rfl, rfl⟩
theorem nj_ro_Md_club : nj_Ro nr_Md_club room_1 3 := ⟨rfl, rfl, rfl, rfl⟩
theorem nj_ro_Nj_child : nj_Ro nr_Nj_child room_1 3 := ⟨rfl, rfl, rfl, rfl⟩
theorem nj_ro_Md_child : nj_Ro nr_Md_child room_1 3 := ⟨rfl, rfl, rfl, rfl⟩
theorem nj_ro_Nj_mark : nj_Ro nr_Nj_mark room_1 3 := ⟨rfl, rfl, rfl, rfl⟩
theorem nj_ro_Md_mark : nj_Ro nr_Md_mark room_1 4 := ⟨rfl, rfl, rfl, rfl⟩
theorem nj_ro_Nj_rule : nj_Ro nr_Nj_rule room_1 3 := ⟨rfl, rfl, rfl, rfl⟩
theorem nj_ro_Md_rule : nj_Ro nr_Md_rule room_1 3 := ⟨rfl, rfl, rfl, rfl⟩
theorem nj_ro_Nj_oust : nj_Ro nr_Nj_oust room_1 2 := ⟨rfl, rfl, rfl, rfl⟩
theorem nj_ro_Md_oust : nj_Ro nr_Md_oust room_1 2 := ⟨rfl, rfl, rfl, rfl⟩
theorem nj_ro_Nj_join : nj_Ro nr_Nj_join room_1 2 := ⟨rfl, rfl, rfl, rfl⟩
theorem nj_ro_Md_join : nj_Ro nr_Md_join room_1 2 := ⟨rfl, rfl, rfl, rfl⟩
theorem nj_ro_Nj_fee : nj_Ro nr_Nj_fee room_1 1 := ⟨rfl, rfl, rfl, rfl⟩
theorem nj_ro_Md_fee : nj_Ro nr_Md_fee room_1 1 := ⟨rfl, rfl, rfl, rfl⟩
theorem nj_ro_Nj_grudge : nj_Ro nr_Nj_grudge room_1 3 := ⟨rfl, rfl, rfl, rfl⟩
theorem nj_ro_Md_grudge : nj_Ro nr_Md_grudge room_1 3 := ⟨rfl, rfl, rfl, rfl⟩
theorem nj_ro_Nj_undo : nj_Ro nr_Nj_undo room_1 4 := ⟨rfl, rfl, rfl, rfl⟩
theorem nj_ro_Md_undo : nj_Ro nr_Md_undo room_1 4 := ⟨rfl, rfl, rfl, rfl⟩
theorem nj_ro_Nj_keep : nj_Ro nr_Nj_keep room_1 2 := ⟨rfl, rfl, rfl, rfl⟩
theorem nj_ro_Md_keep : nj_Ro nr_Md_keep room_1 2 := ⟨rfl, rfl, rfl, rfl⟩
theorem nj_ro_Nj_on : nj_Ro nr_Nj_on room_1 2 := ⟨rfl, rfl, rfl, rfl⟩
theorem nj_ro_Md_on : nj_Ro nr_Md_on room_1 2 := ⟨rfl, rfl, rfl, rfl⟩
theorem nj_ro_Nj_yes : nj_Ro nr_Nj_yes room_1 4 := ⟨rfl, rfl, rfl, rfl⟩
theorem nj_ro_Md_yes : nj_Ro nr_Md_yes room_1 3 := ⟨rfl, rfl, rfl, rfl⟩
theorem nj_ro_Nj_can : nj_Ro nr_Nj_can room_1 3 := ⟨rfl, rfl, rfl, rfl⟩
theorem nj_ro_Md_can : nj_Ro nr_Md_can room_1 2 := ⟨rfl, rfl, rfl, rfl⟩
theorem nj_ro_Nj_swing : nj_Ro nr_Nj_swing room_1 7 := ⟨rfl, rfl, rfl, rfl⟩
theorem nj_ro_Md_swing : nj_Ro nr_Md_swing room_1 5 := ⟨rfl, rfl, rfl, rfl⟩
theorem nj_ro_Nj_rules : nj_Ro nr_Nj_rules room_1 5 := ⟨rfl, rfl, rfl, rfl⟩
theorem nj_ro_Md_rules : nj_Ro nr_Md_rules room_1 4 := ⟨rfl, rfl, rfl, rfl⟩
theorem nj_ro_Nj_longest : nj_Ro nr_Nj_longest room_1 2 := ⟨rfl, rfl, rfl, rfl⟩
theorem nj_ro_Md_longest : nj_Ro nr_Md_longest room_1 6 := ⟨rfl, rfl, rfl, rfl⟩
theorem nj_ro_Nj_ways : nj_Ro nr_Nj_ways room_1 2 := ⟨rfl, rfl, rfl, rfl⟩
theorem nj_ro_Md_ways : nj_Ro nr_Md_ways room_1 5 := ⟨rfl, rfl, rfl, rfl⟩
theorem nj_ro_Nj_alone : nj_Ro nr_Nj_alone room_1 1 := ⟨rfl, rfl, rfl, rfl⟩
theorem nj_ro_Md_alone : nj_Ro nr_Md_alone room_1 3 := ⟨rfl, rfl, rfl, rfl⟩
theorem nj_ro_Nj_stands : nj_Ro nr_Nj_stands room_1 4 := ⟨rfl, rfl, rfl, rfl⟩
theorem nj_ro_Md_stands : nj_Ro nr_Md_stands room_1 4 := ⟨rfl, rfl, rfl, rfl⟩
theorem nj_ro_Nj_run : nj_Ro nr_Nj_run room_1 5 := ⟨rfl, rfl, rfl, rfl⟩
theorem nj_ro_Md_run : nj_Ro nr_Md_run room_1 6 := ⟨rfl, rfl, rfl, rfl⟩
theorem nj_ro_Nj_splits : nj_Ro nr_Nj_splits room_1 6 := ⟨rfl, rfl, rfl, rfl⟩
theorem nj_ro_Md_splits : nj_Ro nr_Md_splits room_1 5 := ⟨rfl, rfl, rfl, rfl⟩
theorem nj_ro_Nj_peace : nj_Ro nr_Nj_peace room_1 3 := ⟨rfl, rfl, rfl, rfl⟩
theorem nj_ro_Md_peace : nj_Ro nr_Md_peace room_1 5 := ⟨rfl, rfl, rfl, rfl⟩
theorem nj_ro_Nj_power : nj_Ro nr_Nj_power room_1 3 := ⟨rfl, rfl, rfl, rfl⟩
theorem nj_ro_Md_power : nj_Ro nr_Md_power room_1 9 := ⟨rfl, rfl, rfl, rfl⟩
theorem nj_ro_Nj_share : nj_Ro nr_Nj_share room_1 5 := ⟨rfl, rfl, rfl, rfl⟩
theorem nj_ro_Md_share : nj_Ro nr_Md_share room_1 4 := ⟨rfl, rfl, rfl, rfl⟩
theorem nj_ro_Nj_secrets : nj_Ro nr_Nj_secrets room_1 3 := ⟨rfl, rfl, rfl, rfl⟩
theorem nj_ro_Md_secrets : nj_Ro nr_Md_secrets room_1 2 := ⟨rfl, rfl, rfl, rfl⟩
theorem nj_ro_Nj_told : nj_Ro nr_Nj_told room_1 4 := ⟨rfl, rfl, rfl, rfl⟩
theorem nj_ro_Md_told : nj_Ro nr_Md_told room_1 6 := ⟨rfl, rfl, rfl, rfl⟩
theorem nj_ro_Nj_minutes : nj_Ro nr_Nj_minutes room_1 4 := ⟨rfl, rfl, rfl, rfl⟩
theorem nj_ro_Md_minutes : nj_Ro nr_Md_minutes room_1 10 := ⟨rfl, rfl, rfl, rfl⟩
theorem nj_ro_Nj_odds : nj_Ro nr_Nj_odds room_1 9 := ⟨rfl, rfl, rfl, rfl⟩
theorem nj_ro_Md_odds : nj_Ro nr_Md_odds room_1 8 := ⟨rfl, rfl, rfl, rfl⟩
theorem nj_ro_Nj_lots : nj_Ro nr_Nj_lots room_1 6 := ⟨rfl, rfl, rfl, rfl⟩
theorem nj_ro_Md_lots : nj_Ro nr_Md_lots room_1 8 := ⟨rfl, rfl, rfl, rfl⟩
theorem nj_ro_Nj_asked : nj_Ro nr_Nj_asked room_1 1 := ⟨rfl, rfl, rfl, rfl⟩
theorem nj_ro_Md_asked : nj_Ro nr_Md_asked room_1 1 := ⟨rfl, rfl, rfl, rfl⟩
theorem nj_ro_Nj_upper : nj_Ro nr_Nj_upper room_1 1 := ⟨rfl, rfl, rfl, rfl⟩
theorem nj_ro_Md_upper : nj_Ro nr_Md_upper room_1 1 := ⟨rfl, rfl, rfl, rfl⟩
theorem nj_ro_Nj_lower : nj_Ro nr_Nj_lower room_1 1 := ⟨rfl, rfl, rfl, rfl⟩
theorem nj_ro_Md_lower : nj_Ro nr_Md_lower room_1 1 := ⟨rfl, rfl, rfl, rfl⟩
theorem nj_ro_Nj_count : nj_Ro nr_Nj_count room_1 2 := ⟨rfl, rfl, rfl, rfl⟩
theorem nj_ro_Md_count : nj_Ro nr_Md_count room_1 2 := ⟨rfl, rfl, rfl, rfl⟩
theorem nj_ro_Nj_finding : nj_Ro nr_Nj_finding room_1 1 := ⟨rfl, rfl, rfl, rfl⟩
theorem nj_ro_Md_finding : nj_Ro nr_Md_finding room_1 1 := ⟨rfl, rfl, rfl, rfl⟩
theorem nj_ro_Nj_findings : nj_Ro nr_Nj_findings room_1 2 := ⟨rfl, rfl, rfl, rfl⟩
theorem nj_ro_Md_findings : nj_Ro nr_Md_findings room_1 2 := ⟨rfl, rfl, rfl, rfl⟩
theorem nj_ro_Nj_digest : nj_Ro nr_Nj_digest room_1 5 := ⟨rfl, rfl, rfl, rfl⟩
theorem nj_ro_Md_digest : nj_Ro nr_Md_digest room_1 5 := ⟨rfl, rfl, rfl, rfl⟩
theorem ml_Law_9 : Cond.methodLink "NobodyJoinsLaw" 9 ny_Nj_init ∈ nj_T0 := nj_T0_in (List.mem_of_getElem? (i := 80) (by decide +kernel)) (by decide +kernel)
theorem ml_Law_13 : Cond.methodLink "NobodyJoinsLaw" 13 ny_Nj_row ∈ nj_T0 := nj_T0_in (List.mem_of_getElem? (i := 233) (by decide +kernel)) (by decide +kernel)
theorem ml_Law_18 : Cond.methodLink "NobodyJoinsLaw" 18 ny_Nj_lay ∈ nj_T0 := nj_T0_in (List.mem_of_getElem? (i := 248) (by decide +kernel)) (by decide +kernel)
theorem ml_Law_23 : Cond.methodLink "NobodyJoinsLaw" 23 ny_Nj_at ∈ nj_T0 := nj_T0_in (List.mem_of_getElem? (i := 264) (by decide +kernel)) (by decide +kernel)
theorem ml_Law_27 : Cond.methodLink "NobodyJoinsLaw" 27 ny_Nj_tear ∈ nj_T0 := nj_T0_in (List.mem_of_getElem? (i := 268) (by decide +kernel)) (by decide +kernel)
theorem ml_Law_32 : Cond.methodLink "NobodyJoinsLaw" 32 ny_Nj_copy ∈ nj_T0 := nj_T0_in (List.mem_of_getElem? (i := 272) (by decide +kernel)) (by decide +kernel)
theorem ml_Law_37 : Cond.methodLink "NobodyJoinsLaw" 37 ny_Nj_mean ∈ nj_T0 := nj_T0_in (List.mem_of_getElem? (i := 283) (by decide +kernel)) (by decide +kernel)
theorem ml_Law_41 : Cond.methodLink "NobodyJoinsLaw" 41 ny_Nj_text ∈ nj_T0 := nj_T0_in (List.mem_of_getElem? (i := 291) (by decide +kernel)) (by decide +kernel)
theorem ml_Law_45 : Cond.methodLink "NobodyJoinsLaw" 45 ny_Nj_put ∈ nj_T0 := nj_T0_in (List.mem_of_getElem? (i := 302) (by decide +kernel)) (by decide +kernel)
theorem ml_Law_49 : Cond.methodLink "NobodyJoinsLaw" 49 ny_Nj_fault ∈ nj_T0 := nj_T0_in (List.mem_of_getElem? (i := 314) (by decide +kernel)) (by decide +kernel)
theorem ml_Law_53 : Cond.methodLink "NobodyJoinsLaw" 53 ny_Nj_club ∈ nj_T0 := nj_T0_in (List.mem_of_getElem? (i := 365) (by decide +kernel)) (by decide +kernel)
theorem ml_Law_57 : Cond.methodLink "NobodyJoinsLaw" 57 ny_Nj_child ∈ nj_T0 := nj_T0_in (List.mem_of_getElem? (i := 375) (by decide +kernel)) (by decide +kernel)
theorem ml_Law_61 : Cond.methodLink "NobodyJoinsLaw" 61 ny_Nj_mark ∈ nj_T0 := nj_T0_in (List.mem_of_getElem? (i := 397) (by decide +kernel)) (by decide +kernel)
theorem ml_Law_65 : Cond.methodLink "NobodyJoinsLaw" 65 ny_Nj_rule ∈ nj_T0 := nj_T0_in (List.mem_of_getElem? (i := 418) (by decide +kernel)) (by decide +kernel)
theorem ml_Law_69 : Cond.methodLink "NobodyJoinsLaw" 69 ny_Nj_oust ∈ nj_T0 := nj_T0_in (List.mem_of_getElem? (i := 422) (by decide +kernel)) (by decide +kernel)
theorem ml_Law_73 : Cond.methodLink "NobodyJoinsLaw" 73 ny_Nj_join ∈ nj_T0 := nj_T0_in (List.mem_of_getElem? (i := 460) (by decide +kernel)) (by decide +kernel)
theorem ml_Law_77 : Cond.methodLink "NobodyJoinsLaw" 77 ny_Nj_fee ∈ nj_T0 := nj_T0_in (List.mem_of_getElem? (i := 476) (by decide +kernel)) (by decide +kernel)
theorem ml_Law_82 : Cond.methodLink "NobodyJoinsLaw" 82 ny_Nj_grudge ∈ nj_T0 := nj_T0_in (List.mem_of_getElem? (i := 484) (by decide +kernel)) (by decide +kernel)
theorem ml_Law_86 : Cond.methodLink "NobodyJoinsLaw" 86 ny_Nj_undo ∈ nj_T0 := nj_T0_in (List.mem_of_getElem? (i := 493) (by decide +kernel)) (by decide +kernel)
theorem ml_Law_90 : Cond.methodLink "NobodyJoinsLaw" 90 ny_Nj_keep ∈ nj_T0 := nj_T0_in (List.mem_of_getElem? (i := 505) (by decide +kernel)) (by decide +kernel)
theorem ml_Law_94 : Cond.methodLink "NobodyJoinsLaw" 94 ny_Nj_on ∈ nj_T0 := nj_T0_in (List.mem_of_getElem? (i := 512) (by decide +kernel)) (by decide +kernel)
theorem ml_Law_98 : Cond.methodLink "NobodyJoinsLaw" 98 ny_Nj_yes ∈ nj_T0 := nj_T0_in (List.mem_of_getElem? (i := 516) (by decide +kernel)) (by decide +kernel)
theorem ml_Law_102 : Cond.methodLink "NobodyJoinsLaw" 102 ny_Nj_can ∈ nj_T0 := nj_T0_in (List.mem_of_getElem? (i := 530) (by decide +kernel)) (by decide +kernel)
theorem ml_Law_106 : Cond.methodLink "NobodyJoinsLaw" 106 ny_Nj_swing ∈ nj_T0 := nj_T0_in (List.mem_of_getElem? (i := 534) (by decide +kernel)) (by decide +kernel)
theorem ml_Law_110 : Cond.methodLink "NobodyJoinsLaw" 110 ny_Nj_rules ∈ nj_T0 := nj_T0_in (List.mem_of_getElem? (i := 539) (by decide +kernel)) (by decide +kernel)
theorem ml_Law_114 : Cond.methodLink "NobodyJoinsLaw" 114 ny_Nj_longest ∈ nj_T0 := nj_T0_in (List.mem_of_getElem? (i := 543) (by decide +kernel)) (by decide +kernel)
theorem ml_Law_118 : Cond.methodLink "NobodyJoinsLaw" 118 ny_Nj_ways ∈ nj_T0 := nj_T0_in (List.mem_of_getElem? (i := 562) (by decide +kernel)) (by decide +kernel)
theorem ml_Law_122 : Cond.methodLink "NobodyJoinsLaw" 122 ny_Nj_alone ∈ nj_T0 := nj_T0_in (List.mem_of_getElem? (i := 583) (by decide +kernel)) (by decide +kernel)
theorem ml_Law_126 : Cond.methodLink "NobodyJoinsLaw" 126 ny_Nj_stands ∈ nj_T0 := nj_T0_in (List.mem_of_getElem? (i := 592) (by decide +kernel)) (by decide +kernel)
theorem ml_Law_130 : Cond.methodLink "NobodyJoinsLaw" 130 ny_Nj_run ∈ nj_T0 := nj_T0_in (List.mem_of_getElem? (i := 597) (by decide +kernel)) (by decide +kernel)
theorem ml_Law_134 : Cond.methodLink "NobodyJoinsLaw" 134 ny_Nj_splits ∈ nj_T0 := nj_T0_in (List.mem_of_getElem? (i := 612) (by decide +kernel)) (by decide +kernel)
theorem ml_Law_138 : Cond.methodLink "NobodyJoinsLaw" 138 ny_Nj_peace ∈ nj_T0 := nj_T0_in (List.mem_of_getElem? (i := 616) (by decide +kernel)) (by decide +kernel)
theorem ml_Law_142 : Cond.methodLink "NobodyJoinsLaw" 142 ny_Nj_power ∈ nj_T0 := nj_T0_in (List.mem_of_getElem? (i := 637) (by decide +kernel)) (by decide +kernel)
theorem ml_Law_146 : Cond.methodLink "NobodyJoinsLaw" 146 ny_Nj_share ∈ nj_T0 := nj_T0_in (List.mem_of_getElem? (i := 657) (by decide +kernel)) (by decide +kernel)
theorem ml_Law_150 : Cond.methodLink "NobodyJoinsLaw" 150 ny_Nj_secrets ∈ nj_T0 := nj_T0_in (List.mem_of_getElem? (i := 665) (by decide +kernel)) (by decide +kernel)
theorem ml_Law_154 : Cond.methodLink "NobodyJoinsLaw" 154 ny_Nj_told ∈ nj_T0 := nj_T0_in (List.mem_of_getElem? (i := 669) (by decide +kernel)) (by decide +kernel)
theorem ml_Law_158 : Cond.methodLink "NobodyJoinsLaw" 158 ny_Nj_minutes ∈ nj_T0 := nj_T0_in (List.mem_of_getElem? (i := 679) (by decide +kernel)) (by decide +kernel)
theorem ml_Law_162 : Cond.methodLink "NobodyJoinsLaw" 162 ny_Nj_odds ∈ nj_T0 := nj_T0_in (List.mem_of_getElem? (i := 696) (by decide +kernel)) (by decide +kernel)
theorem ml_Law_166 : Cond.methodLink "NobodyJoinsLaw" 166 ny_Nj_lots ∈ nj_T0 := nj_T0_in (List.mem_of_getElem? (i := 702) (by decide +kernel)) (by decide +kernel)
theorem ml_Law_170 : Cond.methodLink "NobodyJoinsLaw" 170 ny_Nj_asked ∈ nj_T0 := nj_T0_in (List.mem_of_getElem? (i := 717) (by decide +kernel)) (by decide +kernel)
theorem ml_Law_174 : Cond.methodLink "NobodyJoinsLaw" 174 ny_Nj_upper ∈ nj_T0 := nj_T0_in (List.mem_of_getElem? (i := 721) (by decide +kernel)) (by decide +kernel)
theorem ml_Law_179 : Cond.methodLink "NobodyJoinsLaw" 179 ny_Nj_lower ∈ nj_T0 := nj_T0_in (List.mem_of_getElem? (i := 725) (by decide +kernel)) (by decide +kernel)
theorem ml_Law_183 : Cond.methodLink "NobodyJoinsLaw" 183 ny_Nj_count ∈ nj_T0 := nj_T0_in (List.mem_of_getElem? (i := 729) (by decide +kernel)) (by decide +kernel)
theorem ml_Law_187 : Cond.methodLink "NobodyJoinsLaw" 187 ny_Nj_finding ∈ nj_T0 := nj_T0_in (List.mem_of_getElem? (i := 746) (by decide +kernel)) (by decide +kernel)
theorem ml_Law_191 : Cond.methodLink "NobodyJoinsLaw" 191 ny_Nj_findings ∈ nj_T0 := nj_T0_in (List.mem_of_getElem? (i := 750) (by decide +kernel)) (by decide +kernel)
theorem ml_Law_195 : Cond.methodLink "NobodyJoinsLaw" 195 ny_Nj_digest ∈ nj_T0 := nj_T0_in (List.mem_of_getElem? (i := 754) (by decide +kernel)) (by decide +kernel)
theorem ml_Law_12 : Cond.methodLink "NobodyJoinsLaw" 12 ny_Md_init ∈ nj_T0 := nj_T0_in (List.mem_of_getElem? (i := 773) (by decide +kernel)) (by decide +kernel)
theorem ml_Law_17 : Cond.methodLink "NobodyJoinsLaw" 17 ny_Md_row ∈ nj_T0 := nj_T0_in (List.mem_of_getElem? (i := 848) (by decide +kernel)) (by decide +kernel)
theorem ml_Law_22 : Cond.methodLink "NobodyJoinsLaw" 22 ny_Md_lay ∈ nj_T0 := nj_T0_in (List.mem_of_getElem? (i := 867) (by decide +kernel)) (by decide +kernel)
theorem ml_Law_26 : Cond.methodLink "NobodyJoinsLaw" 26 ny_Md_at ∈ nj_T0 := nj_T0_in (List.mem_of_getElem? (i := 879) (by decide +kernel)) (by decide +kernel)
theorem ml_Law_31 : Cond.methodLink "NobodyJoinsLaw" 31 ny_Md_tear ∈ nj_T0 := nj_T0_in (List.mem_of_getElem? (i := 883) (by decide +kernel)) (by decide +kernel)
theorem ml_Law_36 : Cond.methodLink "NobodyJoinsLaw" 36 ny_Md_copy ∈ nj_T0 := nj_T0_in (List.mem_of_getElem? (i := 887) (by decide +kernel)) (by decide +kernel)
theorem ml_Law_40 : Cond.methodLink "NobodyJoinsLaw" 40 ny_Md_mean ∈ nj_T0 := nj_T0_in (List.mem_of_getElem? (i := 895) (by decide +kernel)) (by decide +kernel)
theorem ml_Law_44 : Cond.methodLink "NobodyJoinsLaw" 44 ny_Md_text ∈ nj_T0 := nj_T0_in (List.mem_of_getElem? (i := 899) (by decide +kernel)) (by decide +kernel)
theorem ml_Law_48 : Cond.methodLink "NobodyJoinsLaw" 48 ny_Md_put ∈ nj_T0 := nj_T0_in (List.mem_of_getElem? (i := 907) (by decide +kernel)) (by decide +kernel)
theorem ml_Law_52 : Cond.methodLink "NobodyJoinsLaw" 52 ny_Md_fault ∈ nj_T0 := nj_T0_in (List.mem_of_getElem? (i := 911) (by decide +kernel)) (by decide +kernel)
theorem ml_Law_56 : Cond.methodLink "NobodyJoinsLaw" 56 ny_Md_club ∈ nj_T0 := nj_T0_in (List.mem_of_getElem? (i := 950) (by decide +kernel)) (by decide +kernel)
theorem ml_Law_60 : Cond.methodLink "NobodyJoinsLaw" 60 ny_Md_child ∈ nj_T0 := nj_T0_in (List.mem_of_getElem? (i := 954) (by decide +kernel)) (by decide +kernel)
theorem ml_Law_64 : Cond.methodLink "NobodyJoinsLaw" 64 ny_Md_mark ∈ nj_T0 := nj_T0_in (List.mem_of_getElem? (i := 982) (by decide +kernel)) (by decide +kernel)
theorem ml_Law_68 : Cond.methodLink "NobodyJoinsLaw" 68 ny_Md_rule ∈ nj_T0 := nj_T0_in (List.mem_of_getElem? (i := 993) (by decide +kernel)) (by decide +kernel)
theorem ml_Law_72 : Cond.methodLink "NobodyJoinsLaw" 72 ny_Md_oust ∈ nj_T0 := nj_T0_in (List.mem_of_getElem? (i := 997) (by decide +kernel)) (by decide +kernel)
theorem ml_Law_76 : Cond.methodLink "NobodyJoinsLaw" 76 ny_Md_join ∈ nj_T0 := nj_T0_in (List.mem_of_getElem? (i := 1033) (by decide +kernel)) (by decide +kernel)
theorem ml_Law_81 : Cond.methodLink "NobodyJoinsLaw" 81 ny_Md_fee ∈ nj_T0 := nj_T0_in (List.mem_of_getElem? (i := 1045) (by decide +kernel)) (by decide +kernel)
theorem ml_Law_85 : Cond.methodLink "NobodyJoinsLaw" 85 ny_Md_grudge ∈ nj_T0 := nj_T0_in (List.mem_of_getElem? (i := 1053) (by decide +kernel)) (by decide +kernel)
theorem ml_Law_89 : Cond.methodLink "NobodyJoinsLaw" 89 ny_Md_undo ∈ nj_T0 := nj_T0_in (List.mem_of_getElem? (i := 1065) (by decide +kernel)) (by decide +kernel)
theorem ml_Law_93 : Cond.methodLink "NobodyJoinsLaw" 93 ny_Md_keep ∈ nj_T0 := nj_T0_in (List.mem_of_getElem? (i := 1069) (by decide +kernel)) (by decide +kernel)
theorem ml_Law_97 : Cond.methodLink "NobodyJoinsLaw" 97 ny_Md_on ∈ nj_T0 := nj_T0_in (List.mem_of_getElem? (i := 1078) (by decide +kernel)) (by decide +kernel)
theorem ml_Law_101 : Cond.methodLink "NobodyJoinsLaw" 101 ny_Md_yes ∈ nj_T0 := nj_T0_in (List.mem_of_getElem? (i := 1082) (by decide +kernel)) (by decide +kernel)
theorem ml_Law_105 : Cond.methodLink "NobodyJoinsLaw" 105 ny_Md_can ∈ nj_T0 := nj_T0_in (List.mem_of_getElem? (i := 1086) (by decide +kernel)) (by decide +kernel)
theorem ml_Law_109 : Cond.methodLink "NobodyJoinsLaw" 109 ny_Md_swing ∈ nj_T0 := nj_T0_in (List.mem_of_getElem? (i := 1090) (by decide +kernel)) (by decide +kernel)
theorem ml_Law_113 : Cond.methodLink "NobodyJoinsLaw" 113 ny_Md_rules ∈ nj_T0 := nj_T0_in (List.mem_of_getElem? (i := 1094) (by decide +kernel)) (by decide +kernel)
theorem ml_Law_117 : Cond.methodLink "NobodyJoinsLaw" 117 ny_Md_longest ∈ nj_T0 := nj_T0_in (List.mem_of_getElem? (i := 1098) (by decide +kernel)) (by decide +kernel)
theorem ml_Law_121 : Cond.methodLink "NobodyJoinsLaw" 121 ny_Md_ways ∈ nj_T0 := nj_T0_in (List.mem_of_getElem? (i := 1106) (by decide +kernel)) (by decide +kernel)
theorem ml_Law_125 : Cond.methodLink "NobodyJoinsLaw" 125 ny_Md_alone ∈ nj_T0 := nj_T0_in (List.mem_of_getElem? (i := 1114) (by decide +kernel)) (by decide +kernel)
theorem ml_Law_129 : Cond.methodLink "NobodyJoinsLaw" 129 ny_Md_stands ∈ nj_T0 := nj_T0_in (List.mem_of_getElem? (i := 1118) (by decide +kernel)) (by decide +kernel)
theorem ml_Law_133 : Cond.methodLink "NobodyJoinsLaw" 133 ny_Md_run ∈ nj_T0 := nj_T0_in (List.mem_of_getElem? (i := 1122) (by decide +kernel)) (by decide +kernel)
theorem ml_Law_137 : Cond.methodLink "NobodyJoinsLaw" 137 ny_Md_splits ∈ nj_T0 := nj_T0_in (List.mem_of_getElem? (i := 1130) (by decide +kernel)) (by decide +kernel)
theorem ml_Law_141 : Cond.methodLink "NobodyJoinsLaw" 141 ny_Md_peace ∈ nj_T0 := nj_T0_in (List.mem_of_getElem? (i := 1134) (by decide +kernel)) (by decide +kernel)
theorem ml_Law_145 : Cond.methodLink "NobodyJoinsLaw" 145 ny_Md_power ∈ nj_T0 := nj_T0_in (List.mem_of_getElem? (i := 1146) (by decide +kernel)) (by decide +kernel)
theorem ml_Law_149 : Cond.methodLink "NobodyJoinsLaw" 149 ny_Md_share ∈ nj_T0 := nj_T0_in (List.mem_of_getElem? (i := 1157) (by decide +kernel)) (by decide +kernel)
theorem ml_Law_153 : Cond.methodLink "NobodyJoinsLaw" 153 ny_Md_secrets ∈ nj_T0 := nj_T0_in (List.mem_of_getElem? (i := 1165) (by decide +kernel)) (by decide +kernel)
theorem ml_Law_157 : Cond.methodLink "NobodyJoinsLaw" 157 ny_Md_told ∈ nj_T0 := nj_T0_in (List.mem_of_getElem? (i := 1169) (by decide +kernel)) (by decide +kernel)
theorem ml_Law_161 : Cond.methodLink "NobodyJoinsLaw" 161 ny_Md_minutes ∈ nj_T0 := nj_T0_in (List.mem_of_getElem? (i := 1173) (by decide +kernel)) (by decide +kernel)
theorem ml_Law_165 : Cond.methodLink "NobodyJoinsLaw" 165 ny_Md_odds ∈ nj_T0 := nj_T0_in (List.mem_of_getElem? (i := 1181) (by decide +kernel)) (by decide +kernel)
theorem ml_Law_169 : Cond.methodLink "NobodyJoinsLaw" 169 ny_Md_lots ∈ nj_T0 := nj_T0_in (List.mem_of_getElem? (i := 1186) (by decide +kernel)) (by decide +kernel)
theorem ml_Law_173 : Cond.methodLink "NobodyJoinsLaw" 173 ny_Md_asked ∈ nj_T0 := nj_T0_in (List.mem_of_getElem? (i := 1195) (by decide +kernel)) (by decide +kernel)
theorem ml_Law_178 : Cond.methodLink "NobodyJoinsLaw" 178 ny_Md_upper ∈ nj_T0 := nj_T0_in (List.mem_of_getElem? (i := 1199) (by decide +kernel)) (by decide +kernel)
theorem ml_Law_182 : Cond.methodLink "NobodyJoinsLaw" 182 ny_Md_lower ∈ nj_T0 := nj_T0_in (List.mem_of_getElem? (i := 1203) (by decide +kernel)) (by decide +kernel)
theorem ml_Law_186 : Cond.methodLink "NobodyJoinsLaw" 186 ny_Md_count ∈ nj_T0 := nj_T0_in (List.mem_of_getElem? (i := 1207) (by decide +kernel)) (by decide +kernel)
theorem ml_Law_190 : Cond.methodLink "NobodyJoinsLaw" 190 ny_Md_finding ∈ nj_T0 := nj_T0_in (List.mem_of_getElem? (i := 1224) (by decide +kernel)) (by decide +kernel)
theorem ml_Law_194 : Cond.methodLink "NobodyJoinsLaw" 194 ny_Md_findings ∈ nj_T0 := nj_T0_in (List.mem_of_getElem? (i := 1228) (by decide +kernel)) (by decide +kernel)
theorem ml_Law_198 : Cond.methodLink "NobodyJoinsLaw" 198 ny_Md_digest ∈ nj_T0 := nj_T0_in (List.mem_of_getElem? (i := 1232) (by decide +kernel)) (by decide +kernel)
theorem nd_Law_0 : nj_dc code 0 (.new 7) 3 := ⟨3, by decide +kernel, rfl⟩
theorem nd_Law_3 : nj_dc code 3 .dup 4 := ⟨1, by decide +kernel, rfl⟩
theorem nd_Law_4 : nj_dc code 4 (.invokespecial 9) 7 := ⟨3, by decide +kernel, rfl⟩
theorem nd_Law_7 : nj_as code 7 1 8 := Or.inl ⟨1, by decide +kernel, rfl, rfl⟩
theorem nd_Law_8 : nj_dc code 8 (.new 10) 11 := ⟨3, by decide +kernel, rfl⟩
theorem nd_Law_11 : nj_dc code 11 .dup 12 := ⟨1, by decide +kernel, rfl⟩
theorem nd_Law_12 : nj_dc code 12 (.invokespecial 12) 15 := ⟨3, by decide +kernel, rfl⟩
theorem nd_Law_15 : nj_as code 15 2 16 := Or.inl ⟨2, by decide +kernel, rfl, rfl⟩
theorem nd_Law_16 : nj_ic code 16 0 17 := Or.inl ⟨0, by decide +kernel, by decide, rfl⟩
theorem nd_Law_17 : nj_is code 17 3 18 := Or.inl ⟨3, by decide +kernel, rfl, rfl⟩
theorem nd_Law_18 : nj_il code 18 3 19 := Or.inl ⟨3, by decide +kernel, rfl, rfl⟩
theorem nd_Law_19 : nj_al code 19 0 20 := Or.inl ⟨0, by decide +kernel, rfl, rfl⟩
theorem nd_Law_20 : nj_dc code 20 .arraylength 21 := ⟨1, by decide +kernel, rfl⟩
theorem nd_Law_21 : nj_ic code 21 6 23 := Or.inr (Or.inl ⟨6, by decide +kernel, by decide, rfl⟩)
theorem nd_Law_23 : nj_dc code 23 .isub 24 := ⟨1, by decide +kernel, rfl⟩
theorem nd_Law_24 : nj_cm code 24 .gt 1302 27 := ⟨1278, by decide +kernel, rfl, rfl⟩
theorem nd_Law_27 : nj_al code 27 0 28 := Or.inl ⟨0, by decide +kernel, rfl, rfl⟩
theorem nd_Law_28 : nj_il code 28 3 29 := Or.inl ⟨3, by decide +kernel, rfl, rfl⟩
theorem nd_Law_29 : nj_dc code 29 .iaload 30 := ⟨1, by decide +kernel, rfl⟩
theorem nd_Law_30 : nj_ic code 30 63 32 := Or.inr (Or.inl ⟨63, by decide +kernel, by decide, rfl⟩)
theorem nd_Law_32 : nj_dc code 32 .iand 33 := ⟨1, by decide +kernel, rfl⟩
theorem nd_Law_33 : decode code 33 = .ok (.tableswitch 1263 0 44 #[195, 228, 271, 304, 327, 390, 413, 446, 489, 512, 535, 568, 601, 624, 647, 670, 683, 716, 739, 762, 785, 808, 821, 844, 867, 890, 913, 926, 939, 962, 975, 988, 1011, 1034, 1047, 1070, 1093, 1116, 1149, 1162, 1176, 1190, 1213, 1226, 1249], 195) := by decide +kernel
theorem nd_Law_228 : nj_al code 228 1 229 := Or.inl ⟨1, by decide +kernel, rfl, rfl⟩
theorem nd_Law_229 : nj_al code 229 0 230 := Or.inl ⟨0, by decide +kernel, rfl, rfl⟩
theorem nd_Law_230 : nj_il code 230 3 231 := Or.inl ⟨3, by decide +kernel, rfl, rfl⟩
theorem nd_Law_231 : nj_ic code 231 1 232 := Or.inl ⟨1, by decide +kernel, by decide, rfl⟩
theorem nd_Law_232 : nj_dc code 232 .iadd 233 := ⟨1, by decide +kernel, rfl⟩
theorem nd_Law_233 : nj_dc code 233 .iaload 234 := ⟨1, by decide +kernel, rfl⟩
theorem nd_Law_234 : nj_al code 234 0 235 := Or.inl ⟨0, by decide +kernel, rfl, rfl⟩
theorem nd_Law_235 : nj_il code 235 3 236 := Or.inl ⟨3, by decide +kernel, rfl, rfl⟩
theorem nd_Law_236 : nj_ic code 236 2 237 := Or.inl ⟨2, by decide +kernel, by decide, rfl⟩
theorem nd_Law_237 : nj_dc code 237 .iadd 238 := ⟨1, by decide +kernel, rfl⟩
theorem nd_Law_238 : nj_dc code 238 .iaload 239 := ⟨1, by decide +kernel, rfl⟩
theorem nd_Law_239 : nj_dc code 239 (.invokevirtual 13) 242 := ⟨3, by decide +kernel, rfl⟩
theorem nd_Law_242 : nj_al code 242 2 243 := Or.inl ⟨2, by decide +kernel, rfl, rfl⟩
theorem nd_Law_243 : nj_al code 243 0 244 := Or.inl ⟨0, by decide +kernel, rfl, rfl⟩
theorem nd_Law_244 : nj_il code 244 3 245 := Or.inl ⟨3, by decide +kernel, rfl, rfl⟩
theorem nd_Law_245 : nj_ic code 245 1 246 := Or.inl ⟨1, by decide +kernel, by decide, rfl⟩
theorem nd_Law_246 : nj_dc code 246 .iadd 247 := ⟨1, by decide +kernel, rfl⟩
theorem nd_Law_247 : nj_dc code 247 .iaload 248 := ⟨1, by decide +kernel, rfl⟩
theorem nd_Law_248 : nj_al code 248 0 249 := Or.inl ⟨0, by decide +kernel, rfl, rfl⟩
theorem nd_Law_249 : nj_il code 249 3 250 := Or.inl ⟨3, by decide +kernel, rfl, rfl⟩
theorem nd_Law_250 : nj_ic code 250 2 251 := Or.inl ⟨2, by decide +kernel, by decide, rfl⟩
theorem nd_Law_251 : nj_dc code 251 .iadd 252 := ⟨1, by decide +kernel, rfl⟩
theorem nd_Law_252 : nj_dc code 252 .iaload 253 := ⟨1, by decide +kernel, rfl⟩
theorem nd_Law_253 : nj_dc code 253 (.invokevirtual 17) 256 := ⟨3, by decide +kernel, rfl⟩
theorem nd_Law_256 : nj_cm code 256 .eq 1296 259 := ⟨1040, by decide +kernel, rfl, rfl⟩
theorem nd_Law_259 : nj_ic code 259 0 260 := Or.inl ⟨0, by decide +kernel, by decide, rfl⟩
theorem nd_Law_260 : nj_dc code 260 .ireturn 261 := ⟨1, by decide +kernel, rfl⟩
theorem nd_Law_261 : nj_al code 261 1 262 := Or.inl ⟨1, by decide +kernel, rfl, rfl⟩
theorem nd_Law_262 : nj_al code 262 0 263 := Or.inl ⟨0, by decide +kernel, rfl, rfl⟩
theorem nd_Law_263 : nj_il code 263 3 264 := Or.inl ⟨3, by decide +kernel, rfl, rfl⟩
theorem nd_Law_264 : nj_ic code 264 1 265 := Or.inl ⟨1, by decide +kernel, by decide, rfl⟩
theorem nd_Law_265 : nj_dc code 265 .iadd 266 := ⟨1, by decide +kernel, rfl⟩
theorem nd_Law_266 : nj_dc code 266 .iaload 267 := ⟨1, by decide +kernel, rfl⟩
theorem nd_Law_267 : nj_al code 267 0 268 := Or.inl ⟨0, by decide +kernel, rfl, rfl⟩
theorem nd_Law_268 : nj_il code 268 3 269 := Or.inl ⟨3, by decide +kernel, rfl, rfl⟩
theorem nd_Law_269 : nj_ic code 269 2 270 := Or.inl ⟨2, by decide +kernel, by decide, rfl⟩
theorem nd_Law_270 : nj_dc code 270 .iadd 271 := ⟨1, by decide +kernel, rfl⟩
theorem nd_Law_271 : nj_dc code 271 .iaload 272 := ⟨1, by decide +kernel, rfl⟩
theorem nd_Law_272 : nj_al code 272 0 273 := Or.inl ⟨0, by decide +kernel, rfl, rfl⟩
theorem nd_Law_273 : nj_il code 273 3 274 := Or.inl ⟨3, by decide +kernel, rfl, rfl⟩
theorem nd_Law_274 : nj_ic code 274 3 275 := Or.inl ⟨3, by decide +kernel, by decide, rfl⟩
theorem nd_Law_275 : nj_dc code 275 .iadd 276 := ⟨1, by decide +kernel, rfl⟩
theorem nd_Law_276 : nj_dc code 276 .iaload 277 := ⟨1, by decide +kernel, rfl⟩
theorem nd_Law_277 : nj_dc code 277 (.invokevirtual 18) 280 := ⟨3, by decide +kernel, rfl⟩
theorem nd_Law_280 : nj_al code 280 2 281 := Or.inl ⟨2, by decide +kernel, rfl, rfl⟩
theorem nd_Law_281 : nj_al code 281 0 282 := Or.inl ⟨0, by decide +kernel, rfl, rfl⟩
theorem nd_Law_282 : nj_il code 282 3 283 := Or.inl ⟨3, by decide +kernel, rfl, rfl⟩
theorem nd_Law_283 : nj_ic code 283 1 284 := Or.inl ⟨1, by decide +kernel, by decide, rfl⟩
theorem nd_Law_284 : nj_dc code 284 .iadd 285 := ⟨1, by decide +kernel, rfl⟩
theorem nd_Law_285 : nj_dc code 285 .iaload 286 := ⟨1, by decide +kernel, rfl⟩
theorem nd_Law_286 : nj_al code 286 0 287 := Or.inl ⟨0, by decide +kernel, rfl, rfl⟩
theorem nd_Law_287 : nj_il code 287 3 288 := Or.inl ⟨3, by decide +kernel, rfl, rfl⟩
theorem nd_Law_288 : nj_ic code 288 2 289 := Or.inl ⟨2, by decide +kernel, by decide, rfl⟩
theorem nd_Law_289 : nj_dc code 289 .iadd 290 := ⟨1, by decide +kernel, rfl⟩
theorem nd_Law_290 : nj_dc code 290 .iaload 291 := ⟨1, by decide +kernel, rfl⟩
theorem nd_Law_291 : nj_al code 291 0 292 := Or.inl ⟨0, by decide +kernel, rfl, rfl⟩
theorem nd_Law_292 : nj_il code 292 3 293 := Or.inl ⟨3, by decide +kernel, rfl, rfl⟩
theorem nd_Law_293 : nj_ic code 293 3 294 := Or.inl ⟨3, by decide +kernel, by decide, rfl⟩
theorem nd_Law_294 : nj_dc code 294 .iadd 295 := ⟨1, by decide +kernel, rfl⟩
theorem nd_Law_295 : nj_dc code 295 .iaload 296 := ⟨1, by decide +kernel, rfl⟩
theorem nd_Law_296 : nj_dc code 296 (.invokevirtual 22) 299 := ⟨3, by decide +kernel, rfl⟩
theorem nd_Law_299 : nj_cm code 299 .eq 1296 302 := ⟨997, by decide +kernel, rfl, rfl⟩
theorem nd_Law_302 : nj_ic code 302 0 303 := Or.inl ⟨0, by decide +kernel, by decide, rfl⟩
theorem nd_Law_303 : nj_dc code 303 .ireturn 304 := ⟨1, by decide +kernel, rfl⟩
theorem nd_Law_304 : nj_al code 304 1 305 := Or.inl ⟨1, by decide +kernel, rfl, rfl⟩
theorem nd_Law_305 : nj_al code 305 0 306 := Or.inl ⟨0, by decide +kernel, rfl, rfl⟩
theorem nd_Law_306 : nj_il code 306 3 307 := Or.inl ⟨3, by decide +kernel, rfl, rfl⟩
theorem nd_Law_307 : nj_ic code 307 1 308 := Or.inl ⟨1, by decide +kernel, by decide, rfl⟩
theorem nd_Law_308 : nj_dc code 308 .iadd 309 := ⟨1, by decide +kernel, rfl⟩
theorem nd_Law_309 : nj_dc code 309 .iaload 310 := ⟨1, by decide +kernel, rfl⟩
theorem nd_Law_310 : nj_al code 310 0 311 := Or.inl ⟨0, by decide +kernel, rfl, rfl⟩
theorem nd_Law_311 : nj_il code 311 3 312 := Or.inl ⟨3, by decide +kernel, rfl, rfl⟩
theorem nd_Law_312 : nj_ic code 312 2 313 := Or.inl ⟨2, by decide +kernel, by decide, rfl⟩
theorem nd_Law_313 : nj_dc code 313 .iadd 314 := ⟨1, by decide +kernel, rfl⟩
theorem nd_Law_314 : nj_dc code 314 .iaload 315 := ⟨1, by decide +kernel, rfl⟩
theorem nd_Law_315 : nj_dc code 315 (.invokevirtual 23) 318 := ⟨3, by decide +kernel, rfl⟩
theorem nd_Law_318 : nj_al code 318 2 319 := Or.inl ⟨2, by decide +kernel, rfl, rfl⟩
theorem nd_Law_319 : nj_al code 319 0 320 := Or.inl ⟨0, by decide +kernel, rfl, rfl⟩
theorem nd_Law_320 : nj_il code 320 3 321 := Or.inl ⟨3, by decide +kernel, rfl, rfl⟩
theorem nd_Law_321 : nj_ic code 321 1 322 := Or.inl ⟨1, by decide +kernel, by decide, rfl⟩
theorem nd_Law_322 : nj_dc code 322 .iadd 323 := ⟨1, by decide +kernel, rfl⟩
theorem nd_Law_323 : nj_dc code 323 .iaload 324 := ⟨1, by decide +kernel, rfl⟩
theorem nd_Law_324 : nj_al code 324 0 325 := Or.inl ⟨0, by decide +kernel, rfl, rfl⟩
theorem nd_Law_325 : nj_il code 325 3 326 := Or.inl ⟨3, by decide +kernel, rfl, rfl⟩
theorem nd_Law_326 : nj_ic code 326 2 327 := Or.inl ⟨2, by decide +kernel, by decide, rfl⟩
theorem nd_Law_327 : nj_dc code 327 .iadd 328 := ⟨1, by decide +kernel, rfl⟩
theorem nd_Law_328 : nj_dc code 328 .iaload 329 := ⟨1, by decide +kernel, rfl⟩
theorem nd_Law_329 : nj_dc code 329 (.invokevirtual 26) 332 := ⟨3, by decide +kernel, rfl⟩
theorem nd_Law_332 : nj_cm code 332 .eq 1296 335 := ⟨964, by decide +kernel, rfl, rfl⟩
theorem nd_Law_335 : nj_ic code 335 0 336 := Or.inl ⟨0, by decide +kernel, by decide, rfl⟩
theorem nd_Law_336 : nj_dc code 336 .ireturn 337 := ⟨1, by decide +kernel, rfl⟩
theorem nd_Law_337 : nj_al code 337 1 338 := Or.inl ⟨1, by decide +kernel, rfl, rfl⟩
theorem nd_Law_338 : nj_al code 338 0 339 := Or.inl ⟨0, by decide +kernel, rfl, rfl⟩
theorem nd_Law_339 : nj_il code 339 3 340 := Or.inl ⟨3, by decide +kernel, rfl, rfl⟩
theorem nd_Law_340 : nj_ic code 340 1 341 := Or.inl ⟨1, by decide +kernel, by decide, rfl⟩
theorem nd_Law_341 : nj_dc code 341 .iadd 342 := ⟨1, by decide +kernel, rfl⟩
theorem nd_Law_342 : nj_dc code 342 .iaload 343 := ⟨1, by decide +kernel, rfl⟩
theorem nd_Law_343 : nj_dc code 343 (.invokevirtual 27) 346 := ⟨3, by decide +kernel, rfl⟩
theorem nd_Law_346 : nj_al code 346 2 347 := Or.inl ⟨2, by decide +kernel, rfl, rfl⟩
theorem nd_Law_347 : nj_al code 347 0 348 := Or.inl ⟨0, by decide +kernel, rfl, rfl⟩
theorem nd_Law_348 : nj_il code 348 3 349 := Or.inl ⟨3, by decide +kernel, rfl, rfl⟩
theorem nd_Law_349 : nj_ic code 349 1 350 := Or.inl ⟨1, by decide +kernel, by decide, rfl⟩
theorem nd_Law_350 : nj_dc code 350 .iadd 351 := ⟨1, by decide +kernel, rfl⟩
theorem nd_Law_351 : nj_dc code 351 .iaload 352 := ⟨1, by decide +kernel, rfl⟩
theorem nd_Law_352 : nj_dc code 352 (.invokevirtual 31) 355 := ⟨3, by decide +kernel, rfl⟩
theorem nd_Law_355 : nj_cm code 355 .eq 1296 358 := ⟨941, by decide +kernel, rfl, rfl⟩
theorem nd_Law_358 : nj_ic code 358 0 359 := Or.inl ⟨0, by decide +kernel, by decide, rfl⟩
theorem nd_Law_359 : nj_dc code 359 .ireturn 360 := ⟨1, by decide +kernel, rfl⟩
theorem nd_Law_360 : nj_al code 360 1 361 := Or.inl ⟨1, by decide +kernel, rfl, rfl⟩
theorem nd_Law_361 : nj_al code 361 0 362 := Or.inl ⟨0, by decide +kernel, rfl, rfl⟩
theorem nd_Law_362 : nj_il code 362 3 363 := Or.inl ⟨3, by decide +kernel, rfl, rfl⟩
theorem nd_Law_363 : nj_ic code 363 1 364 := Or.inl ⟨1, by decide +kernel, by decide, rfl⟩
theorem nd_Law_364 : nj_dc code 364 .iadd 365 := ⟨1, by decide +kernel, rfl⟩
theorem nd_Law_365 : nj_dc code 365 .iaload 366 := ⟨1, by decide +kernel, rfl⟩
theorem nd_Law_366 : nj_al code 366 0 367 := Or.inl ⟨0, by decide +kernel, rfl, rfl⟩
theorem nd_Law_367 : nj_il code 367 3 368 := Or.inl ⟨3, by decide +kernel, rfl, rfl⟩
theorem nd_Law_368 : nj_ic code 368 2 369 := Or.inl ⟨2, by decide +kernel, by decide, rfl⟩
theorem nd_Law_369 : nj_dc code 369 .iadd 370 := ⟨1, by decide +kernel, rfl⟩
theorem nd_Law_370 : nj_dc code 370 .iaload 371 := ⟨1, by decide +kernel, rfl⟩
theorem nd_Law_371 : nj_al code 371 0 372 := Or.inl ⟨0, by decide +kernel, rfl, rfl⟩
theorem nd_Law_372 : nj_il code 372 3 373 := Or.inl ⟨3, by decide +kernel, rfl, rfl⟩
theorem nd_Law_373 : nj_ic code 373 3 374 := Or.inl ⟨3, by decide +kernel, by decide, rfl⟩
theorem nd_Law_374 : nj_dc code 374 .iadd 375 := ⟨1, by decide +kernel, rfl⟩
theorem nd_Law_375 : nj_dc code 375 .iaload 376 := ⟨1, by decide +kernel, rfl⟩
theorem nd_Law_376 : nj_al code 376 0 377 := Or.inl ⟨0, by decide +kernel, rfl, rfl⟩
theorem nd_Law_377 : nj_il code 377 3 378 := Or.inl ⟨3, by decide +kernel, rfl, rfl⟩
theorem nd_Law_378 : nj_ic code 378 4 379 := Or.inl ⟨4, by decide +kernel, by decide, rfl⟩
theorem nd_Law_379 : nj_dc code 379 .iadd 380 := ⟨1, by decide +kernel, rfl⟩
theorem nd_Law_380 : nj_dc code 380 .iaload 381 := ⟨1, by decide +kernel, rfl⟩
theorem nd_Law_381 : nj_al code 381 0 382 := Or.inl ⟨0, by decide +kernel, rfl, rfl⟩
theorem nd_Law_382 : nj_il code 382 3 383 := Or.inl ⟨3, by decide +kernel, rfl, rfl⟩
theorem nd_Law_383 : nj_ic code 383 5 384 := Or.inl ⟨5, by decide +kernel, by decide, rfl⟩
theorem nd_Law_384 : nj_dc code 384 .iadd 385 := ⟨1, by decide +kernel, rfl⟩
theorem nd_Law_385 : nj_dc code 385 .iaload 386 := ⟨1, by decide +kernel, rfl⟩
theorem nd_Law_386 : nj_dc code 386 (.invokevirtual 32) 389 := ⟨3, by decide +kernel, rfl⟩
theorem nd_Law_389 : nj_al code 389 2 390 := Or.inl ⟨2, by decide +kernel, rfl, rfl⟩
theorem nd_Law_390 : nj_al code 390 0 391 := Or.inl ⟨0, by decide +kernel, rfl, rfl⟩
theorem nd_Law_391 : nj_il code 391 3 392 := Or.inl ⟨3, by decide +kernel, rfl, rfl⟩
theorem nd_Law_392 : nj_ic code 392 1 393 := Or.inl ⟨1, by decide +kernel, by decide, rfl⟩
theorem nd_Law_393 : nj_dc code 393 .iadd 394 := ⟨1, by decide +kernel, rfl⟩
theorem nd_Law_394 : nj_dc code 394 .iaload 395 := ⟨1, by decide +kernel, rfl⟩
theorem nd_Law_395 : nj_al code 395 0 396 := Or.inl ⟨0, by decide +kernel, rfl, rfl⟩
theorem nd_Law_396 : nj_il code 396 3 397 := Or.inl ⟨3, by decide +kernel, rfl, rfl⟩
theorem nd_Law_397 : nj_ic code 397 2 398 := Or.inl ⟨2, by decide +kernel, by decide, rfl⟩
theorem nd_Law_398 : nj_dc code 398 .iadd 399 := ⟨1, by decide +kernel, rfl⟩
theorem nd_Law_399 : nj_dc code 399 .iaload 400 := ⟨1, by decide +kernel, rfl⟩
theorem nd_Law_400 : nj_al code 400 0 401 := Or.inl ⟨0, by decide +kernel, rfl, rfl⟩
theorem nd_Law_401 : nj_il code 401 3 402 := Or.inl ⟨3, by decide +kernel, rfl, rfl⟩
theorem nd_Law_402 : nj_ic code 402 3 403 := Or.inl ⟨3, by decide +kernel, by decide, rfl⟩
theorem nd_Law_403 : nj_dc code 403 .iadd 404 := ⟨1, by decide +kernel, rfl⟩
theorem nd_Law_404 : nj_dc code 404 .iaload 405 := ⟨1, by decide +kernel, rfl⟩
theorem nd_Law_405 : nj_al code 405 0 406 := Or.inl ⟨0, by decide +kernel, rfl, rfl⟩
theorem nd_Law_406 : nj_il code 406 3 407 := Or.inl ⟨3, by decide +kernel, rfl, rfl⟩
theorem nd_Law_407 : nj_ic code 407 4 408 := Or.inl ⟨4, by decide +kernel, by decide, rfl⟩
theorem nd_Law_408 : nj_dc code 408 .iadd 409 := ⟨1, by decide +kernel, rfl⟩
theorem nd_Law_409 : nj_dc code 409 .iaload 410 := ⟨1, by decide +kernel, rfl⟩
theorem nd_Law_410 : nj_al code 410 0 411 := Or.inl ⟨0, by decide +kernel, rfl, rfl⟩
theorem nd_Law_411 : nj_il code 411 3 412 := Or.inl ⟨3, by decide +kernel, rfl, rfl⟩
theorem nd_Law_412 : nj_ic code 412 5 413 := Or.inl ⟨5, by decide +kernel, by decide, rfl⟩
theorem nd_Law_413 : nj_dc code 413 .iadd 414 := ⟨1, by decide +kernel, rfl⟩
theorem nd_Law_414 : nj_dc code 414 .iaload 415 := ⟨1, by decide +kernel, rfl⟩
theorem nd_Law_415 : nj_dc code 415 (.invokevirtual 36) 418 := ⟨3, by decide +kernel, rfl⟩
theorem nd_Law_418 : nj_cm code 418 .eq 1296 421 := ⟨878, by decide +kernel, rfl, rfl⟩
theorem nd_Law_421 : nj_ic code 421 0 422 := Or.inl ⟨0, by decide +kernel, by decide, rfl⟩
theorem nd_Law_422 : nj_dc code 422 .ireturn 423 := ⟨1, by decide +kernel, rfl⟩
theorem nd_Law_423 : nj_al code 423 1 424 := Or.inl ⟨1, by decide +kernel, rfl, rfl⟩
theorem nd_Law_424 : nj_al code 424 0 425 := Or.inl ⟨0, by decide +kernel, rfl, rfl⟩
theorem nd_Law_425 : nj_il code 425 3 426 := Or.inl ⟨3, by decide +kernel, rfl, rfl⟩
theorem nd_Law_426 : nj_ic code 426 1 427 := Or.inl ⟨1, by decide +kernel, by decide, rfl⟩
theorem nd_Law_427 : nj_dc code 427 .iadd 428 := ⟨1, by decide +kernel, rfl⟩
theorem nd_Law_428 : nj_dc code 428 .iaload 429 := ⟨1, by decide +kernel, rfl⟩
theorem nd_Law_429 : nj_dc code 429 (.invokevirtual 37) 432 := ⟨3, by decide +kernel, rfl⟩
theorem nd_Law_432 : nj_al code 432 2 433 := Or.inl ⟨2, by decide +kernel, rfl, rfl⟩
theorem nd_Law_433 : nj_al code 433 0 434 := Or.inl ⟨0, by decide +kernel, rfl, rfl⟩
theorem nd_Law_434 : nj_il code 434 3 435 := Or.inl ⟨3, by decide +kernel, rfl, rfl⟩
theorem nd_Law_435 : nj_ic code 435 1 436 := Or.inl ⟨1, by decide +kernel, by decide, rfl⟩
theorem nd_Law_436 : nj_dc code 436 .iadd 437 := ⟨1, by decide +kernel, rfl⟩
theorem nd_Law_437 : nj_dc code 437 .iaload 438 := ⟨1, by decide +kernel, rfl⟩
theorem nd_Law_438 : nj_dc code 438 (.invokevirtual 40) 441 := ⟨3, by decide +kernel, rfl⟩
theorem nd_Law_441 : nj_cm code 441 .eq 1296 444 := ⟨855, by decide +kernel, rfl, rfl⟩
theorem nd_Law_444 : nj_ic code 444 0 445 := Or.inl ⟨0, by decide +kernel, by decide, rfl⟩
theorem nd_Law_445 : nj_dc code 445 .ireturn 446 := ⟨1, by decide +kernel, rfl⟩
theorem nd_Law_446 : nj_al code 446 1 447 := Or.inl ⟨1, by decide +kernel, rfl, rfl⟩
theorem nd_Law_447 : nj_al code 447 0 448 := Or.inl ⟨0, by decide +kernel, rfl, rfl⟩
theorem nd_Law_448 : nj_il code 448 3 449 := Or.inl ⟨3, by decide +kernel, rfl, rfl⟩
theorem nd_Law_449 : nj_ic code 449 1 450 := Or.inl ⟨1, by decide +kernel, by decide, rfl⟩
theorem nd_Law_450 : nj_dc code 450 .iadd 451 := ⟨1, by decide +kernel, rfl⟩
theorem nd_Law_451 : nj_dc code 451 .iaload 452 := ⟨1, by decide +kernel, rfl⟩
theorem nd_Law_452 : nj_al code 452 0 453 := Or.inl ⟨0, by decide +kernel, rfl, rfl⟩
theorem nd_Law_453 : nj_il code 453 3 454 := Or.inl ⟨3, by decide +kernel, rfl, rfl⟩
theorem nd_Law_454 : nj_ic code 454 2 455 := Or.inl ⟨2, by decide +kernel, by decide, rfl⟩
theorem nd_Law_455 : nj_dc code 455 .iadd 456 := ⟨1, by decide +kernel, rfl⟩
theorem nd_Law_456 : nj_dc code 456 .iaload 457 := ⟨1, by decide +kernel, rfl⟩
theorem nd_Law_457 : nj_dc code 457 (.invokevirtual 41) 460 := ⟨3, by decide +kernel, rfl⟩
theorem nd_Law_460 : nj_al code 460 2 461 := Or.inl ⟨2, by decide +kernel, rfl, rfl⟩
theorem nd_Law_461 : nj_al code 461 0 462 := Or.inl ⟨0, by decide +kernel, rfl, rfl⟩
theorem nd_Law_462 : nj_il code 462 3 463 := Or.inl ⟨3, by decide +kernel, rfl, rfl⟩
theorem nd_Law_463 : nj_ic code 463 1 464 := Or.inl ⟨1, by decide +kernel, by decide, rfl⟩
theorem nd_Law_464 : nj_dc code 464 .iadd 465 := ⟨1, by decide +kernel, rfl⟩
theorem nd_Law_465 : nj_dc code 465 .iaload 466 := ⟨1, by decide +kernel, rfl⟩
theorem nd_Law_466 : nj_al code 466 0 467 := Or.inl ⟨0, by decide +kernel, rfl, rfl⟩
theorem nd_Law_467 : nj_il code 467 3 468 := Or.inl ⟨3, by decide +kernel, rfl, rfl⟩
theorem nd_Law_468 : nj_ic code 468 2 469 := Or.inl ⟨2, by decide +kernel, by decide, rfl⟩
theorem nd_Law_469 : nj_dc code 469 .iadd 470 := ⟨1, by decide +kernel, rfl⟩
theorem nd_Law_470 : nj_dc code 470 .iaload 471 := ⟨1, by decide +kernel, rfl⟩
theorem nd_Law_471 : nj_dc code 471 (.invokevirtual 44) 474 := ⟨3, by decide +kernel, rfl⟩
theorem nd_Law_474 : nj_cm code 474 .eq 1296 477 := ⟨822, by decide +kernel, rfl, rfl⟩
theorem nd_Law_477 : nj_ic code 477 0 478 := Or.inl ⟨0, by decide +kernel, by decide, rfl⟩
theorem nd_Law_478 : nj_dc code 478 .ireturn 479 := ⟨1, by decide +kernel, rfl⟩
theorem nd_Law_479 : nj_al code 479 1 480 := Or.inl ⟨1, by decide +kernel, rfl, rfl⟩
theorem nd_Law_480 : nj_al code 480 0 481 := Or.inl ⟨0, by decide +kernel, rfl, rfl⟩
theorem nd_Law_481 : nj_il code 481 3 482 := Or.inl ⟨3, by decide +kernel, rfl, rfl⟩
theorem nd_Law_482 : nj_ic code 482 1 483 := Or.inl ⟨1, by decide +kernel, by decide, rfl⟩
theorem nd_Law_483 : nj_dc code 483 .iadd 484 := ⟨1, by decide +kernel, rfl⟩
theorem nd_Law_484 : nj_dc code 484 .iaload 485 := ⟨1, by decide +kernel, rfl⟩
theorem nd_Law_485 : nj_al code 485 0 486 := Or.inl ⟨0, by decide +kernel, rfl, rfl⟩
theorem nd_Law_486 : nj_il code 486 3 487 := Or.inl ⟨3, by decide +kernel, rfl, rfl⟩
theorem nd_Law_487 : nj_ic code 487 2 488 := Or.inl ⟨2, by decide +kernel, by decide, rfl⟩
theorem nd_Law_488 : nj_dc code 488 .iadd 489 := ⟨1, by decide +kernel, rfl⟩
theorem nd_Law_489 : nj_dc code 489 .iaload 490 := ⟨1, by decide +kernel, rfl⟩
theorem nd_Law_490 : nj_al code 490 0 491 := Or.inl ⟨0, by decide +kernel, rfl, rfl⟩
theorem nd_Law_491 : nj_il code 491 3 492 := Or.inl ⟨3, by decide +kernel, rfl, rfl⟩
theorem nd_Law_492 : nj_ic code 492 3 493 := Or.inl ⟨3, by decide +kernel, by decide, rfl⟩
theorem nd_Law_493 : nj_dc code 493 .iadd 494 := ⟨1, by decide +kernel, rfl⟩
theorem nd_Law_494 : nj_dc code 494 .iaload 495 := ⟨1, by decide +kernel, rfl⟩
theorem nd_Law_495 : nj_dc code 495 (.invokevirtual 45) 498 := ⟨3, by decide +kernel, rfl⟩
theorem nd_Law_498 : nj_al code 498 2 499 := Or.inl ⟨2, by decide +kernel, rfl, rfl⟩
theorem nd_Law_499 : nj_al code 499 0 500 := Or.inl ⟨0, by decide +kernel, rfl, rfl⟩
theorem nd_Law_500 : nj_il code 500 3 501 := Or.inl ⟨3, by decide +kernel, rfl, rfl⟩
theorem nd_Law_501 : nj_ic code 501 1 502 := Or.inl ⟨1, by decide +kernel, by decide, rfl⟩
theorem nd_Law_502 : nj_dc code 502 .iadd 503 := ⟨1, by decide +kernel, rfl⟩
theorem nd_Law_503 : nj_dc code 503 .iaload 504 := ⟨1, by decide +kernel, rfl⟩
theorem nd_Law_504 : nj_al code 504 0 505 := Or.inl ⟨0, by decide +kernel, rfl, rfl⟩
theorem nd_Law_505 : nj_il code 505 3 506 := Or.inl ⟨3, by decide +kernel, rfl, rfl⟩
theorem nd_Law_506 : nj_ic code 506 2 507 := Or.inl ⟨2, by decide +kernel, by decide, rfl⟩
theorem nd_Law_507 : nj_dc code 507 .iadd 508 := ⟨1, by decide +kernel, rfl⟩
theorem nd_Law_508 : nj_dc code 508 .iaload 509 := ⟨1, by decide +kernel, rfl⟩
theorem nd_Law_509 : nj_al code 509 0 510 := Or.inl ⟨0, by decide +kernel, rfl, rfl⟩
theorem nd_Law_510 : nj_il code 510 3 511 := Or.inl ⟨3, by decide +kernel, rfl, rfl⟩
theorem nd_Law_511 : nj_ic code 511 3 512 := Or.inl ⟨3, by decide +kernel, by decide, rfl⟩
theorem nd_Law_512 : nj_dc code 512 .iadd 513 := ⟨1, by decide +kernel, rfl⟩
theorem nd_Law_513 : nj_dc code 513 .iaload 514 := ⟨1, by decide +kernel, rfl⟩
theorem nd_Law_514 : nj_dc code 514 (.invokevirtual 48) 517 := ⟨3, by decide +kernel, rfl⟩
theorem nd_Law_517 : nj_cm code 517 .eq 1296 520 := ⟨779, by decide +kernel, rfl, rfl⟩
theorem nd_Law_520 : nj_ic code 520 0 521 := Or.inl ⟨0, by decide +kernel, by decide, rfl⟩
theorem nd_Law_521 : nj_dc code 521 .ireturn 522 := ⟨1, by decide +kernel, rfl⟩
theorem nd_Law_522 : nj_al code 522 1 523 := Or.inl ⟨1, by decide +kernel, rfl, rfl⟩
theorem nd_Law_523 : nj_al code 523 0 524 := Or.inl ⟨0, by decide +kernel, rfl, rfl⟩
theorem nd_Law_524 : nj_il code 524 3 525 := Or.inl ⟨3, by decide +kernel, rfl, rfl⟩
theorem nd_Law_525 : nj_ic code 525 1 526 := Or.inl ⟨1, by decide +kernel, by decide, rfl⟩
theorem nd_Law_526 : nj_dc code 526 .iadd 527 := ⟨1, by decide +kernel, rfl⟩
theorem nd_Law_527 : nj_dc code 527 .iaload 528 := ⟨1, by decide +kernel, rfl⟩
theorem nd_Law_528 : nj_dc code 528 (.invokevirtual 49) 531 := ⟨3, by decide +kernel, rfl⟩
theorem nd_Law_531 : nj_al code 531 2 532 := Or.inl ⟨2, by decide +kernel, rfl, rfl⟩
theorem nd_Law_532 : nj_al code 532 0 533 := Or.inl ⟨0, by decide +kernel, rfl, rfl⟩
theorem nd_Law_533 : nj_il code 533 3 534 := Or.inl ⟨3, by decide +kernel, rfl, rfl⟩
theorem nd_Law_534 : nj_ic code 534 1 535 := Or.inl ⟨1, by decide +kernel, by decide, rfl⟩
theorem nd_Law_535 : nj_dc code 535 .iadd 536 := ⟨1, by decide +kernel, rfl⟩
theorem nd_Law_536 : nj_dc code 536 .iaload 537 := ⟨1, by decide +kernel, rfl⟩
theorem nd_Law_537 : nj_dc code 537 (.invokevirtual 52) 540 := ⟨3, by decide +kernel, rfl⟩
theorem nd_Law_540 : nj_cm code 540 .eq 1296 543 := ⟨756, by decide +kernel, rfl, rfl⟩
theorem nd_Law_543 : nj_ic code 543 0 544 := Or.inl ⟨0, by decide +kernel, by decide, rfl⟩
theorem nd_Law_544 : nj_dc code 544 .ireturn 545 := ⟨1, by decide +kernel, rfl⟩
theorem nd_Law_545 : nj_al code 545 1 546 := Or.inl ⟨1, by decide +kernel, rfl, rfl⟩
theorem nd_Law_546 : nj_al code 546 0 547 := Or.inl ⟨0, by decide +kernel, rfl, rfl⟩
theorem nd_Law_547 : nj_il code 547 3 548 := Or.inl ⟨3, by decide +kernel, rfl, rfl⟩
theorem nd_Law_548 : nj_ic code 548 1 549 := Or.inl ⟨1, by decide +kernel, by decide, rfl⟩
theorem nd_Law_549 : nj_dc code 549 .iadd 550 := ⟨1, by decide +kernel, rfl⟩
theorem nd_Law_550 : nj_dc code 550 .iaload 551 := ⟨1, by decide +kernel, rfl⟩
theorem nd_Law_551 : nj_dc code 551 (.invokevirtual 53) 554 := ⟨3, by decide +kernel, rfl⟩
theorem nd_Law_554 : nj_al code 554 2 555 := Or.inl ⟨2, by decide +kernel, rfl, rfl⟩
theorem nd_Law_555 : nj_al code 555 0 556 := Or.inl ⟨0, by decide +kernel, rfl, rfl⟩
theorem nd_Law_556 : nj_il code 556 3 557 := Or.inl ⟨3, by decide +kernel, rfl, rfl⟩
theorem nd_Law_557 : nj_ic code 557 1 558 := Or.inl ⟨1, by decide +kernel, by decide, rfl⟩
theorem nd_Law_558 : nj_dc code 558 .iadd 559 := ⟨1, by decide +kernel, rfl⟩
theorem nd_Law_559 : nj_dc code 559 .iaload 560 := ⟨1, by decide +kernel, rfl⟩
theorem nd_Law_560 : nj_dc code 560 (.invokevirtual 56) 563 := ⟨3, by decide +kernel, rfl⟩
theorem nd_Law_563 : nj_cm code 563 .eq 1296 566 := ⟨733, by decide +kernel, rfl, rfl⟩
theorem nd_Law_566 : nj_ic code 566 0 567 := Or.inl ⟨0, by decide +kernel, by decide, rfl⟩
theorem nd_Law_567 : nj_dc code 567 .ireturn 568 := ⟨1, by decide +kernel, rfl⟩
theorem nd_Law_568 : nj_al code 568 1 569 := Or.inl ⟨1, by decide +kernel, rfl, rfl⟩
theorem nd_Law_569 : nj_al code 569 0 570 := Or.inl ⟨0, by decide +kernel, rfl, rfl⟩
theorem nd_Law_570 : nj_il code 570 3 571 := Or.inl ⟨3, by decide +kernel, rfl, rfl⟩
theorem nd_Law_571 : nj_ic code 571 1 572 := Or.inl ⟨1, by decide +kernel, by decide, rfl⟩
theorem nd_Law_572 : nj_dc code 572 .iadd 573 := ⟨1, by decide +kernel, rfl⟩
theorem nd_Law_573 : nj_dc code 573 .iaload 574 := ⟨1, by decide +kernel, rfl⟩
theorem nd_Law_574 : nj_al code 574 0 575 := Or.inl ⟨0, by decide +kernel, rfl, rfl⟩
theorem nd_Law_575 : nj_il code 575 3 576 := Or.inl ⟨3, by decide +kernel, rfl, rfl⟩
theorem nd_Law_576 : nj_ic code 576 2 577 := Or.inl ⟨2, by decide +kernel, by decide, rfl⟩
theorem nd_Law_577 : nj_dc code 577 .iadd 578 := ⟨1, by decide +kernel, rfl⟩
theorem nd_Law_578 : nj_dc code 578 .iaload 579 := ⟨1, by decide +kernel, rfl⟩
theorem nd_Law_579 : nj_dc code 579 (.invokevirtual 57) 582 := ⟨3, by decide +kernel, rfl⟩
theorem nd_Law_582 : nj_al code 582 2 583 := Or.inl ⟨2, by decide +kernel, rfl, rfl⟩
theorem nd_Law_583 : nj_al code 583 0 584 := Or.inl ⟨0, by decide +kernel, rfl, rfl⟩
theorem nd_Law_584 : nj_il code 584 3 585 := Or.inl ⟨3, by decide +kernel, rfl, rfl⟩
theorem nd_Law_585 : nj_ic code 585 1 586 := Or.inl ⟨1, by decide +kernel, by decide, rfl⟩
theorem nd_Law_586 : nj_dc code 586 .iadd 587 := ⟨1, by decide +kernel, rfl⟩
theorem nd_Law_587 : nj_dc code 587 .iaload 588 := ⟨1, by decide +kernel, rfl⟩
theorem nd_Law_588 : nj_al code 588 0 589 := Or.inl ⟨0, by decide +kernel, rfl, rfl⟩
theorem nd_Law_589 : nj_il code 589 3 590 := Or.inl ⟨3, by decide +kernel, rfl, rfl⟩
theorem nd_Law_590 : nj_ic code 590 2 591 := Or.inl ⟨2, by decide +kernel, by decide, rfl⟩
theorem nd_Law_591 : nj_dc code 591 .iadd 592 := ⟨1, by decide +kernel, rfl⟩
theorem nd_Law_592 : nj_dc code 592 .iaload 593 := ⟨1, by decide +kernel, rfl⟩
theorem nd_Law_593 : nj_dc code 593 (.invokevirtual 60) 596 := ⟨3, by decide +kernel, rfl⟩
theorem nd_Law_596 : nj_cm code 596 .eq 1296 599 := ⟨700, by decide +kernel, rfl, rfl⟩
theorem nd_Law_599 : nj_ic code 599 0 600 := Or.inl ⟨0, by decide +kernel, by decide, rfl⟩
theorem nd_Law_600 : nj_dc code 600 .ireturn 601 := ⟨1, by decide +kernel, rfl⟩
theorem nd_Law_601 : nj_al code 601 1 602 := Or.inl ⟨1, by decide +kernel, rfl, rfl⟩
theorem nd_Law_602 : nj_al code 602 0 603 := Or.inl ⟨0, by decide +kernel, rfl, rfl⟩
theorem nd_Law_603 : nj_il code 603 3 604 := Or.inl ⟨3, by decide +kernel, rfl, rfl⟩
theorem nd_Law_604 : nj_ic code 604 1 605 := Or.inl ⟨1, by decide +kernel, by decide, rfl⟩
theorem nd_Law_605 : nj_dc code 605 .iadd 606 := ⟨1, by decide +kernel, rfl⟩
theorem nd_Law_606 : nj_dc code 606 .iaload 607 := ⟨1, by decide +kernel, rfl⟩
theorem nd_Law_607 : nj_al code 607 0 608 := Or.inl ⟨0, by decide +kernel, rfl, rfl⟩
theorem nd_Law_608 : nj_il code 608 3 609 := Or.inl ⟨3, by decide +kernel, rfl, rfl⟩
theorem nd_Law_609 : nj_ic code 609 2 610 := Or.inl ⟨2, by decide +kernel, by decide, rfl⟩
theorem nd_Law_610 : nj_dc code 610 .iadd 611 := ⟨1, by decide +kernel, rfl⟩
theorem nd_Law_611 : nj_dc code 611 .iaload 612 := ⟨1, by decide +kernel, rfl⟩
theorem nd_Law_612 : nj_dc code 612 (.invokevirtual 61) 615 := ⟨3, by decide +kernel, rfl⟩
theorem nd_Law_615 : nj_al code 615 2 616 := Or.inl ⟨2, by decide +kernel, rfl, rfl⟩
theorem nd_Law_616 : nj_al code 616 0 617 := Or.inl ⟨0, by decide +kernel, rfl, rfl⟩
theorem nd_Law_617 : nj_il code 617 3 618 := Or.inl ⟨3, by decide +kernel, rfl, rfl⟩
theorem nd_Law_618 : nj_ic code 618 1 619 := Or.inl ⟨1, by decide +kernel, by decide, rfl⟩
theorem nd_Law_619 : nj_dc code 619 .iadd 620 := ⟨1, by decide +kernel, rfl⟩
theorem nd_Law_620 : nj_dc code 620 .iaload 621 := ⟨1, by decide +kernel, rfl⟩
theorem nd_Law_621 : nj_al code 621 0 622 := Or.inl ⟨0, by decide +kernel, rfl, rfl⟩
theorem nd_Law_622 : nj_il code 622 3 623 := Or.inl ⟨3, by decide +kernel, rfl, rfl⟩
theorem nd_Law_623 : nj_ic code 623 2 624 := Or.inl ⟨2, by decide +kernel, by decide, rfl⟩
theorem nd_Law_624 : nj_dc code 624 .iadd 625 := ⟨1, by decide +kernel, rfl⟩
theorem nd_Law_625 : nj_dc code 625 .iaload 626 := ⟨1, by decide +kernel, rfl⟩
theorem nd_Law_626 : nj_dc code 626 (.invokevirtual 64) 629 := ⟨3, by decide +kernel, rfl⟩
theorem nd_Law_629 : nj_cm code 629 .eq 1296 632 := ⟨667, by decide +kernel, rfl, rfl⟩
theorem nd_Law_632 : nj_ic code 632 0 633 := Or.inl ⟨0, by decide +kernel, by decide, rfl⟩
theorem nd_Law_633 : nj_dc code 633 .ireturn 634 := ⟨1, by decide +kernel, rfl⟩
theorem nd_Law_634 : nj_al code 634 1 635 := Or.inl ⟨1, by decide +kernel, rfl, rfl⟩
theorem nd_Law_635 : nj_al code 635 0 636 := Or.inl ⟨0, by decide +kernel, rfl, rfl⟩
theorem nd_Law_636 : nj_il code 636 3 637 := Or.inl ⟨3, by decide +kernel, rfl, rfl⟩
theorem nd_Law_637 : nj_ic code 637 1 638 := Or.inl ⟨1, by decide +kernel, by decide, rfl⟩
theorem nd_Law_638 : nj_dc code 638 .iadd 639 := ⟨1, by decide +kernel, rfl⟩
theorem nd_Law_639 : nj_dc code 639 .iaload 640 := ⟨1, by decide +kernel, rfl⟩
theorem nd_Law_640 : nj_dc code 640 (.invokevirtual 65) 643 := ⟨3, by decide +kernel, rfl⟩
theorem nd_Law_643 : nj_al code 643 2 644 := Or.inl ⟨2, by decide +kernel, rfl, rfl⟩
theorem nd_Law_644 : nj_al code 644 0 645 := Or.inl ⟨0, by decide +kernel, rfl, rfl⟩
theorem nd_Law_645 : nj_il code 645 3 646 := Or.inl ⟨3, by decide +kernel, rfl, rfl⟩
theorem nd_Law_646 : nj_ic code 646 1 647 := Or.inl ⟨1, by decide +kernel, by decide, rfl⟩
theorem nd_Law_647 : nj_dc code 647 .iadd 648 := ⟨1, by decide +kernel, rfl⟩
theorem nd_Law_648 : nj_dc code 648 .iaload 649 := ⟨1, by decide +kernel, rfl⟩
theorem nd_Law_649 : nj_dc code 649 (.invokevirtual 68) 652 := ⟨3, by decide +kernel, rfl⟩
theorem nd_Law_652 : nj_cm code 652 .eq 1296 655 := ⟨644, by decide +kernel, rfl, rfl⟩
theorem nd_Law_655 : nj_ic code 655 0 656 := Or.inl ⟨0, by decide +kernel, by decide, rfl⟩
theorem nd_Law_656 : nj_dc code 656 .ireturn 657 := ⟨1, by decide +kernel, rfl⟩
theorem nd_Law_657 : nj_al code 657 1 658 := Or.inl ⟨1, by decide +kernel, rfl, rfl⟩
theorem nd_Law_658 : nj_al code 658 0 659 := Or.inl ⟨0, by decide +kernel, rfl, rfl⟩
theorem nd_Law_659 : nj_il code 659 3 660 := Or.inl ⟨3, by decide +kernel, rfl, rfl⟩
theorem nd_Law_660 : nj_ic code 660 1 661 := Or.inl ⟨1, by decide +kernel, by decide, rfl⟩
theorem nd_Law_661 : nj_dc code 661 .iadd 662 := ⟨1, by decide +kernel, rfl⟩
theorem nd_Law_662 : nj_dc code 662 .iaload 663 := ⟨1, by decide +kernel, rfl⟩
theorem nd_Law_663 : nj_dc code 663 (.invokevirtual 69) 666 := ⟨3, by decide +kernel, rfl⟩
theorem nd_Law_666 : nj_al code 666 2 667 := Or.inl ⟨2, by decide +kernel, rfl, rfl⟩
theorem nd_Law_667 : nj_al code 667 0 668 := Or.inl ⟨0, by decide +kernel, rfl, rfl⟩
theorem nd_Law_668 : nj_il code 668 3 669 := Or.inl ⟨3, by decide +kernel, rfl, rfl⟩
theorem nd_Law_669 : nj_ic code 669 1 670 := Or.inl ⟨1, by decide +kernel, by decide, rfl⟩
theorem nd_Law_670 : nj_dc code 670 .iadd 671 := ⟨1, by decide +kernel, rfl⟩
theorem nd_Law_671 : nj_dc code 671 .iaload 672 := ⟨1, by decide +kernel, rfl⟩
theorem nd_Law_672 : nj_dc code 672 (.invokevirtual 72) 675 := ⟨3, by decide +kernel, rfl⟩
theorem nd_Law_675 : nj_cm code 675 .eq 1296 678 := ⟨621, by decide +kernel, rfl, rfl⟩
theorem nd_Law_678 : nj_ic code 678 0 679 := Or.inl ⟨0, by decide +kernel, by decide, rfl⟩
theorem nd_Law_679 : nj_dc code 679 .ireturn 680 := ⟨1, by decide +kernel, rfl⟩
theorem nd_Law_680 : nj_al code 680 1 681 := Or.inl ⟨1, by decide +kernel, rfl, rfl⟩
theorem nd_Law_681 : nj_al code 681 0 682 := Or.inl ⟨0, by decide +kernel, rfl, rfl⟩
theorem nd_Law_682 : nj_il code 682 3 683 := Or.inl ⟨3, by decide +kernel, rfl, rfl⟩
theorem nd_Law_683 : nj_ic code 683 1 684 := Or.inl ⟨1, by decide +kernel, by decide, rfl⟩
theorem nd_Law_684 : nj_dc code 684 .iadd 685 := ⟨1, by decide +kernel, rfl⟩
theorem nd_Law_685 : nj_dc code 685 .iaload 686 := ⟨1, by decide +kernel, rfl⟩
theorem nd_Law_686 : nj_dc code 686 (.invokevirtual 73) 689 := ⟨3, by decide +kernel, rfl⟩
theorem nd_Law_689 : nj_al code 689 2 690 := Or.inl ⟨2, by decide +kernel, rfl, rfl⟩
theorem nd_Law_690 : nj_al code 690 0 691 := Or.inl ⟨0, by decide +kernel, rfl, rfl⟩
theorem nd_Law_691 : nj_il code 691 3 692 := Or.inl ⟨3, by decide +kernel, rfl, rfl⟩
theorem nd_Law_692 : nj_ic code 692 1 693 := Or.inl ⟨1, by decide +kernel, by decide, rfl⟩
theorem nd_Law_693 : nj_dc code 693 .iadd 694 := ⟨1, by decide +kernel, rfl⟩
theorem nd_Law_694 : nj_dc code 694 .iaload 695 := ⟨1, by decide +kernel, rfl⟩
theorem nd_Law_695 : nj_dc code 695 (.invokevirtual 76) 698 := ⟨3, by decide +kernel, rfl⟩
theorem nd_Law_698 : nj_cm code 698 .eq 1296 701 := ⟨598, by decide +kernel, rfl, rfl⟩
theorem nd_Law_701 : nj_ic code 701 0 702 := Or.inl ⟨0, by decide +kernel, by decide, rfl⟩
theorem nd_Law_702 : nj_dc code 702 .ireturn 703 := ⟨1, by decide +kernel, rfl⟩
theorem nd_Law_703 : nj_al code 703 1 704 := Or.inl ⟨1, by decide +kernel, rfl, rfl⟩
theorem nd_Law_704 : nj_dc code 704 (.invokevirtual 77) 707 := ⟨3, by decide +kernel, rfl⟩
theorem nd_Law_707 : nj_al code 707 2 708 := Or.inl ⟨2, by decide +kernel, rfl, rfl⟩
theorem nd_Law_708 : nj_dc code 708 (.invokevirtual 81) 711 := ⟨3, by decide +kernel, rfl⟩
theorem nd_Law_711 : nj_cm code 711 .eq 1296 714 := ⟨585, by decide +kernel, rfl, rfl⟩
theorem nd_Law_714 : nj_ic code 714 0 715 := Or.inl ⟨0, by decide +kernel, by decide, rfl⟩
theorem nd_Law_715 : nj_dc code 715 .ireturn 716 := ⟨1, by decide +kernel, rfl⟩
theorem nd_Law_716 : nj_al code 716 1 717 := Or.inl ⟨1, by decide +kernel, rfl, rfl⟩
theorem nd_Law_717 : nj_al code 717 0 718 := Or.inl ⟨0, by decide +kernel, rfl, rfl⟩
theorem nd_Law_718 : nj_il code 718 3 719 := Or.inl ⟨3, by decide +kernel, rfl, rfl⟩
theorem nd_Law_719 : nj_ic code 719 1 720 := Or.inl ⟨1, by decide +kernel, by decide, rfl⟩
theorem nd_Law_720 : nj_dc code 720 .iadd 721 := ⟨1, by decide +kernel, rfl⟩
theorem nd_Law_721 : nj_dc code 721 .iaload 722 := ⟨1, by decide +kernel, rfl⟩
theorem nd_Law_722 : nj_al code 722 0 723 := Or.inl ⟨0, by decide +kernel, rfl, rfl⟩
theorem nd_Law_723 : nj_il code 723 3 724 := Or.inl ⟨3, by decide +kernel, rfl, rfl⟩
theorem nd_Law_724 : nj_ic code 724 2 725 := Or.inl ⟨2, by decide +kernel, by decide, rfl⟩
theorem nd_Law_725 : nj_dc code 725 .iadd 726 := ⟨1, by decide +kernel, rfl⟩
theorem nd_Law_726 : nj_dc code 726 .iaload 727 := ⟨1, by decide +kernel, rfl⟩
theorem nd_Law_727 : nj_dc code 727 (.invokevirtual 82) 730 := ⟨3, by decide +kernel, rfl⟩
theorem nd_Law_730 : nj_al code 730 2 731 := Or.inl ⟨2, by decide +kernel, rfl, rfl⟩
theorem nd_Law_731 : nj_al code 731 0 732 := Or.inl ⟨0, by decide +kernel, rfl, rfl⟩
theorem nd_Law_732 : nj_il code 732 3 733 := Or.inl ⟨3, by decide +kernel, rfl, rfl⟩
theorem nd_Law_733 : nj_ic code 733 1 734 := Or.inl ⟨1, by decide +kernel, by decide, rfl⟩
theorem nd_Law_734 : nj_dc code 734 .iadd 735 := ⟨1, by decide +kernel, rfl⟩
theorem nd_Law_735 : nj_dc code 735 .iaload 736 := ⟨1, by decide +kernel, rfl⟩
theorem nd_Law_736 : nj_al code 736 0 737 := Or.inl ⟨0, by decide +kernel, rfl, rfl⟩
theorem nd_Law_737 : nj_il code 737 3 738 := Or.inl ⟨3, by decide +kernel, rfl, rfl⟩
theorem nd_Law_738 : nj_ic code 738 2 739 := Or.inl ⟨2, by decide +kernel, by decide, rfl⟩
theorem nd_Law_739 : nj_dc code 739 .iadd 740 := ⟨1, by decide +kernel, rfl⟩
theorem nd_Law_740 : nj_dc code 740 .iaload 741 := ⟨1, by decide +kernel, rfl⟩
theorem nd_Law_741 : nj_dc code 741 (.invokevirtual 85) 744 := ⟨3, by decide +kernel, rfl⟩
theorem nd_Law_744 : nj_cm code 744 .eq 1296 747 := ⟨552, by decide +kernel, rfl, rfl⟩
theorem nd_Law_747 : nj_ic code 747 0 748 := Or.inl ⟨0, by decide +kernel, by decide, rfl⟩
theorem nd_Law_748 : nj_dc code 748 .ireturn 749 := ⟨1, by decide +kernel, rfl⟩
theorem nd_Law_749 : nj_al code 749 1 750 := Or.inl ⟨1, by decide +kernel, rfl, rfl⟩
theorem nd_Law_750 : nj_al code 750 0 751 := Or.inl ⟨0, by decide +kernel, rfl, rfl⟩
theorem nd_Law_751 : nj_il code 751 3 752 := Or.inl ⟨3, by decide +kernel, rfl, rfl⟩
theorem nd_Law_752 : nj_ic code 752 1 753 := Or.inl ⟨1, by decide +kernel, by decide, rfl⟩
theorem nd_Law_753 : nj_dc code 753 .iadd 754 := ⟨1, by decide +kernel, rfl⟩
theorem nd_Law_754 : nj_dc code 754 .iaload 755 := ⟨1, by decide +kernel, rfl⟩
theorem nd_Law_755 : nj_dc code 755 (.invokevirtual 86) 758 := ⟨3, by decide +kernel, rfl⟩
theorem nd_Law_758 : nj_al code 758 2 759 := Or.inl ⟨2, by decide +kernel, rfl, rfl⟩
theorem nd_Law_759 : nj_al code 759 0 760 := Or.inl ⟨0, by decide +kernel, rfl, rfl⟩
theorem nd_Law_760 : nj_il code 760 3 761 := Or.inl ⟨3, by decide +kernel, rfl, rfl⟩
theorem nd_Law_761 : nj_ic code 761 1 762 := Or.inl ⟨1, by decide +kernel, by decide, rfl⟩
theorem nd_Law_762 : nj_dc code 762 .iadd 763 := ⟨1, by decide +kernel, rfl⟩
theorem nd_Law_763 : nj_dc code 763 .iaload 764 := ⟨1, by decide +kernel, rfl⟩
theorem nd_Law_764 : nj_dc code 764 (.invokevirtual 89) 767 := ⟨3, by decide +kernel, rfl⟩
theorem nd_Law_767 : nj_cm code 767 .eq 1296 770 := ⟨529, by decide +kernel, rfl, rfl⟩
theorem nd_Law_770 : nj_ic code 770 0 771 := Or.inl ⟨0, by decide +kernel, by decide, rfl⟩
theorem nd_Law_771 : nj_dc code 771 .ireturn 772 := ⟨1, by decide +kernel, rfl⟩
theorem nd_Law_772 : nj_al code 772 1 773 := Or.inl ⟨1, by decide +kernel, rfl, rfl⟩
theorem nd_Law_773 : nj_al code 773 0 774 := Or.inl ⟨0, by decide +kernel, rfl, rfl⟩
theorem nd_Law_774 : nj_il code 774 3 775 := Or.inl ⟨3, by decide +kernel, rfl, rfl⟩
theorem nd_Law_775 : nj_ic code 775 1 776 := Or.inl ⟨1, by decide +kernel, by decide, rfl⟩
theorem nd_Law_776 : nj_dc code 776 .iadd 777 := ⟨1, by decide +kernel, rfl⟩
theorem nd_Law_777 : nj_dc code 777 .iaload 778 := ⟨1, by decide +kernel, rfl⟩
theorem nd_Law_778 : nj_dc code 778 (.invokevirtual 90) 781 := ⟨3, by decide +kernel, rfl⟩
theorem nd_Law_781 : nj_al code 781 2 782 := Or.inl ⟨2, by decide +kernel, rfl, rfl⟩
theorem nd_Law_782 : nj_al code 782 0 783 := Or.inl ⟨0, by decide +kernel, rfl, rfl⟩
theorem nd_Law_783 : nj_il code 783 3 784 := Or.inl ⟨3, by decide +kernel, rfl, rfl⟩
theorem nd_Law_784 : nj_ic code 784 1 785 := Or.inl ⟨1, by decide +kernel, by decide, rfl⟩
theorem nd_Law_785 : nj_dc code 785 .iadd 786 := ⟨1, by decide +kernel, rfl⟩
theorem nd_Law_786 : nj_dc code 786 .iaload 787 := ⟨1, by decide +kernel, rfl⟩
theorem nd_Law_787 : nj_dc code 787 (.invokevirtual 93) 790 := ⟨3, by decide +kernel, rfl⟩
theorem nd_Law_790 : nj_cm code 790 .eq 1296 793 := ⟨506, by decide +kernel, rfl, rfl⟩
theorem nd_Law_793 : nj_ic code 793 0 794 := Or.inl ⟨0, by decide +kernel, by decide, rfl⟩
theorem nd_Law_794 : nj_dc code 794 .ireturn 795 := ⟨1, by decide +kernel, rfl⟩
theorem nd_Law_795 : nj_al code 795 1 796 := Or.inl ⟨1, by decide +kernel, rfl, rfl⟩
theorem nd_Law_796 : nj_al code 796 0 797 := Or.inl ⟨0, by decide +kernel, rfl, rfl⟩
theorem nd_Law_797 : nj_il code 797 3 798 := Or.inl ⟨3, by decide +kernel, rfl, rfl⟩
theorem nd_Law_798 : nj_ic code 798 1 799 := Or.inl ⟨1, by decide +kernel, by decide, rfl⟩
theorem nd_Law_799 : nj_dc code 799 .iadd 800 := ⟨1, by decide +kernel, rfl⟩
theorem nd_Law_800 : nj_dc code 800 .iaload 801 := ⟨1, by decide +kernel, rfl⟩
theorem nd_Law_801 : nj_dc code 801 (.invokevirtual 94) 804 := ⟨3, by decide +kernel, rfl⟩
theorem nd_Law_804 : nj_al code 804 2 805 := Or.inl ⟨2, by decide +kernel, rfl, rfl⟩
theorem nd_Law_805 : nj_al code 805 0 806 := Or.inl ⟨0, by decide +kernel, rfl, rfl⟩
theorem nd_Law_806 : nj_il code 806 3 807 := Or.inl ⟨3, by decide +kernel, rfl, rfl⟩
theorem nd_Law_807 : nj_ic code 807 1 808 := Or.inl ⟨1, by decide +kernel, by decide, rfl⟩
theorem nd_Law_808 : nj_dc code 808 .iadd 809 := ⟨1, by decide +kernel, rfl⟩
theorem nd_Law_809 : nj_dc code 809 .iaload 810 := ⟨1, by decide +kernel, rfl⟩
theorem nd_Law_810 : nj_dc code 810 (.invokevirtual 97) 813 := ⟨3, by decide +kernel, rfl⟩
theorem nd_Law_813 : nj_cm code 813 .eq 1296 816 := ⟨483, by decide +kernel, rfl, rfl⟩
theorem nd_Law_816 : nj_ic code 816 0 817 := Or.inl ⟨0, by decide +kernel, by decide, rfl⟩
theorem nd_Law_817 : nj_dc code 817 .ireturn 818 := ⟨1, by decide +kernel, rfl⟩
theorem nd_Law_818 : nj_al code 818 1 819 := Or.inl ⟨1, by decide +kernel, rfl, rfl⟩
theorem nd_Law_819 : nj_al code 819 0 820 := Or.inl ⟨0, by decide +kernel, rfl, rfl⟩
theorem nd_Law_820 : nj_il code 820 3 821 := Or.inl ⟨3, by decide +kernel, rfl, rfl⟩
theorem nd_Law_821 : nj_ic code 821 1 822 := Or.inl ⟨1, by decide +kernel, by decide, rfl⟩
theorem nd_Law_822 : nj_dc code 822 .iadd 823 := ⟨1, by decide +kernel, rfl⟩
theorem nd_Law_823 : nj_dc code 823 .iaload 824 := ⟨1, by decide +kernel, rfl⟩
theorem nd_Law_824 : nj_dc code 824 (.invokevirtual 98) 827 := ⟨3, by decide +kernel, rfl⟩
theorem nd_Law_827 : nj_al code 827 2 828 := Or.inl ⟨2, by decide +kernel, rfl, rfl⟩
theorem nd_Law_828 : nj_al code 828 0 829 := Or.inl ⟨0, by decide +kernel, rfl, rfl⟩
theorem nd_Law_829 : nj_il code 829 3 830 := Or.inl ⟨3, by decide +kernel, rfl, rfl⟩
theorem nd_Law_830 : nj_ic code 830 1 831 := Or.inl ⟨1, by decide +kernel, by decide, rfl⟩
theorem nd_Law_831 : nj_dc code 831 .iadd 832 := ⟨1, by decide +kernel, rfl⟩
theorem nd_Law_832 : nj_dc code 832 .iaload 833 := ⟨1, by decide +kernel, rfl⟩
theorem nd_Law_833 : nj_dc code 833 (.invokevirtual 101) 836 := ⟨3, by decide +kernel, rfl⟩
theorem nd_Law_836 : nj_cm code 836 .eq 1296 839 := ⟨460, by decide +kernel, rfl, rfl⟩
theorem nd_Law_839 : nj_ic code 839 0 840 := Or.inl ⟨0, by decide +kernel, by decide, rfl⟩
theorem nd_Law_840 : nj_dc code 840 .ireturn 841 := ⟨1, by decide +kernel, rfl⟩
theorem nd_Law_841 : nj_al code 841 1 842 := Or.inl ⟨1, by decide +kernel, rfl, rfl⟩
theorem nd_Law_842 : nj_dc code 842 (.invokevirtual 102) 845 := ⟨3, by decide +kernel, rfl⟩
theorem nd_Law_845 : nj_al code 845 2 846 := Or.inl ⟨2, by decide +kernel, rfl, rfl⟩
theorem nd_Law_846 : nj_dc code 846 (.invokevirtual 105) 849 := ⟨3, by decide +kernel, rfl⟩
theorem nd_Law_849 : nj_cm code 849 .eq 1296 852 := ⟨447, by decide +kernel, rfl, rfl⟩
theorem nd_Law_852 : nj_ic code 852 0 853 := Or.inl ⟨0, by decide +kernel, by decide, rfl⟩
theorem nd_Law_853 : nj_dc code 853 .ireturn 854 := ⟨1, by decide +kernel, rfl⟩
theorem nd_Law_854 : nj_al code 854 1 855 := Or.inl ⟨1, by decide +kernel, rfl, rfl⟩
theorem nd_Law_855 : nj_al code 855 0 856 := Or.inl ⟨0, by decide +kernel, rfl, rfl⟩
theorem nd_Law_856 : nj_il code 856 3 857 := Or.inl ⟨3, by decide +kernel, rfl, rfl⟩
theorem nd_Law_857 : nj_ic code 857 1 858 := Or.inl ⟨1, by decide +kernel, by decide, rfl⟩
theorem nd_Law_858 : nj_dc code 858 .iadd 859 := ⟨1, by decide +kernel, rfl⟩
theorem nd_Law_859 : nj_dc code 859 .iaload 860 := ⟨1, by decide +kernel, rfl⟩
theorem nd_Law_860 : nj_dc code 860 (.invokevirtual 106) 863 := ⟨3, by decide +kernel, rfl⟩
theorem nd_Law_863 : nj_al code 863 2 864 := Or.inl ⟨2, by decide +kernel, rfl, rfl⟩
theorem nd_Law_864 : nj_al code 864 0 865 := Or.inl ⟨0, by decide +kernel, rfl, rfl⟩
theorem nd_Law_865 : nj_il code 865 3 866 := Or.inl ⟨3, by decide +kernel, rfl, rfl⟩
theorem nd_Law_866 : nj_ic code 866 1 867 := Or.inl ⟨1, by decide +kernel, by decide, rfl⟩
theorem nd_Law_867 : nj_dc code 867 .iadd 868 := ⟨1, by decide +kernel, rfl⟩
theorem nd_Law_868 : nj_dc code 868 .iaload 869 := ⟨1, by decide +kernel, rfl⟩
theorem nd_Law_869 : nj_dc code 869 (.invokevirtual 109) 872 := ⟨3, by decide +kernel, rfl⟩
theorem nd_Law_872 : nj_cm code 872 .eq 1296 875 := ⟨424, by decide +kernel, rfl, rfl⟩
theorem nd_Law_875 : nj_ic code 875 0 876 := Or.inl ⟨0, by decide +kernel, by decide, rfl⟩
theorem nd_Law_876 : nj_dc code 876 .ireturn 877 := ⟨1, by decide +kernel, rfl⟩
theorem nd_Law_877 : nj_al code 877 1 878 := Or.inl ⟨1, by decide +kernel, rfl, rfl⟩
theorem nd_Law_878 : nj_al code 878 0 879 := Or.inl ⟨0, by decide +kernel, rfl, rfl⟩
theorem nd_Law_879 : nj_il code 879 3 880 := Or.inl ⟨3, by decide +kernel, rfl, rfl⟩
theorem nd_Law_880 : nj_ic code 880 1 881 := Or.inl ⟨1, by decide +kernel, by decide, rfl⟩
theorem nd_Law_881 : nj_dc code 881 .iadd 882 := ⟨1, by decide +kernel, rfl⟩
theorem nd_Law_882 : nj_dc code 882 .iaload 883 := ⟨1, by decide +kernel, rfl⟩
theorem nd_Law_883 : nj_dc code 883 (.invokevirtual 110) 886 := ⟨3, by decide +kernel, rfl⟩
theorem nd_Law_886 : nj_al code 886 2 887 := Or.inl ⟨2, by decide +kernel, rfl, rfl⟩
theorem nd_Law_887 : nj_al code 887 0 888 := Or.inl ⟨0, by decide +kernel, rfl, rfl⟩
theorem nd_Law_888 : nj_il code 888 3 889 := Or.inl ⟨3, by decide +kernel, rfl, rfl⟩
theorem nd_Law_889 : nj_ic code 889 1 890 := Or.inl ⟨1, by decide +kernel, by decide, rfl⟩
theorem nd_Law_890 : nj_dc code 890 .iadd 891 := ⟨1, by decide +kernel, rfl⟩
theorem nd_Law_891 : nj_dc code 891 .iaload 892 := ⟨1, by decide +kernel, rfl⟩
theorem nd_Law_892 : nj_dc code 892 (.invokevirtual 113) 895 := ⟨3, by decide +kernel, rfl⟩
theorem nd_Law_895 : nj_cm code 895 .eq 1296 898 := ⟨401, by decide +kernel, rfl, rfl⟩
theorem nd_Law_898 : nj_ic code 898 0 899 := Or.inl ⟨0, by decide +kernel, by decide, rfl⟩
theorem nd_Law_899 : nj_dc code 899 .ireturn 900 := ⟨1, by decide +kernel, rfl⟩
theorem nd_Law_900 : nj_al code 900 1 901 := Or.inl ⟨1, by decide +kernel, rfl, rfl⟩
theorem nd_Law_901 : nj_al code 901 0 902 := Or.inl ⟨0, by decide +kernel, rfl, rfl⟩
theorem nd_Law_902 : nj_il code 902 3 903 := Or.inl ⟨3, by decide +kernel, rfl, rfl⟩
theorem nd_Law_903 : nj_ic code 903 1 904 := Or.inl ⟨1, by decide +kernel, by decide, rfl⟩
theorem nd_Law_904 : nj_dc code 904 .iadd 905 := ⟨1, by decide +kernel, rfl⟩
theorem nd_Law_905 : nj_dc code 905 .iaload 906 := ⟨1, by decide +kernel, rfl⟩
theorem nd_Law_906 : nj_dc code 906 (.invokevirtual 114) 909 := ⟨3, by decide +kernel, rfl⟩
theorem nd_Law_909 : nj_al code 909 2 910 := Or.inl ⟨2, by decide +kernel, rfl, rfl⟩
theorem nd_Law_910 : nj_al code 910 0 911 := Or.inl ⟨0, by decide +kernel, rfl, rfl⟩
theorem nd_Law_911 : nj_il code 911 3 912 := Or.inl ⟨3, by decide +kernel, rfl, rfl⟩
theorem nd_Law_912 : nj_ic code 912 1 913 := Or.inl ⟨1, by decide +kernel, by decide, rfl⟩
theorem nd_Law_913 : nj_dc code 913 .iadd 914 := ⟨1, by decide +kernel, rfl⟩
theorem nd_Law_914 : nj_dc code 914 .iaload 915 := ⟨1, by decide +kernel, rfl⟩
theorem nd_Law_915 : nj_dc code 915 (.invokevirtual 117) 918 := ⟨3, by decide +kernel, rfl⟩
theorem nd_Law_918 : nj_cm code 918 .eq 1296 921 := ⟨378, by decide +kernel, rfl, rfl⟩
theorem nd_Law_921 : nj_ic code 921 0 922 := Or.inl ⟨0, by decide +kernel, by decide, rfl⟩
theorem nd_Law_922 : nj_dc code 922 .ireturn 923 := ⟨1, by decide +kernel, rfl⟩
theorem nd_Law_923 : nj_al code 923 1 924 := Or.inl ⟨1, by decide +kernel, rfl, rfl⟩
theorem nd_Law_924 : nj_al code 924 0 925 := Or.inl ⟨0, by decide +kernel, rfl, rfl⟩
theorem nd_Law_925 : nj_il code 925 3 926 := Or.inl ⟨3, by decide +kernel, rfl, rfl⟩
theorem nd_Law_926 : nj_ic code 926 1 927 := Or.inl ⟨1, by decide +kernel, by decide, rfl⟩
theorem nd_Law_927 : nj_dc code 927 .iadd 928 := ⟨1, by decide +kernel, rfl⟩
theorem nd_Law_928 : nj_dc code 928 .iaload 929 := ⟨1, by decide +kernel, rfl⟩
theorem nd_Law_929 : nj_dc code 929 (.invokevirtual 118) 932 := ⟨3, by decide +kernel, rfl⟩
theorem nd_Law_932 : nj_al code 932 2 933 := Or.inl ⟨2, by decide +kernel, rfl, rfl⟩
theorem nd_Law_933 : nj_al code 933 0 934 := Or.inl ⟨0, by decide +kernel, rfl, rfl⟩
theorem nd_Law_934 : nj_il code 934 3 935 := Or.inl ⟨3, by decide +kernel, rfl, rfl⟩
theorem nd_Law_935 : nj_ic code 935 1 936 := Or.inl ⟨1, by decide +kernel, by decide, rfl⟩
theorem nd_Law_936 : nj_dc code 936 .iadd 937 := ⟨1, by decide +kernel, rfl⟩
theorem nd_Law_937 : nj_dc code 937 .iaload 938 := ⟨1, by decide +kernel, rfl⟩
theorem nd_Law_938 : nj_dc code 938 (.invokevirtual 121) 941 := ⟨3, by decide +kernel, rfl⟩
theorem nd_Law_941 : nj_cm code 941 .eq 1296 944 := ⟨355, by decide +kernel, rfl, rfl⟩
theorem nd_Law_944 : nj_ic code 944 0 945 := Or.inl ⟨0, by decide +kernel, by decide, rfl⟩
theorem nd_Law_945 : nj_dc code 945 .ireturn 946 := ⟨1, by decide +kernel, rfl⟩
theorem nd_Law_946 : nj_al code 946 1 947 := Or.inl ⟨1, by decide +kernel, rfl, rfl⟩
theorem nd_Law_947 : nj_dc code 947 (.invokevirtual 122) 950 := ⟨3, by decide +kernel, rfl⟩
theorem nd_Law_950 : nj_al code 950 2 951 := Or.inl ⟨2, by decide +kernel, rfl, rfl⟩
theorem nd_Law_951 : nj_dc code 951 (.invokevirtual 125) 954 := ⟨3, by decide +kernel, rfl⟩
theorem nd_Law_954 : nj_cm code 954 .eq 1296 957 := ⟨342, by decide +kernel, rfl, rfl⟩
theorem nd_Law_957 : nj_ic code 957 0 958 := Or.inl ⟨0, by decide +kernel, by decide, rfl⟩
theorem nd_Law_958 : nj_dc code 958 .ireturn 959 := ⟨1, by decide +kernel, rfl⟩
theorem nd_Law_959 : nj_al code 959 1 960 := Or.inl ⟨1, by decide +kernel, rfl, rfl⟩
theorem nd_Law_960 : nj_dc code 960 (.invokevirtual 126) 963 := ⟨3, by decide +kernel, rfl⟩
theorem nd_Law_963 : nj_al code 963 2 964 := Or.inl ⟨2, by decide +kernel, rfl, rfl⟩
theorem nd_Law_964 : nj_dc code 964 (.invokevirtual 129) 967 := ⟨3, by decide +kernel, rfl⟩
theorem nd_Law_967 : nj_cm code 967 .eq 1296 970 := ⟨329, by decide +kernel, rfl, rfl⟩
theorem nd_Law_970 : nj_ic code 970 0 971 := Or.inl ⟨0, by decide +kernel, by decide, rfl⟩
theorem nd_Law_971 : nj_dc code 971 .ireturn 972 := ⟨1, by decide +kernel, rfl⟩
theorem nd_Law_972 : nj_al code 972 1 973 := Or.inl ⟨1, by decide +kernel, rfl, rfl⟩
theorem nd_Law_973 : nj_al code 973 0 974 := Or.inl ⟨0, by decide +kernel, rfl, rfl⟩
theorem nd_Law_974 : nj_il code 974 3 975 := Or.inl ⟨3, by decide +kernel, rfl, rfl⟩
theorem nd_Law_975 : nj_ic code 975 1 976 := Or.inl ⟨1, by decide +kernel, by decide, rfl⟩
theorem nd_Law_976 : nj_dc code 976 .iadd 977 := ⟨1, by decide +kernel, rfl⟩
theorem nd_Law_977 : nj_dc code 977 .iaload 978 := ⟨1, by decide +kernel, rfl⟩
theorem nd_Law_978 : nj_dc code 978 (.invokevirtual 130) 981 := ⟨3, by decide +kernel, rfl⟩
theorem nd_Law_981 : nj_al code 981 2 982 := Or.inl ⟨2, by decide +kernel, rfl, rfl⟩
theorem nd_Law_982 : nj_al code 982 0 983 := Or.inl ⟨0, by decide +kernel, rfl, rfl⟩
theorem nd_Law_983 : nj_il code 983 3 984 := Or.inl ⟨3, by decide +kernel, rfl, rfl⟩
theorem nd_Law_984 : nj_ic code 984 1 985 := Or.inl ⟨1, by decide +kernel, by decide, rfl⟩
theorem nd_Law_985 : nj_dc code 985 .iadd 986 := ⟨1, by decide +kernel, rfl⟩
theorem nd_Law_986 : nj_dc code 986 .iaload 987 := ⟨1, by decide +kernel, rfl⟩
theorem nd_Law_987 : nj_dc code 987 (.invokevirtual 133) 990 := ⟨3, by decide +kernel, rfl⟩
theorem nd_Law_990 : nj_cm code 990 .eq 1296 993 := ⟨306, by decide +kernel, rfl, rfl⟩
theorem nd_Law_993 : nj_ic code 993 0 994 := Or.inl ⟨0, by decide +kernel, by decide, rfl⟩
theorem nd_Law_994 : nj_dc code 994 .ireturn 995 := ⟨1, by decide +kernel, rfl⟩
theorem nd_Law_995 : nj_al code 995 1 996 := Or.inl ⟨1, by decide +kernel, rfl, rfl⟩
theorem nd_Law_996 : nj_dc code 996 (.invokevirtual 134) 999 := ⟨3, by decide +kernel, rfl⟩
theorem nd_Law_999 : nj_al code 999 2 1000 := Or.inl ⟨2, by decide +kernel, rfl, rfl⟩
theorem nd_Law_1000 : nj_dc code 1000 (.invokevirtual 137) 1003 := ⟨3, by decide +kernel, rfl⟩
theorem nd_Law_1003 : nj_cm code 1003 .eq 1296 1006 := ⟨293, by decide +kernel, rfl, rfl⟩
theorem nd_Law_1006 : nj_ic code 1006 0 1007 := Or.inl ⟨0, by decide +kernel, by decide, rfl⟩
theorem nd_Law_1007 : nj_dc code 1007 .ireturn 1008 := ⟨1, by decide +kernel, rfl⟩
theorem nd_Law_1008 : nj_al code 1008 1 1009 := Or.inl ⟨1, by decide +kernel, rfl, rfl⟩
theorem nd_Law_1009 : nj_dc code 1009 (.invokevirtual 138) 1012 := ⟨3, by decide +kernel, rfl⟩
theorem nd_Law_1012 : nj_al code 1012 2 1013 := Or.inl ⟨2, by decide +kernel, rfl, rfl⟩
theorem nd_Law_1013 : nj_dc code 1013 (.invokevirtual 141) 1016 := ⟨3, by decide +kernel, rfl⟩
theorem nd_Law_1016 : nj_cm code 1016 .eq 1296 1019 := ⟨280, by decide +kernel, rfl, rfl⟩
theorem nd_Law_1019 : nj_ic code 1019 0 1020 := Or.inl ⟨0, by decide +kernel, by decide, rfl⟩
theorem nd_Law_1020 : nj_dc code 1020 .ireturn 1021 := ⟨1, by decide +kernel, rfl⟩
theorem nd_Law_1021 : nj_al code 1021 1 1022 := Or.inl ⟨1, by decide +kernel, rfl, rfl⟩
theorem nd_Law_1022 : nj_al code 1022 0 1023 := Or.inl ⟨0, by decide +kernel, rfl, rfl⟩
theorem nd_Law_1023 : nj_il code 1023 3 1024 := Or.inl ⟨3, by decide +kernel, rfl, rfl⟩
theorem nd_Law_1024 : nj_ic code 1024 1 1025 := Or.inl ⟨1, by decide +kernel, by decide, rfl⟩
theorem nd_Law_1025 : nj_dc code 1025 .iadd 1026 := ⟨1, by decide +kernel, rfl⟩
theorem nd_Law_1026 : nj_dc code 1026 .iaload 1027 := ⟨1, by decide +kernel, rfl⟩
theorem nd_Law_1027 : nj_dc code 1027 (.invokevirtual 142) 1030 := ⟨3, by decide +kernel, rfl⟩
theorem nd_Law_1030 : nj_al code 1030 2 1031 := Or.inl ⟨2, by decide +kernel, rfl, rfl⟩
theorem nd_Law_1031 : nj_al code 1031 0 1032 := Or.inl ⟨0, by decide +kernel, rfl, rfl⟩
theorem nd_Law_1032 : nj_il code 1032 3 1033 := Or.inl ⟨3, by decide +kernel, rfl, rfl⟩
theorem nd_Law_1033 : nj_ic code 1033 1 1034 := Or.inl ⟨1, by decide +kernel, by decide, rfl⟩
theorem nd_Law_1034 : nj_dc code 1034 .iadd 1035 := ⟨1, by decide +kernel, rfl⟩
theorem nd_Law_1035 : nj_dc code 1035 .iaload 1036 := ⟨1, by decide +kernel, rfl⟩
theorem nd_Law_1036 : nj_dc code 1036 (.invokevirtual 145) 1039 := ⟨3, by decide +kernel, rfl⟩
theorem nd_Law_1039 : nj_cm code 1039 .eq 1296 1042 := ⟨257, by decide +kernel, rfl, rfl⟩
theorem nd_Law_1042 : nj_ic code 1042 0 1043 := Or.inl ⟨0, by decide +kernel, by decide, rfl⟩
theorem nd_Law_1043 : nj_dc code 1043 .ireturn 1044 := ⟨1, by decide +kernel, rfl⟩
theorem nd_Law_1044 : nj_al code 1044 1 1045 := Or.inl ⟨1, by decide +kernel, rfl, rfl⟩
theorem nd_Law_1045 : nj_al code 1045 0 1046 := Or.inl ⟨0, by decide +kernel, rfl, rfl⟩
theorem nd_Law_1046 : nj_il code 1046 3 1047 := Or.inl ⟨3, by decide +kernel, rfl, rfl⟩
theorem nd_Law_1047 : nj_ic code 1047 1 1048 := Or.inl ⟨1, by decide +kernel, by decide, rfl⟩
theorem nd_Law_1048 : nj_dc code 1048 .iadd 1049 := ⟨1, by decide +kernel, rfl⟩
theorem nd_Law_1049 : nj_dc code 1049 .iaload 1050 := ⟨1, by decide +kernel, rfl⟩
theorem nd_Law_1050 : nj_dc code 1050 (.invokevirtual 146) 1053 := ⟨3, by decide +kernel, rfl⟩
theorem nd_Law_1053 : nj_al code 1053 2 1054 := Or.inl ⟨2, by decide +kernel, rfl, rfl⟩
theorem nd_Law_1054 : nj_al code 1054 0 1055 := Or.inl ⟨0, by decide +kernel, rfl, rfl⟩
theorem nd_Law_1055 : nj_il code 1055 3 1056 := Or.inl ⟨3, by decide +kernel, rfl, rfl⟩
theorem nd_Law_1056 : nj_ic code 1056 1 1057 := Or.inl ⟨1, by decide +kernel, by decide, rfl⟩
theorem nd_Law_1057 : nj_dc code 1057 .iadd 1058 := ⟨1, by decide +kernel, rfl⟩
theorem nd_Law_1058 : nj_dc code 1058 .iaload 1059 := ⟨1, by decide +kernel, rfl⟩
theorem nd_Law_1059 : nj_dc code 1059 (.invokevirtual 149) 1062 := ⟨3, by decide +kernel, rfl⟩
theorem nd_Law_1062 : nj_cm code 1062 .eq 1296 1065 := ⟨234, by decide +kernel, rfl, rfl⟩
theorem nd_Law_1065 : nj_ic code 1065 0 1066 := Or.inl ⟨0, by decide +kernel, by decide, rfl⟩
theorem nd_Law_1066 : nj_dc code 1066 .ireturn 1067 := ⟨1, by decide +kernel, rfl⟩
theorem nd_Law_1067 : nj_al code 1067 1 1068 := Or.inl ⟨1, by decide +kernel, rfl, rfl⟩
theorem nd_Law_1068 : nj_dc code 1068 (.invokevirtual 150) 1071 := ⟨3, by decide +kernel, rfl⟩
theorem nd_Law_1071 : nj_al code 1071 2 1072 := Or.inl ⟨2, by decide +kernel, rfl, rfl⟩
theorem nd_Law_1072 : nj_dc code 1072 (.invokevirtual 153) 1075 := ⟨3, by decide +kernel, rfl⟩
theorem nd_Law_1075 : nj_cm code 1075 .eq 1296 1078 := ⟨221, by decide +kernel, rfl, rfl⟩
theorem nd_Law_1078 : nj_ic code 1078 0 1079 := Or.inl ⟨0, by decide +kernel, by decide, rfl⟩
theorem nd_Law_1079 : nj_dc code 1079 .ireturn 1080 := ⟨1, by decide +kernel, rfl⟩
theorem nd_Law_1080 : nj_al code 1080 1 1081 := Or.inl ⟨1, by decide +kernel, rfl, rfl⟩
theorem nd_Law_1081 : nj_al code 1081 0 1082 := Or.inl ⟨0, by decide +kernel, rfl, rfl⟩
theorem nd_Law_1082 : nj_il code 1082 3 1083 := Or.inl ⟨3, by decide +kernel, rfl, rfl⟩
theorem nd_Law_1083 : nj_ic code 1083 1 1084 := Or.inl ⟨1, by decide +kernel, by decide, rfl⟩
theorem nd_Law_1084 : nj_dc code 1084 .iadd 1085 := ⟨1, by decide +kernel, rfl⟩
theorem nd_Law_1085 : nj_dc code 1085 .iaload 1086 := ⟨1, by decide +kernel, rfl⟩
theorem nd_Law_1086 : nj_dc code 1086 (.invokevirtual 154) 1089 := ⟨3, by decide +kernel, rfl⟩
theorem nd_Law_1089 : nj_al code 1089 2 1090 := Or.inl ⟨2, by decide +kernel, rfl, rfl⟩
theorem nd_Law_1090 : nj_al code 1090 0 1091 := Or.inl ⟨0, by decide +kernel, rfl, rfl⟩
theorem nd_Law_1091 : nj_il code 1091 3 1092 := Or.inl ⟨3, by decide +kernel, rfl, rfl⟩
theorem nd_Law_1092 : nj_ic code 1092 1 1093 := Or.inl ⟨1, by decide +kernel, by decide, rfl⟩
theorem nd_Law_1093 : nj_dc code 1093 .iadd 1094 := ⟨1, by decide +kernel, rfl⟩
theorem nd_Law_1094 : nj_dc code 1094 .iaload 1095 := ⟨1, by decide +kernel, rfl⟩
theorem nd_Law_1095 : nj_dc code 1095 (.invokevirtual 157) 1098 := ⟨3, by decide +kernel, rfl⟩
theorem nd_Law_1098 : nj_cm code 1098 .eq 1296 1101 := ⟨198, by decide +kernel, rfl, rfl⟩
theorem nd_Law_1101 : nj_ic code 1101 0 1102 := Or.inl ⟨0, by decide +kernel, by decide, rfl⟩
theorem nd_Law_1102 : nj_dc code 1102 .ireturn 1103 := ⟨1, by decide +kernel, rfl⟩
theorem nd_Law_1103 : nj_al code 1103 1 1104 := Or.inl ⟨1, by decide +kernel, rfl, rfl⟩
theorem nd_Law_1104 : nj_al code 1104 0 1105 := Or.inl ⟨0, by decide +kernel, rfl, rfl⟩
theorem nd_Law_1105 : nj_il code 1105 3 1106 := Or.inl ⟨3, by decide +kernel, rfl, rfl⟩
theorem nd_Law_1106 : nj_ic code 1106 1 1107 := Or.inl ⟨1, by decide +kernel, by decide, rfl⟩
theorem nd_Law_1107 : nj_dc code 1107 .iadd 1108 := ⟨1, by decide +kernel, rfl⟩
theorem nd_Law_1108 : nj_dc code 1108 .iaload 1109 := ⟨1, by decide +kernel, rfl⟩
theorem nd_Law_1109 : nj_dc code 1109 (.invokevirtual 158) 1112 := ⟨3, by decide +kernel, rfl⟩
theorem nd_Law_1112 : nj_al code 1112 2 1113 := Or.inl ⟨2, by decide +kernel, rfl, rfl⟩
theorem nd_Law_1113 : nj_al code 1113 0 1114 := Or.inl ⟨0, by decide +kernel, rfl, rfl⟩
theorem nd_Law_1114 : nj_il code 1114 3 1115 := Or.inl ⟨3, by decide +kernel, rfl, rfl⟩
theorem nd_Law_1115 : nj_ic code 1115 1 1116 := Or.inl ⟨1, by decide +kernel, by decide, rfl⟩
theorem nd_Law_1116 : nj_dc code 1116 .iadd 1117 := ⟨1, by decide +kernel, rfl⟩
theorem nd_Law_1117 : nj_dc code 1117 .iaload 1118 := ⟨1, by decide +kernel, rfl⟩
theorem nd_Law_1118 : nj_dc code 1118 (.invokevirtual 161) 1121 := ⟨3, by decide +kernel, rfl⟩
theorem nd_Law_1121 : nj_cm code 1121 .eq 1296 1124 := ⟨175, by decide +kernel, rfl, rfl⟩
theorem nd_Law_1124 : nj_ic code 1124 0 1125 := Or.inl ⟨0, by decide +kernel, by decide, rfl⟩
theorem nd_Law_1125 : nj_dc code 1125 .ireturn 1126 := ⟨1, by decide +kernel, rfl⟩
theorem nd_Law_1126 : nj_al code 1126 1 1127 := Or.inl ⟨1, by decide +kernel, rfl, rfl⟩
theorem nd_Law_1127 : nj_al code 1127 0 1128 := Or.inl ⟨0, by decide +kernel, rfl, rfl⟩
theorem nd_Law_1128 : nj_il code 1128 3 1129 := Or.inl ⟨3, by decide +kernel, rfl, rfl⟩
theorem nd_Law_1129 : nj_ic code 1129 1 1130 := Or.inl ⟨1, by decide +kernel, by decide, rfl⟩
theorem nd_Law_1130 : nj_dc code 1130 .iadd 1131 := ⟨1, by decide +kernel, rfl⟩
theorem nd_Law_1131 : nj_dc code 1131 .iaload 1132 := ⟨1, by decide +kernel, rfl⟩
theorem nd_Law_1132 : nj_dc code 1132 (.invokevirtual 162) 1135 := ⟨3, by decide +kernel, rfl⟩
theorem nd_Law_1135 : nj_al code 1135 2 1136 := Or.inl ⟨2, by decide +kernel, rfl, rfl⟩
theorem nd_Law_1136 : nj_al code 1136 0 1137 := Or.inl ⟨0, by decide +kernel, rfl, rfl⟩
theorem nd_Law_1137 : nj_il code 1137 3 1138 := Or.inl ⟨3, by decide +kernel, rfl, rfl⟩
theorem nd_Law_1138 : nj_ic code 1138 1 1139 := Or.inl ⟨1, by decide +kernel, by decide, rfl⟩
theorem nd_Law_1139 : nj_dc code 1139 .iadd 1140 := ⟨1, by decide +kernel, rfl⟩
theorem nd_Law_1140 : nj_dc code 1140 .iaload 1141 := ⟨1, by decide +kernel, rfl⟩
theorem nd_Law_1141 : nj_dc code 1141 (.invokevirtual 165) 1144 := ⟨3, by decide +kernel, rfl⟩
theorem nd_Law_1144 : nj_cm code 1144 .eq 1296 1147 := ⟨152, by decide +kernel, rfl, rfl⟩
theorem nd_Law_1147 : nj_ic code 1147 0 1148 := Or.inl ⟨0, by decide +kernel, by decide, rfl⟩
theorem nd_Law_1148 : nj_dc code 1148 .ireturn 1149 := ⟨1, by decide +kernel, rfl⟩
theorem nd_Law_1149 : nj_al code 1149 1 1150 := Or.inl ⟨1, by decide +kernel, rfl, rfl⟩
theorem nd_Law_1150 : nj_al code 1150 0 1151 := Or.inl ⟨0, by decide +kernel, rfl, rfl⟩
theorem nd_Law_1151 : nj_il code 1151 3 1152 := Or.inl ⟨3, by decide +kernel, rfl, rfl⟩
theorem nd_Law_1152 : nj_ic code 1152 1 1153 := Or.inl ⟨1, by decide +kernel, by decide, rfl⟩
theorem nd_Law_1153 : nj_dc code 1153 .iadd 1154 := ⟨1, by decide +kernel, rfl⟩
theorem nd_Law_1154 : nj_dc code 1154 .iaload 1155 := ⟨1, by decide +kernel, rfl⟩
theorem nd_Law_1155 : nj_al code 1155 0 1156 := Or.inl ⟨0, by decide +kernel, rfl, rfl⟩
theorem nd_Law_1156 : nj_il code 1156 3 1157 := Or.inl ⟨3, by decide +kernel, rfl, rfl⟩
theorem nd_Law_1157 : nj_ic code 1157 2 1158 := Or.inl ⟨2, by decide +kernel, by decide, rfl⟩
theorem nd_Law_1158 : nj_dc code 1158 .iadd 1159 := ⟨1, by decide +kernel, rfl⟩
theorem nd_Law_1159 : nj_dc code 1159 .iaload 1160 := ⟨1, by decide +kernel, rfl⟩
theorem nd_Law_1160 : nj_dc code 1160 (.invokevirtual 166) 1163 := ⟨3, by decide +kernel, rfl⟩
theorem nd_Law_1163 : nj_al code 1163 2 1164 := Or.inl ⟨2, by decide +kernel, rfl, rfl⟩
theorem nd_Law_1164 : nj_al code 1164 0 1165 := Or.inl ⟨0, by decide +kernel, rfl, rfl⟩
theorem nd_Law_1165 : nj_il code 1165 3 1166 := Or.inl ⟨3, by decide +kernel, rfl, rfl⟩
theorem nd_Law_1166 : nj_ic code 1166 1 1167 := Or.inl ⟨1, by decide +kernel, by decide, rfl⟩
theorem nd_Law_1167 : nj_dc code 1167 .iadd 1168 := ⟨1, by decide +kernel, rfl⟩
theorem nd_Law_1168 : nj_dc code 1168 .iaload 1169 := ⟨1, by decide +kernel, rfl⟩
theorem nd_Law_1169 : nj_al code 1169 0 1170 := Or.inl ⟨0, by decide +kernel, rfl, rfl⟩
theorem nd_Law_1170 : nj_il code 1170 3 1171 := Or.inl ⟨3, by decide +kernel, rfl, rfl⟩
theorem nd_Law_1171 : nj_ic code 1171 2 1172 := Or.inl ⟨2, by decide +kernel, by decide, rfl⟩
theorem nd_Law_1172 : nj_dc code 1172 .iadd 1173 := ⟨1, by decide +kernel, rfl⟩
theorem nd_Law_1173 : nj_dc code 1173 .iaload 1174 := ⟨1, by decide +kernel, rfl⟩
theorem nd_Law_1174 : nj_dc code 1174 (.invokevirtual 169) 1177 := ⟨3, by decide +kernel, rfl⟩
theorem nd_Law_1177 : nj_cm code 1177 .eq 1296 1180 := ⟨119, by decide +kernel, rfl, rfl⟩
theorem nd_Law_1180 : nj_ic code 1180 0 1181 := Or.inl ⟨0, by decide +kernel, by decide, rfl⟩
theorem nd_Law_1181 : nj_dc code 1181 .ireturn 1182 := ⟨1, by decide +kernel, rfl⟩
theorem nd_Law_1182 : nj_al code 1182 1 1183 := Or.inl ⟨1, by decide +kernel, rfl, rfl⟩
theorem nd_Law_1183 : nj_dc code 1183 (.invokevirtual 170) 1186 := ⟨3, by decide +kernel, rfl⟩
theorem nd_Law_1186 : nj_al code 1186 2 1187 := Or.inl ⟨2, by decide +kernel, rfl, rfl⟩
theorem nd_Law_1187 : nj_dc code 1187 (.invokevirtual 173) 1190 := ⟨3, by decide +kernel, rfl⟩
theorem nd_Law_1190 : nj_cm code 1190 .eq 1296 1193 := ⟨106, by decide +kernel, rfl, rfl⟩
theorem nd_Law_1193 : nj_ic code 1193 0 1194 := Or.inl ⟨0, by decide +kernel, by decide, rfl⟩
theorem nd_Law_1194 : nj_dc code 1194 .ireturn 1195 := ⟨1, by decide +kernel, rfl⟩
theorem nd_Law_1195 : nj_al code 1195 1 1196 := Or.inl ⟨1, by decide +kernel, rfl, rfl⟩
theorem nd_Law_1196 : nj_dc code 1196 (.invokevirtual 174) 1199 := ⟨3, by decide +kernel, rfl⟩
theorem nd_Law_1199 : nj_al code 1199 2 1200 := Or.inl ⟨2, by decide +kernel, rfl, rfl⟩
theorem nd_Law_1200 : nj_dc code 1200 (.invokevirtual 178) 1203 := ⟨3, by decide +kernel, rfl⟩
theorem nd_Law_1203 : nj_dc code 1203 .lcmp 1204 := ⟨1, by decide +kernel, rfl⟩
theorem nd_Law_1204 : nj_if code 1204 .eq 1296 1207 := ⟨92, by decide +kernel, rfl, rfl⟩
theorem nd_Law_1207 : nj_ic code 1207 0 1208 := Or.inl ⟨0, by decide +kernel, by decide, rfl⟩
theorem nd_Law_1208 : nj_dc code 1208 .ireturn 1209 := ⟨1, by decide +kernel, rfl⟩
theorem nd_Law_1209 : nj_al code 1209 1 1210 := Or.inl ⟨1, by decide +kernel, rfl, rfl⟩
theorem nd_Law_1210 : nj_dc code 1210 (.invokevirtual 179) 1213 := ⟨3, by decide +kernel, rfl⟩
theorem nd_Law_1213 : nj_al code 1213 2 1214 := Or.inl ⟨2, by decide +kernel, rfl, rfl⟩
theorem nd_Law_1214 : nj_dc code 1214 (.invokevirtual 182) 1217 := ⟨3, by decide +kernel, rfl⟩
theorem nd_Law_1217 : nj_dc code 1217 .lcmp 1218 := ⟨1, by decide +kernel, rfl⟩
theorem nd_Law_1218 : nj_if code 1218 .eq 1296 1221 := ⟨78, by decide +kernel, rfl, rfl⟩
theorem nd_Law_1221 : nj_ic code 1221 0 1222 := Or.inl ⟨0, by decide +kernel, by decide, rfl⟩
theorem nd_Law_1222 : nj_dc code 1222 .ireturn 1223 := ⟨1, by decide +kernel, rfl⟩
theorem nd_Law_1223 : nj_al code 1223 1 1224 := Or.inl ⟨1, by decide +kernel, rfl, rfl⟩
theorem nd_Law_1224 : nj_al code 1224 0 1225 := Or.inl ⟨0, by decide +kernel, rfl, rfl⟩
theorem nd_Law_1225 : nj_il code 1225 3 1226 := Or.inl ⟨3, by decide +kernel, rfl, rfl⟩
theorem nd_Law_1226 : nj_ic code 1226 1 1227 := Or.inl ⟨1, by decide +kernel, by decide, rfl⟩
theorem nd_Law_1227 : nj_dc code 1227 .iadd 1228 := ⟨1, by decide +kernel, rfl⟩
theorem nd_Law_1228 : nj_dc code 1228 .iaload 1229 := ⟨1, by decide +kernel, rfl⟩
theorem nd_Law_1229 : nj_dc code 1229 (.invokevirtual 183) 1232 := ⟨3, by decide +kernel, rfl⟩
theorem nd_Law_1232 : nj_al code 1232 2 1233 := Or.inl ⟨2, by decide +kernel, rfl, rfl⟩
theorem nd_Law_1233 : nj_al code 1233 0 1234 := Or.inl ⟨0, by decide +kernel, rfl, rfl⟩
theorem nd_Law_1234 : nj_il code 1234 3 1235 := Or.inl ⟨3, by decide +kernel, rfl, rfl⟩
theorem nd_Law_1235 : nj_ic code 1235 1 1236 := Or.inl ⟨1, by decide +kernel, by decide, rfl⟩
theorem nd_Law_1236 : nj_dc code 1236 .iadd 1237 := ⟨1, by decide +kernel, rfl⟩
theorem nd_Law_1237 : nj_dc code 1237 .iaload 1238 := ⟨1, by decide +kernel, rfl⟩
theorem nd_Law_1238 : nj_dc code 1238 (.invokevirtual 186) 1241 := ⟨3, by decide +kernel, rfl⟩
theorem nd_Law_1241 : nj_cm code 1241 .eq 1296 1244 := ⟨55, by decide +kernel, rfl, rfl⟩
theorem nd_Law_1244 : nj_ic code 1244 0 1245 := Or.inl ⟨0, by decide +kernel, by decide, rfl⟩
theorem nd_Law_1245 : nj_dc code 1245 .ireturn 1246 := ⟨1, by decide +kernel, rfl⟩
theorem nd_Law_1246 : nj_al code 1246 1 1247 := Or.inl ⟨1, by decide +kernel, rfl, rfl⟩
theorem nd_Law_1247 : nj_dc code 1247 (.invokevirtual 187) 1250 := ⟨3, by decide +kernel, rfl⟩
theorem nd_Law_1250 : nj_al code 1250 2 1251 := Or.inl ⟨2, by decide +kernel, rfl, rfl⟩
theorem nd_Law_1251 : nj_dc code 1251 (.invokevirtual 190) 1254 := ⟨3, by decide +kernel, rfl⟩
theorem nd_Law_1254 : nj_cm code 1254 .eq 1296 1257 := ⟨42, by decide +kernel, rfl, rfl⟩
theorem nd_Law_1257 : nj_ic code 1257 0 1258 := Or.inl ⟨0, by decide +kernel, by decide, rfl⟩
theorem nd_Law_1258 : nj_dc code 1258 .ireturn 1259 := ⟨1, by decide +kernel, rfl⟩
theorem nd_Law_1259 : nj_al code 1259 1 1260 := Or.inl ⟨1, by decide +kernel, rfl, rfl⟩
theorem nd_Law_1260 : nj_al code 1260 0 1261 := Or.inl ⟨0, by decide +kernel, rfl, rfl⟩
theorem nd_Law_1261 : nj_il code 1261 3 1262 := Or.inl ⟨3, by decide +kernel, rfl, rfl⟩
theorem nd_Law_1262 : nj_ic code 1262 1 1263 := Or.inl ⟨1, by decide +kernel, by decide, rfl⟩
theorem nd_Law_1263 : nj_dc code 1263 .iadd 1264 := ⟨1, by decide +kernel, rfl⟩
theorem nd_Law_1264 : nj_dc code 1264 .iaload 1265 := ⟨1, by decide +kernel, rfl⟩
theorem nd_Law_1265 : nj_dc code 1265 (.invokevirtual 191) 1268 := ⟨3, by decide +kernel, rfl⟩
theorem nd_Law_1268 : nj_al code 1268 2 1269 := Or.inl ⟨2, by decide +kernel, rfl, rfl⟩
theorem nd_Law_1269 : nj_al code 1269 0 1270 := Or.inl ⟨0, by decide +kernel, rfl, rfl⟩
theorem nd_Law_1270 : nj_il code 1270 3 1271 := Or.inl ⟨3, by decide +kernel, rfl, rfl⟩
theorem nd_Law_1271 : nj_ic code 1271 1 1272 := Or.inl ⟨1, by decide +kernel, by decide, rfl⟩
theorem nd_Law_1272 : nj_dc code 1272 .iadd 1273 := ⟨1, by decide +kernel, rfl⟩
theorem nd_Law_1273 : nj_dc code 1273 .iaload 1274 := ⟨1, by decide +kernel, rfl⟩
theorem nd_Law_1274 : nj_dc code 1274 (.invokevirtual 194) 1277 := ⟨3, by decide +kernel, rfl⟩
theorem nd_Law_1277 : nj_cm code 1277 .eq 1296 1280 := ⟨19, by decide +kernel, rfl, rfl⟩
theorem nd_Law_1280 : nj_ic code 1280 0 1281 := Or.inl ⟨0, by decide +kernel, by decide, rfl⟩
theorem nd_Law_1281 : nj_dc code 1281 .ireturn 1282 := ⟨1, by decide +kernel, rfl⟩
theorem nd_Law_1282 : nj_al code 1282 1 1283 := Or.inl ⟨1, by decide +kernel, rfl, rfl⟩
theorem nd_Law_1283 : nj_dc code 1283 (.invokevirtual 195) 1286 := ⟨3, by decide +kernel, rfl⟩
theorem nd_Law_1286 : nj_al code 1286 2 1287 := Or.inl ⟨2, by decide +kernel, rfl, rfl⟩
theorem nd_Law_1287 : nj_dc code 1287 (.invokevirtual 198) 1290 := ⟨3, by decide +kernel, rfl⟩
theorem nd_Law_1290 : nj_dc code 1290 .lcmp 1291 := ⟨1, by decide +kernel, rfl⟩
theorem nd_Law_1291 : nj_if code 1291 .eq 1296 1294 := ⟨5, by decide +kernel, rfl, rfl⟩
theorem nd_Law_1294 : nj_ic code 1294 0 1295 := Or.inl ⟨0, by decide +kernel, by decide, rfl⟩
theorem nd_Law_1295 : nj_dc code 1295 .ireturn 1296 := ⟨1, by decide +kernel, rfl⟩
theorem nd_Law_1296 : nj_dc code 1296 (.iinc 3 6) 1299 := ⟨3, by decide +kernel, rfl⟩
theorem nd_Law_1299 : nj_go code 1299 18 := ⟨-1281, by decide +kernel, rfl⟩
theorem nd_Law_1302 : nj_ic code 1302 1 1303 := Or.inl ⟨1, by decide +kernel, by decide, rfl⟩
theorem nd_Law_1303 : nj_dc code 1303 .ireturn 1304 := ⟨1, by decide +kernel, rfl⟩
