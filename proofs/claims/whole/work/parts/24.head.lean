def nj_c0 : CluS := ((fun _ => 0), (fun _ => 0), (fun _ => 0), (fun _ => 0), 0, 0, 0, 0, 0)
def nj_s0 : NjS := (fun _ => ((-1 : Int32), (fun _ => 0)), fun _ => ((-1 : Int32), (fun _ => 0)), nj_c0, nj_c0, fun _ => nj_c0, (0, 0), (fun _ => 0), (fun _ => 0), 0, 0, 0, 1)
def nj_m0 : MdS := ((upd (upd (upd (fun _ => 0) 576 (-1 : Int32)) 1152 (-1 : Int32)) 1728 (-1 : Int32)), 0, (fun _ => 0), (upd (upd (upd (upd (upd (upd (fun _ => 0) 0 (-1 : Int32)) 1 (-1 : Int32)) 2 (-1 : Int32)) 3 (-1 : Int32)) 4 (-1 : Int32)) 5 (-1 : Int32)), (fun _ => 0), (upd (upd (upd (upd (fun _ => 0) 0 (-1 : Int32)) 1 (-1 : Int32)) 2 (-1 : Int32)) 3 (-1 : Int32)), (fun _ => 0), 0, 0, (1 : Int64), 0, (fun _ => 0), 0, 0, 0, 0, (fun _ => 0), 0, (fun _ => 0), 0, (fun _ => 0), (fun _ => 0), (fun _ => 0))
def nj_perm : List Nat := [0, 1, 18, 19, 20, 21, 22, 23, 24, 25, 26, 27, 28, 29, 2, 30, 31, 32, 33, 34, 35, 36, 37, 3, 4, 5, 6, 7, 8, 9, 10, 11, 12, 13, 38, 39, 40, 41, 42, 43, 44, 45, 46, 47, 48, 49, 50, 51, 52, 14, 15, 16, 17, 53, 54, 55, 56, 57, 58, 59, 60, 61, 62, 63, 64, 65]
theorem nj_c1 {hpL hp : List va_E} {is : List Nat} {j k : Nat} {e e' c : va_E} (hc : hpL[j]? = some c) (h : hpL[j]? = some e) (hk : is[j]? = some k) (he : hp[k]? = some e') (hq : nj_eqv e' (nj_re is c)) : ∃ (k : Nat) (e' : va_E), is[j]? = some k ∧ hp[k]? = some e' ∧ nj_eqv e' (nj_re is e) := by
  have h0 := Option.some.inj (hc.symm.trans h)
  subst h0
  exact ⟨k, e', hk, he, hq⟩
theorem nj_res_mid {hp es : List va_E} {is : List Nat} (pre a : List va_E) (h0 : hp = pre ++ a) (h1 : is = List.range' pre.length a.length) (h2 : es.length = a.length) : nj_patch hp is es = pre ++ es := by
  subst h0; subst h1
  have h9 := nj_patch_mid a es pre [] h2
  simpa using h9
abbrev nj_hpN : List va_E := [.inr (5, [.ref 1, .ref 2, .ref 3, .ref 8, .ref 13, .ref 14, .ref 15, .ref 17, .int (0 : Int32), .int (0 : Int32), .long (0 : Int64), .long (1 : Int64)]), .inl (3, 6, .inr (.inr (.inr (.inr (fun k => ((va_up (va_up (va_up (va_up (va_up (va_up (fun _ => none) 0 (some 18)) 1 (some 20)) 2 (some 22)) 3 (some 24)) 4 (some 26)) 5 (some 28)) k).map (nj_rn (nj_is2 [0] 1 52))))))), .inl (4, 4, .inr (.inr (.inr (.inr (fun k => ((va_up (va_up (va_up (va_up (fun _ => none) 0 (some 30)) 1 (some 32)) 2 (some 34)) 3 (some 36)) k).map (nj_rn (nj_is2 [0] 1 52))))))), .inr (0, [.ref 4, .ref 5, .ref 6, .ref 7, .int (0 : Int32), .int (0 : Int32), .int (0 : Int32), .int (0 : Int32), .int (0 : Int32)]), .inl (0, 6, .inl (fun _ => 0)), .inl (0, 6, .inl (fun _ => 0)), .inl (0, 6, .inl (fun _ => 0)), .inl (0, 40, .inl (fun _ => 0)), .inr (0, [.ref 9, .ref 10, .ref 11, .ref 12, .int (0 : Int32), .int (0 : Int32), .int (0 : Int32), .int (0 : Int32), .int (0 : Int32)]), .inl (0, 6, .inl (fun _ => 0)), .inl (0, 6, .inl (fun _ => 0)), .inl (0, 6, .inl (fun _ => 0)), .inl (0, 40, .inl (fun _ => 0)), .inl (5, 3, .inr (.inr (.inr (.inr (fun k => ((va_up (va_up (va_up (fun _ => none) 0 (some 38)) 1 (some 43)) 2 (some 48)) k).map (nj_rn (nj_is2 [0] 1 52))))))), .inr (2, [.int (0 : Int32), .int (0 : Int32)]), .inr (1, [.ref 16]), .inl (0, 64, .inl (fun _ => 0)), .inl (0, 6, .inl (fun _ => 0)), .inr (3, [.ref 19, .int (-1 : Int32)]), .inl (0, 40, .inl (fun _ => 0)), .inr (3, [.ref 21, .int (-1 : Int32)]), .inl (0, 40, .inl (fun _ => 0)), .inr (3, [.ref 23, .int (-1 : Int32)]), .inl (0, 40, .inl (fun _ => 0)), .inr (3, [.ref 25, .int (-1 : Int32)]), .inl (0, 40, .inl (fun _ => 0)), .inr (3, [.ref 27, .int (-1 : Int32)]), .inl (0, 40, .inl (fun _ => 0)), .inr (3, [.ref 29, .int (-1 : Int32)]), .inl (0, 40, .inl (fun _ => 0)), .inr (4, [.ref 31, .int (-1 : Int32)]), .inl (2, 60, .inl (fun _ => 0)), .inr (4, [.ref 33, .int (-1 : Int32)]), .inl (2, 60, .inl (fun _ => 0)), .inr (4, [.ref 35, .int (-1 : Int32)]), .inl (2, 60, .inl (fun _ => 0)), .inr (4, [.ref 37, .int (-1 : Int32)]), .inl (2, 60, .inl (fun _ => 0)), .inr (0, [.ref 39, .ref 40, .ref 41, .ref 42, .int (0 : Int32), .int (0 : Int32), .int (0 : Int32), .int (0 : Int32), .int (0 : Int32)]), .inl (0, 6, .inl (fun _ => 0)), .inl (0, 6, .inl (fun _ => 0)), .inl (0, 6, .inl (fun _ => 0)), .inl (0, 40, .inl (fun _ => 0)), .inr (0, [.ref 44, .ref 45, .ref 46, .ref 47, .int (0 : Int32), .int (0 : Int32), .int (0 : Int32), .int (0 : Int32), .int (0 : Int32)]), .inl (0, 6, .inl (fun _ => 0)), .inl (0, 6, .inl (fun _ => 0)), .inl (0, 6, .inl (fun _ => 0)), .inl (0, 40, .inl (fun _ => 0)), .inr (0, [.ref 49, .ref 50, .ref 51, .ref 52, .int (0 : Int32), .int (0 : Int32), .int (0 : Int32), .int (0 : Int32), .int (0 : Int32)]), .inl (0, 6, .inl (fun _ => 0)), .inl (0, 6, .inl (fun _ => 0)), .inl (0, 6, .inl (fun _ => 0)), .inl (0, 40, .inl (fun _ => 0))]
abbrev nj_hpA : List va_E := [.inr (5, [.ref 1, .ref 2, .ref 3, .ref 8, .ref 13, .ref 14, .ref 15, .ref 17, .int (0 : Int32), .int (0 : Int32), .long (0 : Int64), .long (1 : Int64)]), .inl (3, 6, .inr (.inr (.inr (.inr (fun k => ((va_up (va_up (va_up (va_up (va_up (va_up (fun _ => none) 0 (some 18)) 1 (some 20)) 2 (some 22)) 3 (some 24)) 4 (some 26)) 5 (some 28)) k).map (nj_rn (nj_is2 [0] 1 52))))))), .inl (4, 4, .inr (.inr (.inr (.inr (fun k => ((va_up (va_up (va_up (va_up (fun _ => none) 0 (some 30)) 1 (some 32)) 2 (some 34)) 3 (some 36)) k).map (nj_rn (nj_is2 [0] 1 52))))))), .inr (0, [.ref 4, .ref 5, .ref 6, .ref 7, .int (0 : Int32), .int (0 : Int32), .int (0 : Int32), .int (0 : Int32), .int (0 : Int32)]), .inl (0, 6, .inl (fun _ => 0)), .inl (0, 6, .inl (fun _ => 0)), .inl (0, 6, .inl (fun _ => 0)), .inl (0, 40, .inl (fun _ => 0)), .inr (0, [.ref 9, .ref 10, .ref 11, .ref 12, .int (0 : Int32), .int (0 : Int32), .int (0 : Int32), .int (0 : Int32), .int (0 : Int32)]), .inl (0, 6, .inl (fun _ => 0)), .inl (0, 6, .inl (fun _ => 0)), .inl (0, 6, .inl (fun _ => 0)), .inl (0, 40, .inl (fun _ => 0)), .inl (5, 3, .inr (.inr (.inr (.inr (fun k => ((va_up (va_up (va_up (fun _ => none) 0 (some 38)) 1 (some 43)) 2 (some 48)) k).map (nj_rn (nj_is2 [0] 1 52))))))), .inr (2, [.int (0 : Int32), .int (0 : Int32)]), .inr (1, [.ref 16]), .inl (0, 64, .inl (fun _ => 0)), .inl (0, 6, .inl (fun _ => 0)), .inr (3, [.ref 19, .int (-1 : Int32)]), .inl (0, 40, .inl (fun _ => 0)), .inr (3, [.ref 21, .int (-1 : Int32)]), .inl (0, 40, .inl (fun _ => 0)), .inr (3, [.ref 23, .int (-1 : Int32)]), .inl (0, 40, .inl (fun _ => 0)), .inr (3, [.ref 25, .int (-1 : Int32)]), .inl (0, 40, .inl (fun _ => 0)), .inr (3, [.ref 27, .int (-1 : Int32)]), .inl (0, 40, .inl (fun _ => 0)), .inr (3, [.ref 29, .int (-1 : Int32)]), .inl (0, 40, .inl (fun _ => 0)), .inr (4, [.ref 31, .int (-1 : Int32)]), .inl (2, 60, .inl (fun _ => 0)), .inr (4, [.ref 33, .int (-1 : Int32)]), .inl (2, 60, .inl (fun _ => 0)), .inr (4, [.ref 35, .int (-1 : Int32)]), .inl (2, 60, .inl (fun _ => 0)), .inr (4, [.ref 37, .int (-1 : Int32)]), .inl (2, 60, .inl (fun _ => 0)), .inr (0, [.ref 39, .ref 40, .ref 41, .ref 42, .int (0 : Int32), .int (0 : Int32), .int (0 : Int32), .int (0 : Int32), .int (0 : Int32)]), .inl (0, 6, .inl (fun _ => 0)), .inl (0, 6, .inl (fun _ => 0)), .inl (0, 6, .inl (fun _ => 0)), .inl (0, 40, .inl (fun _ => 0)), .inr (0, [.ref 44, .ref 45, .ref 46, .ref 47, .int (0 : Int32), .int (0 : Int32), .int (0 : Int32), .int (0 : Int32), .int (0 : Int32)]), .inl (0, 6, .inl (fun _ => 0)), .inl (0, 6, .inl (fun _ => 0)), .inl (0, 6, .inl (fun _ => 0)), .inl (0, 40, .inl (fun _ => 0)), .inr (0, [.ref 49, .ref 50, .ref 51, .ref 52, .int (0 : Int32), .int (0 : Int32), .int (0 : Int32), .int (0 : Int32), .int (0 : Int32)]), .inl (0, 6, .inl (fun _ => 0)), .inl (0, 6, .inl (fun _ => 0)), .inl (0, 6, .inl (fun _ => 0)), .inl (0, 40, .inl (fun _ => 0)), .inr (6, [.ref 54, .int 0, .ref 55, .ref 56, .ref 57, .ref 58, .ref 59, .int 0, .long 0, .long (1 : Int64), .int 0, .ref 60, .int 0, .int 0, .int 0, .int 0, .ref 61, .int 0, .ref 62, .int 0, .ref 63, .ref 64, .ref 65]), .inl (0, 2304, .inl (upd (upd (upd (fun _ => 0) 576 (-1 : Int32)) 1152 (-1 : Int32)) 1728 (-1 : Int32))), .inl (0, 6, .inl (fun _ => 0)), .inl (0, 6, .inl (upd (upd (upd (upd (upd (upd (fun _ => 0) 0 (-1 : Int32)) 1 (-1 : Int32)) 2 (-1 : Int32)) 3 (-1 : Int32)) 4 (-1 : Int32)) 5 (-1 : Int32))), .inl (0, 240, .inl (fun _ => 0)), .inl (0, 4, .inl (upd (upd (upd (upd (fun _ => 0) 0 (-1 : Int32)) 1 (-1 : Int32)) 2 (-1 : Int32)) 3 (-1 : Int32))), .inl (0, 240, .inl (fun _ => 0)), .inl (0, 6, .inl (fun _ => 0)), .inl (0, 12, .inl (fun _ => 0)), .inl (0, 6, .inl (fun _ => 0)), .inl (0, 64, .inl (fun _ => 0)), .inl (0, 64, .inl (fun _ => 0)), .inl (1, 64, .inr (.inl (fun _ => 0)))]
set_option maxRecDepth 100000 in
theorem nj_pc0 (e : va_E) (h : (rp_Law nj_s0 nj_m0)[0]? = some e) : ∃ (k : Nat) (e' : va_E), nj_perm[0]? = some k ∧ nj_hpA[k]? = some e' ∧ nj_eqv e' (nj_re nj_perm e) := nj_c1 (j := 0) (k := 0) rfl h rfl rfl (Or.inl rfl)
set_option maxRecDepth 100000 in
theorem nj_pc1 (e : va_E) (h : (rp_Law nj_s0 nj_m0)[1]? = some e) : ∃ (k : Nat) (e' : va_E), nj_perm[1]? = some k ∧ nj_hpA[k]? = some e' ∧ nj_eqv e' (nj_re nj_perm e) := nj_c1 (j := 1) (k := 1) rfl h rfl rfl (Or.inr ⟨_, _, _, _, rfl, rfl, fun k hk => by match k, hk with | 0, _ => rfl | 1, _ => rfl | 2, _ => rfl | 3, _ => rfl | 4, _ => rfl | 5, _ => rfl⟩)
set_option maxRecDepth 100000 in
theorem nj_pc2 (e : va_E) (h : (rp_Law nj_s0 nj_m0)[2]? = some e) : ∃ (k : Nat) (e' : va_E), nj_perm[2]? = some k ∧ nj_hpA[k]? = some e' ∧ nj_eqv e' (nj_re nj_perm e) := nj_c1 (j := 2) (k := 18) rfl h rfl rfl (Or.inl rfl)
set_option maxRecDepth 100000 in
theorem nj_pc3 (e : va_E) (h : (rp_Law nj_s0 nj_m0)[3]? = some e) : ∃ (k : Nat) (e' : va_E), nj_perm[3]? = some k ∧ nj_hpA[k]? = some e' ∧ nj_eqv e' (nj_re nj_perm e) := nj_c1 (j := 3) (k := 19) rfl h rfl rfl (Or.inl rfl)
set_option maxRecDepth 100000 in
theorem nj_pc4 (e : va_E) (h : (rp_Law nj_s0 nj_m0)[4]? = some e) : ∃ (k : Nat) (e' : va_E), nj_perm[4]? = some k ∧ nj_hpA[k]? = some e' ∧ nj_eqv e' (nj_re nj_perm e) := nj_c1 (j := 4) (k := 20) rfl h rfl rfl (Or.inl rfl)
set_option maxRecDepth 100000 in
theorem nj_pc5 (e : va_E) (h : (rp_Law nj_s0 nj_m0)[5]? = some e) : ∃ (k : Nat) (e' : va_E), nj_perm[5]? = some k ∧ nj_hpA[k]? = some e' ∧ nj_eqv e' (nj_re nj_perm e) := nj_c1 (j := 5) (k := 21) rfl h rfl rfl (Or.inl rfl)
set_option maxRecDepth 100000 in
theorem nj_pc6 (e : va_E) (h : (rp_Law nj_s0 nj_m0)[6]? = some e) : ∃ (k : Nat) (e' : va_E), nj_perm[6]? = some k ∧ nj_hpA[k]? = some e' ∧ nj_eqv e' (nj_re nj_perm e) := nj_c1 (j := 6) (k := 22) rfl h rfl rfl (Or.inl rfl)
set_option maxRecDepth 100000 in
theorem nj_pc7 (e : va_E) (h : (rp_Law nj_s0 nj_m0)[7]? = some e) : ∃ (k : Nat) (e' : va_E), nj_perm[7]? = some k ∧ nj_hpA[k]? = some e' ∧ nj_eqv e' (nj_re nj_perm e) := nj_c1 (j := 7) (k := 23) rfl h rfl rfl (Or.inl rfl)
set_option maxRecDepth 100000 in
theorem nj_pc8 (e : va_E) (h : (rp_Law nj_s0 nj_m0)[8]? = some e) : ∃ (k : Nat) (e' : va_E), nj_perm[8]? = some k ∧ nj_hpA[k]? = some e' ∧ nj_eqv e' (nj_re nj_perm e) := nj_c1 (j := 8) (k := 24) rfl h rfl rfl (Or.inl rfl)
set_option maxRecDepth 100000 in
theorem nj_pc9 (e : va_E) (h : (rp_Law nj_s0 nj_m0)[9]? = some e) : ∃ (k : Nat) (e' : va_E), nj_perm[9]? = some k ∧ nj_hpA[k]? = some e' ∧ nj_eqv e' (nj_re nj_perm e) := nj_c1 (j := 9) (k := 25) rfl h rfl rfl (Or.inl rfl)
set_option maxRecDepth 100000 in
theorem nj_pc10 (e : va_E) (h : (rp_Law nj_s0 nj_m0)[10]? = some e) : ∃ (k : Nat) (e' : va_E), nj_perm[10]? = some k ∧ nj_hpA[k]? = some e' ∧ nj_eqv e' (nj_re nj_perm e) := nj_c1 (j := 10) (k := 26) rfl h rfl rfl (Or.inl rfl)
set_option maxRecDepth 100000 in
theorem nj_pc11 (e : va_E) (h : (rp_Law nj_s0 nj_m0)[11]? = some e) : ∃ (k : Nat) (e' : va_E), nj_perm[11]? = some k ∧ nj_hpA[k]? = some e' ∧ nj_eqv e' (nj_re nj_perm e) := nj_c1 (j := 11) (k := 27) rfl h rfl rfl (Or.inl rfl)
set_option maxRecDepth 100000 in
theorem nj_pc12 (e : va_E) (h : (rp_Law nj_s0 nj_m0)[12]? = some e) : ∃ (k : Nat) (e' : va_E), nj_perm[12]? = some k ∧ nj_hpA[k]? = some e' ∧ nj_eqv e' (nj_re nj_perm e) := nj_c1 (j := 12) (k := 28) rfl h rfl rfl (Or.inl rfl)
set_option maxRecDepth 100000 in
theorem nj_pc13 (e : va_E) (h : (rp_Law nj_s0 nj_m0)[13]? = some e) : ∃ (k : Nat) (e' : va_E), nj_perm[13]? = some k ∧ nj_hpA[k]? = some e' ∧ nj_eqv e' (nj_re nj_perm e) := nj_c1 (j := 13) (k := 29) rfl h rfl rfl (Or.inl rfl)
set_option maxRecDepth 100000 in
theorem nj_pc14 (e : va_E) (h : (rp_Law nj_s0 nj_m0)[14]? = some e) : ∃ (k : Nat) (e' : va_E), nj_perm[14]? = some k ∧ nj_hpA[k]? = some e' ∧ nj_eqv e' (nj_re nj_perm e) := nj_c1 (j := 14) (k := 2) rfl h rfl rfl (Or.inr ⟨_, _, _, _, rfl, rfl, fun k hk => by match k, hk with | 0, _ => rfl | 1, _ => rfl | 2, _ => rfl | 3, _ => rfl⟩)
set_option maxRecDepth 100000 in
theorem nj_pc15 (e : va_E) (h : (rp_Law nj_s0 nj_m0)[15]? = some e) : ∃ (k : Nat) (e' : va_E), nj_perm[15]? = some k ∧ nj_hpA[k]? = some e' ∧ nj_eqv e' (nj_re nj_perm e) := nj_c1 (j := 15) (k := 30) rfl h rfl rfl (Or.inl rfl)
set_option maxRecDepth 100000 in
theorem nj_pc16 (e : va_E) (h : (rp_Law nj_s0 nj_m0)[16]? = some e) : ∃ (k : Nat) (e' : va_E), nj_perm[16]? = some k ∧ nj_hpA[k]? = some e' ∧ nj_eqv e' (nj_re nj_perm e) := nj_c1 (j := 16) (k := 31) rfl h rfl rfl (Or.inl rfl)
set_option maxRecDepth 100000 in
theorem nj_pc17 (e : va_E) (h : (rp_Law nj_s0 nj_m0)[17]? = some e) : ∃ (k : Nat) (e' : va_E), nj_perm[17]? = some k ∧ nj_hpA[k]? = some e' ∧ nj_eqv e' (nj_re nj_perm e) := nj_c1 (j := 17) (k := 32) rfl h rfl rfl (Or.inl rfl)
set_option maxRecDepth 100000 in
theorem nj_pc18 (e : va_E) (h : (rp_Law nj_s0 nj_m0)[18]? = some e) : ∃ (k : Nat) (e' : va_E), nj_perm[18]? = some k ∧ nj_hpA[k]? = some e' ∧ nj_eqv e' (nj_re nj_perm e) := nj_c1 (j := 18) (k := 33) rfl h rfl rfl (Or.inl rfl)
set_option maxRecDepth 100000 in
theorem nj_pc19 (e : va_E) (h : (rp_Law nj_s0 nj_m0)[19]? = some e) : ∃ (k : Nat) (e' : va_E), nj_perm[19]? = some k ∧ nj_hpA[k]? = some e' ∧ nj_eqv e' (nj_re nj_perm e) := nj_c1 (j := 19) (k := 34) rfl h rfl rfl (Or.inl rfl)
set_option maxRecDepth 100000 in
theorem nj_pc20 (e : va_E) (h : (rp_Law nj_s0 nj_m0)[20]? = some e) : ∃ (k : Nat) (e' : va_E), nj_perm[20]? = some k ∧ nj_hpA[k]? = some e' ∧ nj_eqv e' (nj_re nj_perm e) := nj_c1 (j := 20) (k := 35) rfl h rfl rfl (Or.inl rfl)
set_option maxRecDepth 100000 in
theorem nj_pc21 (e : va_E) (h : (rp_Law nj_s0 nj_m0)[21]? = some e) : ∃ (k : Nat) (e' : va_E), nj_perm[21]? = some k ∧ nj_hpA[k]? = some e' ∧ nj_eqv e' (nj_re nj_perm e) := nj_c1 (j := 21) (k := 36) rfl h rfl rfl (Or.inl rfl)
set_option maxRecDepth 100000 in
theorem nj_pc22 (e : va_E) (h : (rp_Law nj_s0 nj_m0)[22]? = some e) : ∃ (k : Nat) (e' : va_E), nj_perm[22]? = some k ∧ nj_hpA[k]? = some e' ∧ nj_eqv e' (nj_re nj_perm e) := nj_c1 (j := 22) (k := 37) rfl h rfl rfl (Or.inl rfl)
set_option maxRecDepth 100000 in
theorem nj_pc23 (e : va_E) (h : (rp_Law nj_s0 nj_m0)[23]? = some e) : ∃ (k : Nat) (e' : va_E), nj_perm[23]? = some k ∧ nj_hpA[k]? = some e' ∧ nj_eqv e' (nj_re nj_perm e) := nj_c1 (j := 23) (k := 3) rfl h rfl rfl (Or.inl rfl)
set_option maxRecDepth 100000 in
theorem nj_pc24 (e : va_E) (h : (rp_Law nj_s0 nj_m0)[24]? = some e) : ∃ (k : Nat) (e' : va_E), nj_perm[24]? = some k ∧ nj_hpA[k]? = some e' ∧ nj_eqv e' (nj_re nj_perm e) := nj_c1 (j := 24) (k := 4) rfl h rfl rfl (Or.inl rfl)
set_option maxRecDepth 100000 in
theorem nj_pc25 (e : va_E) (h : (rp_Law nj_s0 nj_m0)[25]? = some e) : ∃ (k : Nat) (e' : va_E), nj_perm[25]? = some k ∧ nj_hpA[k]? = some e' ∧ nj_eqv e' (nj_re nj_perm e) := nj_c1 (j := 25) (k := 5) rfl h rfl rfl (Or.inl rfl)
set_option maxRecDepth 100000 in
theorem nj_pc26 (e : va_E) (h : (rp_Law nj_s0 nj_m0)[26]? = some e) : ∃ (k : Nat) (e' : va_E), nj_perm[26]? = some k ∧ nj_hpA[k]? = some e' ∧ nj_eqv e' (nj_re nj_perm e) := nj_c1 (j := 26) (k := 6) rfl h rfl rfl (Or.inl rfl)
set_option maxRecDepth 100000 in
theorem nj_pc27 (e : va_E) (h : (rp_Law nj_s0 nj_m0)[27]? = some e) : ∃ (k : Nat) (e' : va_E), nj_perm[27]? = some k ∧ nj_hpA[k]? = some e' ∧ nj_eqv e' (nj_re nj_perm e) := nj_c1 (j := 27) (k := 7) rfl h rfl rfl (Or.inl rfl)
set_option maxRecDepth 100000 in
theorem nj_pc28 (e : va_E) (h : (rp_Law nj_s0 nj_m0)[28]? = some e) : ∃ (k : Nat) (e' : va_E), nj_perm[28]? = some k ∧ nj_hpA[k]? = some e' ∧ nj_eqv e' (nj_re nj_perm e) := nj_c1 (j := 28) (k := 8) rfl h rfl rfl (Or.inl rfl)
set_option maxRecDepth 100000 in
theorem nj_pc29 (e : va_E) (h : (rp_Law nj_s0 nj_m0)[29]? = some e) : ∃ (k : Nat) (e' : va_E), nj_perm[29]? = some k ∧ nj_hpA[k]? = some e' ∧ nj_eqv e' (nj_re nj_perm e) := nj_c1 (j := 29) (k := 9) rfl h rfl rfl (Or.inl rfl)
set_option maxRecDepth 100000 in
theorem nj_pc30 (e : va_E) (h : (rp_Law nj_s0 nj_m0)[30]? = some e) : ∃ (k : Nat) (e' : va_E), nj_perm[30]? = some k ∧ nj_hpA[k]? = some e' ∧ nj_eqv e' (nj_re nj_perm e) := nj_c1 (j := 30) (k := 10) rfl h rfl rfl (Or.inl rfl)
set_option maxRecDepth 100000 in
theorem nj_pc31 (e : va_E) (h : (rp_Law nj_s0 nj_m0)[31]? = some e) : ∃ (k : Nat) (e' : va_E), nj_perm[31]? = some k ∧ nj_hpA[k]? = some e' ∧ nj_eqv e' (nj_re nj_perm e) := nj_c1 (j := 31) (k := 11) rfl h rfl rfl (Or.inl rfl)
set_option maxRecDepth 100000 in
theorem nj_pc32 (e : va_E) (h : (rp_Law nj_s0 nj_m0)[32]? = some e) : ∃ (k : Nat) (e' : va_E), nj_perm[32]? = some k ∧ nj_hpA[k]? = some e' ∧ nj_eqv e' (nj_re nj_perm e) := nj_c1 (j := 32) (k := 12) rfl h rfl rfl (Or.inl rfl)
set_option maxRecDepth 100000 in
theorem nj_pc33 (e : va_E) (h : (rp_Law nj_s0 nj_m0)[33]? = some e) : ∃ (k : Nat) (e' : va_E), nj_perm[33]? = some k ∧ nj_hpA[k]? = some e' ∧ nj_eqv e' (nj_re nj_perm e) := nj_c1 (j := 33) (k := 13) rfl h rfl rfl (Or.inr ⟨_, _, _, _, rfl, rfl, fun k hk => by match k, hk with | 0, _ => rfl | 1, _ => rfl | 2, _ => rfl⟩)
set_option maxRecDepth 100000 in
theorem nj_pc34 (e : va_E) (h : (rp_Law nj_s0 nj_m0)[34]? = some e) : ∃ (k : Nat) (e' : va_E), nj_perm[34]? = some k ∧ nj_hpA[k]? = some e' ∧ nj_eqv e' (nj_re nj_perm e) := nj_c1 (j := 34) (k := 38) rfl h rfl rfl (Or.inl rfl)
set_option maxRecDepth 100000 in
theorem nj_pc35 (e : va_E) (h : (rp_Law nj_s0 nj_m0)[35]? = some e) : ∃ (k : Nat) (e' : va_E), nj_perm[35]? = some k ∧ nj_hpA[k]? = some e' ∧ nj_eqv e' (nj_re nj_perm e) := nj_c1 (j := 35) (k := 39) rfl h rfl rfl (Or.inl rfl)
set_option maxRecDepth 100000 in
theorem nj_pc36 (e : va_E) (h : (rp_Law nj_s0 nj_m0)[36]? = some e) : ∃ (k : Nat) (e' : va_E), nj_perm[36]? = some k ∧ nj_hpA[k]? = some e' ∧ nj_eqv e' (nj_re nj_perm e) := nj_c1 (j := 36) (k := 40) rfl h rfl rfl (Or.inl rfl)
set_option maxRecDepth 100000 in
theorem nj_pc37 (e : va_E) (h : (rp_Law nj_s0 nj_m0)[37]? = some e) : ∃ (k : Nat) (e' : va_E), nj_perm[37]? = some k ∧ nj_hpA[k]? = some e' ∧ nj_eqv e' (nj_re nj_perm e) := nj_c1 (j := 37) (k := 41) rfl h rfl rfl (Or.inl rfl)
set_option maxRecDepth 100000 in
theorem nj_pc38 (e : va_E) (h : (rp_Law nj_s0 nj_m0)[38]? = some e) : ∃ (k : Nat) (e' : va_E), nj_perm[38]? = some k ∧ nj_hpA[k]? = some e' ∧ nj_eqv e' (nj_re nj_perm e) := nj_c1 (j := 38) (k := 42) rfl h rfl rfl (Or.inl rfl)
set_option maxRecDepth 100000 in
theorem nj_pc39 (e : va_E) (h : (rp_Law nj_s0 nj_m0)[39]? = some e) : ∃ (k : Nat) (e' : va_E), nj_perm[39]? = some k ∧ nj_hpA[k]? = some e' ∧ nj_eqv e' (nj_re nj_perm e) := nj_c1 (j := 39) (k := 43) rfl h rfl rfl (Or.inl rfl)
set_option maxRecDepth 100000 in
theorem nj_pc40 (e : va_E) (h : (rp_Law nj_s0 nj_m0)[40]? = some e) : ∃ (k : Nat) (e' : va_E), nj_perm[40]? = some k ∧ nj_hpA[k]? = some e' ∧ nj_eqv e' (nj_re nj_perm e) := nj_c1 (j := 40) (k := 44) rfl h rfl rfl (Or.inl rfl)
set_option maxRecDepth 100000 in
theorem nj_pc41 (e : va_E) (h : (rp_Law nj_s0 nj_m0)[41]? = some e) : ∃ (k : Nat) (e' : va_E), nj_perm[41]? = some k ∧ nj_hpA[k]? = some e' ∧ nj_eqv e' (nj_re nj_perm e) := nj_c1 (j := 41) (k := 45) rfl h rfl rfl (Or.inl rfl)
set_option maxRecDepth 100000 in
theorem nj_pc42 (e : va_E) (h : (rp_Law nj_s0 nj_m0)[42]? = some e) : ∃ (k : Nat) (e' : va_E), nj_perm[42]? = some k ∧ nj_hpA[k]? = some e' ∧ nj_eqv e' (nj_re nj_perm e) := nj_c1 (j := 42) (k := 46) rfl h rfl rfl (Or.inl rfl)
set_option maxRecDepth 100000 in
theorem nj_pc43 (e : va_E) (h : (rp_Law nj_s0 nj_m0)[43]? = some e) : ∃ (k : Nat) (e' : va_E), nj_perm[43]? = some k ∧ nj_hpA[k]? = some e' ∧ nj_eqv e' (nj_re nj_perm e) := nj_c1 (j := 43) (k := 47) rfl h rfl rfl (Or.inl rfl)
set_option maxRecDepth 100000 in
theorem nj_pc44 (e : va_E) (h : (rp_Law nj_s0 nj_m0)[44]? = some e) : ∃ (k : Nat) (e' : va_E), nj_perm[44]? = some k ∧ nj_hpA[k]? = some e' ∧ nj_eqv e' (nj_re nj_perm e) := nj_c1 (j := 44) (k := 48) rfl h rfl rfl (Or.inl rfl)
set_option maxRecDepth 100000 in
theorem nj_pc45 (e : va_E) (h : (rp_Law nj_s0 nj_m0)[45]? = some e) : ∃ (k : Nat) (e' : va_E), nj_perm[45]? = some k ∧ nj_hpA[k]? = some e' ∧ nj_eqv e' (nj_re nj_perm e) := nj_c1 (j := 45) (k := 49) rfl h rfl rfl (Or.inl rfl)
set_option maxRecDepth 100000 in
theorem nj_pc46 (e : va_E) (h : (rp_Law nj_s0 nj_m0)[46]? = some e) : ∃ (k : Nat) (e' : va_E), nj_perm[46]? = some k ∧ nj_hpA[k]? = some e' ∧ nj_eqv e' (nj_re nj_perm e) := nj_c1 (j := 46) (k := 50) rfl h rfl rfl (Or.inl rfl)
set_option maxRecDepth 100000 in
theorem nj_pc47 (e : va_E) (h : (rp_Law nj_s0 nj_m0)[47]? = some e) : ∃ (k : Nat) (e' : va_E), nj_perm[47]? = some k ∧ nj_hpA[k]? = some e' ∧ nj_eqv e' (nj_re nj_perm e) := nj_c1 (j := 47) (k := 51) rfl h rfl rfl (Or.inl rfl)
set_option maxRecDepth 100000 in
theorem nj_pc48 (e : va_E) (h : (rp_Law nj_s0 nj_m0)[48]? = some e) : ∃ (k : Nat) (e' : va_E), nj_perm[48]? = some k ∧ nj_hpA[k]? = some e' ∧ nj_eqv e' (nj_re nj_perm e) := nj_c1 (j := 48) (k := 52) rfl h rfl rfl (Or.inl rfl)
set_option maxRecDepth 100000 in
theorem nj_pc49 (e : va_E) (h : (rp_Law nj_s0 nj_m0)[49]? = some e) : ∃ (k : Nat) (e' : va_E), nj_perm[49]? = some k ∧ nj_hpA[k]? = some e' ∧ nj_eqv e' (nj_re nj_perm e) := nj_c1 (j := 49) (k := 14) rfl h rfl rfl (Or.inl rfl)
set_option maxRecDepth 100000 in
theorem nj_pc50 (e : va_E) (h : (rp_Law nj_s0 nj_m0)[50]? = some e) : ∃ (k : Nat) (e' : va_E), nj_perm[50]? = some k ∧ nj_hpA[k]? = some e' ∧ nj_eqv e' (nj_re nj_perm e) := nj_c1 (j := 50) (k := 15) rfl h rfl rfl (Or.inl rfl)
set_option maxRecDepth 100000 in
theorem nj_pc51 (e : va_E) (h : (rp_Law nj_s0 nj_m0)[51]? = some e) : ∃ (k : Nat) (e' : va_E), nj_perm[51]? = some k ∧ nj_hpA[k]? = some e' ∧ nj_eqv e' (nj_re nj_perm e) := nj_c1 (j := 51) (k := 16) rfl h rfl rfl (Or.inl rfl)
set_option maxRecDepth 100000 in
theorem nj_pc52 (e : va_E) (h : (rp_Law nj_s0 nj_m0)[52]? = some e) : ∃ (k : Nat) (e' : va_E), nj_perm[52]? = some k ∧ nj_hpA[k]? = some e' ∧ nj_eqv e' (nj_re nj_perm e) := nj_c1 (j := 52) (k := 17) rfl h rfl rfl (Or.inl rfl)
set_option maxRecDepth 100000 in
theorem nj_pc53 (e : va_E) (h : (rp_Law nj_s0 nj_m0)[53]? = some e) : ∃ (k : Nat) (e' : va_E), nj_perm[53]? = some k ∧ nj_hpA[k]? = some e' ∧ nj_eqv e' (nj_re nj_perm e) := nj_c1 (j := 53) (k := 53) rfl h rfl rfl (Or.inl rfl)
set_option maxRecDepth 100000 in
theorem nj_pc54 (e : va_E) (h : (rp_Law nj_s0 nj_m0)[54]? = some e) : ∃ (k : Nat) (e' : va_E), nj_perm[54]? = some k ∧ nj_hpA[k]? = some e' ∧ nj_eqv e' (nj_re nj_perm e) := nj_c1 (j := 54) (k := 54) rfl h rfl rfl (Or.inl rfl)
set_option maxRecDepth 100000 in
theorem nj_pc55 (e : va_E) (h : (rp_Law nj_s0 nj_m0)[55]? = some e) : ∃ (k : Nat) (e' : va_E), nj_perm[55]? = some k ∧ nj_hpA[k]? = some e' ∧ nj_eqv e' (nj_re nj_perm e) := nj_c1 (j := 55) (k := 55) rfl h rfl rfl (Or.inl rfl)
set_option maxRecDepth 100000 in
theorem nj_pc56 (e : va_E) (h : (rp_Law nj_s0 nj_m0)[56]? = some e) : ∃ (k : Nat) (e' : va_E), nj_perm[56]? = some k ∧ nj_hpA[k]? = some e' ∧ nj_eqv e' (nj_re nj_perm e) := nj_c1 (j := 56) (k := 56) rfl h rfl rfl (Or.inl rfl)
set_option maxRecDepth 100000 in
theorem nj_pc57 (e : va_E) (h : (rp_Law nj_s0 nj_m0)[57]? = some e) : ∃ (k : Nat) (e' : va_E), nj_perm[57]? = some k ∧ nj_hpA[k]? = some e' ∧ nj_eqv e' (nj_re nj_perm e) := nj_c1 (j := 57) (k := 57) rfl h rfl rfl (Or.inl rfl)
set_option maxRecDepth 100000 in
theorem nj_pc58 (e : va_E) (h : (rp_Law nj_s0 nj_m0)[58]? = some e) : ∃ (k : Nat) (e' : va_E), nj_perm[58]? = some k ∧ nj_hpA[k]? = some e' ∧ nj_eqv e' (nj_re nj_perm e) := nj_c1 (j := 58) (k := 58) rfl h rfl rfl (Or.inl rfl)
set_option maxRecDepth 100000 in
theorem nj_pc59 (e : va_E) (h : (rp_Law nj_s0 nj_m0)[59]? = some e) : ∃ (k : Nat) (e' : va_E), nj_perm[59]? = some k ∧ nj_hpA[k]? = some e' ∧ nj_eqv e' (nj_re nj_perm e) := nj_c1 (j := 59) (k := 59) rfl h rfl rfl (Or.inl rfl)
set_option maxRecDepth 100000 in
theorem nj_pc60 (e : va_E) (h : (rp_Law nj_s0 nj_m0)[60]? = some e) : ∃ (k : Nat) (e' : va_E), nj_perm[60]? = some k ∧ nj_hpA[k]? = some e' ∧ nj_eqv e' (nj_re nj_perm e) := nj_c1 (j := 60) (k := 60) rfl h rfl rfl (Or.inl rfl)
set_option maxRecDepth 100000 in
theorem nj_pc61 (e : va_E) (h : (rp_Law nj_s0 nj_m0)[61]? = some e) : ∃ (k : Nat) (e' : va_E), nj_perm[61]? = some k ∧ nj_hpA[k]? = some e' ∧ nj_eqv e' (nj_re nj_perm e) := nj_c1 (j := 61) (k := 61) rfl h rfl rfl (Or.inl rfl)
set_option maxRecDepth 100000 in
theorem nj_pc62 (e : va_E) (h : (rp_Law nj_s0 nj_m0)[62]? = some e) : ∃ (k : Nat) (e' : va_E), nj_perm[62]? = some k ∧ nj_hpA[k]? = some e' ∧ nj_eqv e' (nj_re nj_perm e) := nj_c1 (j := 62) (k := 62) rfl h rfl rfl (Or.inl rfl)
set_option maxRecDepth 100000 in
theorem nj_pc63 (e : va_E) (h : (rp_Law nj_s0 nj_m0)[63]? = some e) : ∃ (k : Nat) (e' : va_E), nj_perm[63]? = some k ∧ nj_hpA[k]? = some e' ∧ nj_eqv e' (nj_re nj_perm e) := nj_c1 (j := 63) (k := 63) rfl h rfl rfl (Or.inl rfl)
set_option maxRecDepth 100000 in
theorem nj_pc64 (e : va_E) (h : (rp_Law nj_s0 nj_m0)[64]? = some e) : ∃ (k : Nat) (e' : va_E), nj_perm[64]? = some k ∧ nj_hpA[k]? = some e' ∧ nj_eqv e' (nj_re nj_perm e) := nj_c1 (j := 64) (k := 64) rfl h rfl rfl (Or.inl rfl)
set_option maxRecDepth 100000 in
theorem nj_pc65 (e : va_E) (h : (rp_Law nj_s0 nj_m0)[65]? = some e) : ∃ (k : Nat) (e' : va_E), nj_perm[65]? = some k ∧ nj_hpA[k]? = some e' ∧ nj_eqv e' (nj_re nj_perm e) := nj_c1 (j := 65) (k := 65) rfl h rfl rfl (Or.inl rfl)
theorem nj_perm_ok : ∀ (j : Nat) (e : va_E), (rp_Law nj_s0 nj_m0)[j]? = some e → ∃ (k : Nat) (e' : va_E), nj_perm[j]? = some k ∧ nj_hpA[k]? = some e' ∧ nj_eqv e' (nj_re nj_perm e) := by
  intro j e h
  match j, h with
  | 0, h => exact nj_pc0 e h
  | 1, h => exact nj_pc1 e h
  | 2, h => exact nj_pc2 e h
  | 3, h => exact nj_pc3 e h
  | 4, h => exact nj_pc4 e h
  | 5, h => exact nj_pc5 e h
  | 6, h => exact nj_pc6 e h
  | 7, h => exact nj_pc7 e h
  | 8, h => exact nj_pc8 e h
  | 9, h => exact nj_pc9 e h
  | 10, h => exact nj_pc10 e h
  | 11, h => exact nj_pc11 e h
  | 12, h => exact nj_pc12 e h
  | 13, h => exact nj_pc13 e h
  | 14, h => exact nj_pc14 e h
  | 15, h => exact nj_pc15 e h
  | 16, h => exact nj_pc16 e h
  | 17, h => exact nj_pc17 e h
  | 18, h => exact nj_pc18 e h
  | 19, h => exact nj_pc19 e h
  | 20, h => exact nj_pc20 e h
  | 21, h => exact nj_pc21 e h
  | 22, h => exact nj_pc22 e h
  | 23, h => exact nj_pc23 e h
  | 24, h => exact nj_pc24 e h
  | 25, h => exact nj_pc25 e h
  | 26, h => exact nj_pc26 e h
  | 27, h => exact nj_pc27 e h
  | 28, h => exact nj_pc28 e h
  | 29, h => exact nj_pc29 e h
  | 30, h => exact nj_pc30 e h
  | 31, h => exact nj_pc31 e h
  | 32, h => exact nj_pc32 e h
  | 33, h => exact nj_pc33 e h
  | 34, h => exact nj_pc34 e h
  | 35, h => exact nj_pc35 e h
  | 36, h => exact nj_pc36 e h
  | 37, h => exact nj_pc37 e h
  | 38, h => exact nj_pc38 e h
  | 39, h => exact nj_pc39 e h
  | 40, h => exact nj_pc40 e h
  | 41, h => exact nj_pc41 e h
  | 42, h => exact nj_pc42 e h
  | 43, h => exact nj_pc43 e h
  | 44, h => exact nj_pc44 e h
  | 45, h => exact nj_pc45 e h
  | 46, h => exact nj_pc46 e h
  | 47, h => exact nj_pc47 e h
  | 48, h => exact nj_pc48 e h
  | 49, h => exact nj_pc49 e h
  | 50, h => exact nj_pc50 e h
  | 51, h => exact nj_pc51 e h
  | 52, h => exact nj_pc52 e h
  | 53, h => exact nj_pc53 e h
  | 54, h => exact nj_pc54 e h
  | 55, h => exact nj_pc55 e h
  | 56, h => exact nj_pc56 e h
  | 57, h => exact nj_pc57 e h
  | 58, h => exact nj_pc58 e h
  | 59, h => exact nj_pc59 e h
  | 60, h => exact nj_pc60 e h
  | 61, h => exact nj_pc61 e h
  | 62, h => exact nj_pc62 e h
  | 63, h => exact nj_pc63 e h
  | 64, h => exact nj_pc64 e h
  | 65, h => exact nj_pc65 e h
  | n + 66, h =>
    have h1 := (List.getElem?_eq_some_iff.mp h).1
    have h2 : (rp_Law nj_s0 nj_m0).length = 66 := rfl
    omega
set_option maxHeartbeats 40000000 in
theorem lw_head {G : nj_G} {ad : Nat → Nat} {b L : Nat} {xs : Nat → Int32} (C : nj_C G code 4 "NobodyJoinsLaw" room_1) (hAO : nj_AO G.1.2.2.2.2.1) (hW : ∀ ad', nj_ag 0 ad ad' → nj_Lw G ad' b L xs) (n : Nat) (hlo : lo_Law xs L n nj_s0 nj_m0 0 = some ()) : nj_V G ad 0 0 0 [some (.ref 2000), none, none, none] [] [] := by
  refine vr_newo2 (ci := 5) (N := 12) (T := nj_FNj) (fs := [.null, .null, .null, .null, .null, .null, .null, .null, .int 0, .int 0, .long 0, .long 0]) 0 1 12 [.inr (5, [.null, .null, .null, .null, .null, .null, .null, .null, .int 0, .int 0, .long 0, .long 0])] C nd_Law_0 rfl kc_Law_7 ki_Nj kn_Nj rfl nj_tNj kt_Nj (by decide +kernel) rfl (by decide +kernel) (by simp only [List.cons_append, List.nil_append]) rfl (by decide +kernel) rfl rfl rfl rfl (fun ad1 hg1 => ?_)
  refine vr_dup C nd_Law_3 rfl rfl ?_
  refine vr_ctorI2 [0] 52 1 53 933 [] [.ref 0] [.inr (5, [.ref 1, .ref 2, .ref 3, .ref 8, .ref 13, .ref 14, .ref 15, .ref 17, .int (0 : Int32), .int (0 : Int32), .long (0 : Int64), .long (1 : Int64)]), .inl (3, 6, .inr (.inr (.inr (.inr (fun k => ((va_up (va_up (va_up (va_up (va_up (va_up (fun _ => none) 0 (some 18)) 1 (some 20)) 2 (some 22)) 3 (some 24)) 4 (some 26)) 5 (some 28)) k).map (nj_rn (nj_is2 [0] 1 52))))))), .inl (4, 4, .inr (.inr (.inr (.inr (fun k => ((va_up (va_up (va_up (va_up (fun _ => none) 0 (some 30)) 1 (some 32)) 2 (some 34)) 3 (some 36)) k).map (nj_rn (nj_is2 [0] 1 52))))))), .inr (0, [.ref 4, .ref 5, .ref 6, .ref 7, .int (0 : Int32), .int (0 : Int32), .int (0 : Int32), .int (0 : Int32), .int (0 : Int32)]), .inl (0, 6, .inl (fun _ => 0)), .inl (0, 6, .inl (fun _ => 0)), .inl (0, 6, .inl (fun _ => 0)), .inl (0, 40, .inl (fun _ => 0)), .inr (0, [.ref 9, .ref 10, .ref 11, .ref 12, .int (0 : Int32), .int (0 : Int32), .int (0 : Int32), .int (0 : Int32), .int (0 : Int32)]), .inl (0, 6, .inl (fun _ => 0)), .inl (0, 6, .inl (fun _ => 0)), .inl (0, 6, .inl (fun _ => 0)), .inl (0, 40, .inl (fun _ => 0)), .inl (5, 3, .inr (.inr (.inr (.inr (fun k => ((va_up (va_up (va_up (fun _ => none) 0 (some 38)) 1 (some 43)) 2 (some 48)) k).map (nj_rn (nj_is2 [0] 1 52))))))), .inr (2, [.int (0 : Int32), .int (0 : Int32)]), .inr (1, [.ref 16]), .inl (0, 64, .inl (fun _ => 0)), .inl (0, 6, .inl (fun _ => 0)), .inr (3, [.ref 19, .int (-1 : Int32)]), .inl (0, 40, .inl (fun _ => 0)), .inr (3, [.ref 21, .int (-1 : Int32)]), .inl (0, 40, .inl (fun _ => 0)), .inr (3, [.ref 23, .int (-1 : Int32)]), .inl (0, 40, .inl (fun _ => 0)), .inr (3, [.ref 25, .int (-1 : Int32)]), .inl (0, 40, .inl (fun _ => 0)), .inr (3, [.ref 27, .int (-1 : Int32)]), .inl (0, 40, .inl (fun _ => 0)), .inr (3, [.ref 29, .int (-1 : Int32)]), .inl (0, 40, .inl (fun _ => 0)), .inr (4, [.ref 31, .int (-1 : Int32)]), .inl (2, 60, .inl (fun _ => 0)), .inr (4, [.ref 33, .int (-1 : Int32)]), .inl (2, 60, .inl (fun _ => 0)), .inr (4, [.ref 35, .int (-1 : Int32)]), .inl (2, 60, .inl (fun _ => 0)), .inr (4, [.ref 37, .int (-1 : Int32)]), .inl (2, 60, .inl (fun _ => 0)), .inr (0, [.ref 39, .ref 40, .ref 41, .ref 42, .int (0 : Int32), .int (0 : Int32), .int (0 : Int32), .int (0 : Int32), .int (0 : Int32)]), .inl (0, 6, .inl (fun _ => 0)), .inl (0, 6, .inl (fun _ => 0)), .inl (0, 6, .inl (fun _ => 0)), .inl (0, 40, .inl (fun _ => 0)), .inr (0, [.ref 44, .ref 45, .ref 46, .ref 47, .int (0 : Int32), .int (0 : Int32), .int (0 : Int32), .int (0 : Int32), .int (0 : Int32)]), .inl (0, 6, .inl (fun _ => 0)), .inl (0, 6, .inl (fun _ => 0)), .inl (0, 6, .inl (fun _ => 0)), .inl (0, 40, .inl (fun _ => 0)), .inr (0, [.ref 49, .ref 50, .ref 51, .ref 52, .int (0 : Int32), .int (0 : Int32), .int (0 : Int32), .int (0 : Int32), .int (0 : Int32)]), .inl (0, 6, .inl (fun _ => 0)), .inl (0, 6, .inl (fun _ => 0)), .inl (0, 6, .inl (fun _ => 0)), .inl (0, 40, .inl (fun _ => 0))] C hAO nd_Law_4 rfl ml_Law_9 kx_Nj_init_i kn_Nj kx_Nj_init_c rfl (by decide +kernel) ca_Nj_init ⟨rfl, rfl, rfl⟩ (by decide +kernel) (by decide +kernel) rfl rfl rfl (by decide +kernel) (by decide +kernel) rfl rfl ⟨rfl, rfl, rfl, rfl⟩ rfl rfl rfl rfl rfl ((nj_res_mid [] _ rfl (by decide +kernel) (by decide +kernel)).trans rfl) (fun ad2 hg2 => ?_)
  refine vr_as (ls' := [some (.ref 2000), some (.ref 0), none, none]) C nd_Law_7 rfl rfl ?_
  refine vr_newo2 (ci := 6) (N := 23) (T := nj_FMd) (fs := [.null, .int 0, .null, .null, .null, .null, .null, .int 0, .long 0, .long 0, .int 0, .null, .int 0, .int 0, .int 0, .int 0, .null, .int 0, .null, .int 0, .null, .null, .null]) 53 54 956 [.inr (5, [.ref 1, .ref 2, .ref 3, .ref 8, .ref 13, .ref 14, .ref 15, .ref 17, .int (0 : Int32), .int (0 : Int32), .long (0 : Int64), .long (1 : Int64)]), .inl (3, 6, .inr (.inr (.inr (.inr (fun k => ((va_up (va_up (va_up (va_up (va_up (va_up (fun _ => none) 0 (some 18)) 1 (some 20)) 2 (some 22)) 3 (some 24)) 4 (some 26)) 5 (some 28)) k).map (nj_rn (nj_is2 [0] 1 52))))))), .inl (4, 4, .inr (.inr (.inr (.inr (fun k => ((va_up (va_up (va_up (va_up (fun _ => none) 0 (some 30)) 1 (some 32)) 2 (some 34)) 3 (some 36)) k).map (nj_rn (nj_is2 [0] 1 52))))))), .inr (0, [.ref 4, .ref 5, .ref 6, .ref 7, .int (0 : Int32), .int (0 : Int32), .int (0 : Int32), .int (0 : Int32), .int (0 : Int32)]), .inl (0, 6, .inl (fun _ => 0)), .inl (0, 6, .inl (fun _ => 0)), .inl (0, 6, .inl (fun _ => 0)), .inl (0, 40, .inl (fun _ => 0)), .inr (0, [.ref 9, .ref 10, .ref 11, .ref 12, .int (0 : Int32), .int (0 : Int32), .int (0 : Int32), .int (0 : Int32), .int (0 : Int32)]), .inl (0, 6, .inl (fun _ => 0)), .inl (0, 6, .inl (fun _ => 0)), .inl (0, 6, .inl (fun _ => 0)), .inl (0, 40, .inl (fun _ => 0)), .inl (5, 3, .inr (.inr (.inr (.inr (fun k => ((va_up (va_up (va_up (fun _ => none) 0 (some 38)) 1 (some 43)) 2 (some 48)) k).map (nj_rn (nj_is2 [0] 1 52))))))), .inr (2, [.int (0 : Int32), .int (0 : Int32)]), .inr (1, [.ref 16]), .inl (0, 64, .inl (fun _ => 0)), .inl (0, 6, .inl (fun _ => 0)), .inr (3, [.ref 19, .int (-1 : Int32)]), .inl (0, 40, .inl (fun _ => 0)), .inr (3, [.ref 21, .int (-1 : Int32)]), .inl (0, 40, .inl (fun _ => 0)), .inr (3, [.ref 23, .int (-1 : Int32)]), .inl (0, 40, .inl (fun _ => 0)), .inr (3, [.ref 25, .int (-1 : Int32)]), .inl (0, 40, .inl (fun _ => 0)), .inr (3, [.ref 27, .int (-1 : Int32)]), .inl (0, 40, .inl (fun _ => 0)), .inr (3, [.ref 29, .int (-1 : Int32)]), .inl (0, 40, .inl (fun _ => 0)), .inr (4, [.ref 31, .int (-1 : Int32)]), .inl (2, 60, .inl (fun _ => 0)), .inr (4, [.ref 33, .int (-1 : Int32)]), .inl (2, 60, .inl (fun _ => 0)), .inr (4, [.ref 35, .int (-1 : Int32)]), .inl (2, 60, .inl (fun _ => 0)), .inr (4, [.ref 37, .int (-1 : Int32)]), .inl (2, 60, .inl (fun _ => 0)), .inr (0, [.ref 39, .ref 40, .ref 41, .ref 42, .int (0 : Int32), .int (0 : Int32), .int (0 : Int32), .int (0 : Int32), .int (0 : Int32)]), .inl (0, 6, .inl (fun _ => 0)), .inl (0, 6, .inl (fun _ => 0)), .inl (0, 6, .inl (fun _ => 0)), .inl (0, 40, .inl (fun _ => 0)), .inr (0, [.ref 44, .ref 45, .ref 46, .ref 47, .int (0 : Int32), .int (0 : Int32), .int (0 : Int32), .int (0 : Int32), .int (0 : Int32)]), .inl (0, 6, .inl (fun _ => 0)), .inl (0, 6, .inl (fun _ => 0)), .inl (0, 6, .inl (fun _ => 0)), .inl (0, 40, .inl (fun _ => 0)), .inr (0, [.ref 49, .ref 50, .ref 51, .ref 52, .int (0 : Int32), .int (0 : Int32), .int (0 : Int32), .int (0 : Int32), .int (0 : Int32)]), .inl (0, 6, .inl (fun _ => 0)), .inl (0, 6, .inl (fun _ => 0)), .inl (0, 6, .inl (fun _ => 0)), .inl (0, 40, .inl (fun _ => 0)), .inr (6, [.null, .int 0, .null, .null, .null, .null, .null, .int 0, .long 0, .long 0, .int 0, .null, .int 0, .int 0, .int 0, .int 0, .null, .int 0, .null, .int 0, .null, .null, .null])] C nd_Law_8 rfl kc_Law_10 ki_Md kn_Md rfl nj_tMd kt_Md (by decide +kernel) rfl (by decide +kernel) (by simp only [List.cons_append, List.nil_append]) rfl (by decide +kernel) rfl rfl rfl rfl (fun ad3 hg3 => ?_)
  refine vr_dup C nd_Law_11 rfl rfl ?_
  refine vr_ctorI2 [53] 12 54 66 3972 [] [.ref 53] [.inr (5, [.ref 1, .ref 2, .ref 3, .ref 8, .ref 13, .ref 14, .ref 15, .ref 17, .int (0 : Int32), .int (0 : Int32), .long (0 : Int64), .long (1 : Int64)]), .inl (3, 6, .inr (.inr (.inr (.inr (fun k => ((va_up (va_up (va_up (va_up (va_up (va_up (fun _ => none) 0 (some 18)) 1 (some 20)) 2 (some 22)) 3 (some 24)) 4 (some 26)) 5 (some 28)) k).map (nj_rn (nj_is2 [0] 1 52))))))), .inl (4, 4, .inr (.inr (.inr (.inr (fun k => ((va_up (va_up (va_up (va_up (fun _ => none) 0 (some 30)) 1 (some 32)) 2 (some 34)) 3 (some 36)) k).map (nj_rn (nj_is2 [0] 1 52))))))), .inr (0, [.ref 4, .ref 5, .ref 6, .ref 7, .int (0 : Int32), .int (0 : Int32), .int (0 : Int32), .int (0 : Int32), .int (0 : Int32)]), .inl (0, 6, .inl (fun _ => 0)), .inl (0, 6, .inl (fun _ => 0)), .inl (0, 6, .inl (fun _ => 0)), .inl (0, 40, .inl (fun _ => 0)), .inr (0, [.ref 9, .ref 10, .ref 11, .ref 12, .int (0 : Int32), .int (0 : Int32), .int (0 : Int32), .int (0 : Int32), .int (0 : Int32)]), .inl (0, 6, .inl (fun _ => 0)), .inl (0, 6, .inl (fun _ => 0)), .inl (0, 6, .inl (fun _ => 0)), .inl (0, 40, .inl (fun _ => 0)), .inl (5, 3, .inr (.inr (.inr (.inr (fun k => ((va_up (va_up (va_up (fun _ => none) 0 (some 38)) 1 (some 43)) 2 (some 48)) k).map (nj_rn (nj_is2 [0] 1 52))))))), .inr (2, [.int (0 : Int32), .int (0 : Int32)]), .inr (1, [.ref 16]), .inl (0, 64, .inl (fun _ => 0)), .inl (0, 6, .inl (fun _ => 0)), .inr (3, [.ref 19, .int (-1 : Int32)]), .inl (0, 40, .inl (fun _ => 0)), .inr (3, [.ref 21, .int (-1 : Int32)]), .inl (0, 40, .inl (fun _ => 0)), .inr (3, [.ref 23, .int (-1 : Int32)]), .inl (0, 40, .inl (fun _ => 0)), .inr (3, [.ref 25, .int (-1 : Int32)]), .inl (0, 40, .inl (fun _ => 0)), .inr (3, [.ref 27, .int (-1 : Int32)]), .inl (0, 40, .inl (fun _ => 0)), .inr (3, [.ref 29, .int (-1 : Int32)]), .inl (0, 40, .inl (fun _ => 0)), .inr (4, [.ref 31, .int (-1 : Int32)]), .inl (2, 60, .inl (fun _ => 0)), .inr (4, [.ref 33, .int (-1 : Int32)]), .inl (2, 60, .inl (fun _ => 0)), .inr (4, [.ref 35, .int (-1 : Int32)]), .inl (2, 60, .inl (fun _ => 0)), .inr (4, [.ref 37, .int (-1 : Int32)]), .inl (2, 60, .inl (fun _ => 0)), .inr (0, [.ref 39, .ref 40, .ref 41, .ref 42, .int (0 : Int32), .int (0 : Int32), .int (0 : Int32), .int (0 : Int32), .int (0 : Int32)]), .inl (0, 6, .inl (fun _ => 0)), .inl (0, 6, .inl (fun _ => 0)), .inl (0, 6, .inl (fun _ => 0)), .inl (0, 40, .inl (fun _ => 0)), .inr (0, [.ref 44, .ref 45, .ref 46, .ref 47, .int (0 : Int32), .int (0 : Int32), .int (0 : Int32), .int (0 : Int32), .int (0 : Int32)]), .inl (0, 6, .inl (fun _ => 0)), .inl (0, 6, .inl (fun _ => 0)), .inl (0, 6, .inl (fun _ => 0)), .inl (0, 40, .inl (fun _ => 0)), .inr (0, [.ref 49, .ref 50, .ref 51, .ref 52, .int (0 : Int32), .int (0 : Int32), .int (0 : Int32), .int (0 : Int32), .int (0 : Int32)]), .inl (0, 6, .inl (fun _ => 0)), .inl (0, 6, .inl (fun _ => 0)), .inl (0, 6, .inl (fun _ => 0)), .inl (0, 40, .inl (fun _ => 0)), .inr (6, [.ref 54, .int 0, .ref 55, .ref 56, .ref 57, .ref 58, .ref 59, .int 0, .long 0, .long (1 : Int64), .int 0, .ref 60, .int 0, .int 0, .int 0, .int 0, .ref 61, .int 0, .ref 62, .int 0, .ref 63, .ref 64, .ref 65]), .inl (0, 2304, .inl (upd (upd (upd (fun _ => 0) 576 (-1 : Int32)) 1152 (-1 : Int32)) 1728 (-1 : Int32))), .inl (0, 6, .inl (fun _ => 0)), .inl (0, 6, .inl (upd (upd (upd (upd (upd (upd (fun _ => 0) 0 (-1 : Int32)) 1 (-1 : Int32)) 2 (-1 : Int32)) 3 (-1 : Int32)) 4 (-1 : Int32)) 5 (-1 : Int32))), .inl (0, 240, .inl (fun _ => 0)), .inl (0, 4, .inl (upd (upd (upd (upd (fun _ => 0) 0 (-1 : Int32)) 1 (-1 : Int32)) 2 (-1 : Int32)) 3 (-1 : Int32))), .inl (0, 240, .inl (fun _ => 0)), .inl (0, 6, .inl (fun _ => 0)), .inl (0, 12, .inl (fun _ => 0)), .inl (0, 6, .inl (fun _ => 0)), .inl (0, 64, .inl (fun _ => 0)), .inl (0, 64, .inl (fun _ => 0)), .inl (1, 64, .inr (.inl (fun _ => 0)))] C hAO nd_Law_12 rfl ml_Law_12 kx_Md_init_i kn_Md kx_Md_init_c rfl (by decide +kernel) ca_Md_init ⟨rfl, rfl, rfl⟩ (by decide +kernel) (by decide +kernel) rfl rfl rfl (by decide +kernel) (by decide +kernel) rfl rfl ⟨rfl, rfl, rfl, rfl⟩ rfl rfl rfl rfl rfl ((nj_res_mid nj_hpN ([.inr (6, [.null, .int 0, .null, .null, .null, .null, .null, .int 0, .long 0, .long 0, .int 0, .null, .int 0, .int 0, .int 0, .int 0, .null, .int 0, .null, .int 0, .null, .null, .null])] ++ List.replicate 12 (.inr (0, []))) (by simp only [nj_hpN, List.cons_append, List.nil_append]) (by decide +kernel) (by decide +kernel)).trans rfl) (fun ad4 hg4 => ?_)
  refine vr_as (ls' := [some (.ref 2000), some (.ref 0), some (.ref 53), none]) C nd_Law_15 rfl rfl ?_
  refine vr_ic C nd_Law_16 ?_
  refine vr_is (ls' := [some (.ref 2000), some (.ref 0), some (.ref 53), some (.int (0 : Int32))]) C nd_Law_17 rfl rfl ?_
  refine vr_perm (hpL := rp_Law nj_s0 nj_m0) (ls := [some (.ref 2000), some (.ref 0), some (.ref 53), some (.int 0)]) (st := []) nj_perm rfl rfl (by decide +kernel) nj_perm_ok rfl rfl ?_
  have hag : nj_ag 0 ad ad4 := (nj_agt (nj_agt (nj_agt (nj_agt (nj_agr 0 ad) hg1 rfl) hg2 rfl) hg3 rfl) hg4 rfl)
  have hW2 := hW (fun k => ad4 (nj_rn nj_perm k)) (fun k hk => by show ad4 (nj_rn nj_perm k) = ad k; rw [nj_rn, if_neg (by omega)]; exact hag k hk)
  exact lw_Law C hW2 (by decide) (by decide) n nj_s0 nj_m0 0 () hlo
