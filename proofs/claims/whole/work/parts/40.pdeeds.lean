/-! pure: rule, oust, join, grudge -/
theorem c_isIn2 {c : CluS} {S : Nat} (h : cl_inn c = nI S) {i : Nat} (hi : i < 31) : mo_Club_isIn c (nI i) = some (S.testBit i) := by
  rw [mo_Club_isIn, h]
  have e := pu_and S i hi
  cases hb : S.testBit i
  · rw [if_pos (e.2 hb)]
  · rw [if_neg (fun q => by have := e.1 q; rw [hb] at this; cases this)]
theorem r_isIn2 {m : MdS} {S : Nat} (h : md_row m 1 = nI S) (hS : S < 2 ^ 31) {i : Nat} (hi : i < 31) : mo_Md_isIn m (nI i) = some (S.testBit i) := by
  rw [mo_Md_isIn, h, r_has hS hi]
  rfl
def a_in (a : AC) (S : Nat) : AC := (a_n a, a_K a, a_P a, a_L a, a_r a, S, a_t a)
theorem RC.a_in {c : CluS} {a : AC} (R : RC c a) {S : Nat} (hS : S < 2 ^ a_n a) : RC (cs_inn c (nI S)) (a_in a S) := ⟨R.1, R.2.1, R.2.2.1, R.2.2.2.1, R.2.2.2.2.1, ⟨rfl, hS⟩, R.2.2.2.2.2.2⟩
theorem WB.a_in {a : AC} (W : WB a) {S : Nat} (hS : S < 2 ^ a_n a) : WB (a_in a S) := ⟨⟨W.1.1, W.1.2.1, W.1.2.2.1, W.1.2.2.2.1, hS⟩, W.2⟩
theorem RMr.kp {row : Nat → Int32} {a : AC} (h : RMr row 0 a) (hn : a_n a ≤ 6) (n : Nat) : RMr (p_kp row n) 0 a := by
  obtain ⟨r1, r2, r3, r4, r5⟩ := h
  refine ⟨?_, ?_, fun i hi => ?_, fun i hi => ?_, ?_⟩
  · rw [p_kp_low _ _ (by omega) (by omega), r1]
  · rw [p_kp_low _ _ (by omega) (by omega), r2]
  · rw [p_kp_low _ _ (by omega) (by omega), r3 i hi]
  · rw [p_kp_low _ _ (by omega) (by omega), r4 i hi]
  · rw [p_kp_low _ _ (by omega) (by omega), r5]
theorem RMr.a_in {row : Nat → Int32} {a : AC} (h : RMr row 0 a) (hn : a_n a ≤ 6) (S : Nat) : RMr (upd row 1 (nI S)) 0 (a_in a S) := by
  obtain ⟨r1, r2, r3, r4, r5⟩ := h
  refine ⟨pk_us, ?_, fun i hi => ?_, fun i hi => ?_, ?_⟩
  · rw [pk_un (by omega)]; exact r2
  · have hi' : i < a_n a := hi
    rw [pk_un (by omega)]; exact r3 i hi
  · have hi' : i < a_n a := hi
    rw [pk_un (by omega)]; exact r4 i hi
  · rw [pk_un (by omega)]; exact r5
theorem r_doTurn {m : MdS} {a : AC} (Q : RM m a) {n i : Nat} (h0 : md_row m 0 = nI n) (hn : n < 40) (hi : i < a_n a) : mo_Md_doTurn m (nI i) = some (nI (p_bc (a_b a ^^^ 2 ^ i)), ms_row m (upd (p_kp (md_row m) n) 1 (nI (a_b a ^^^ 2 ^ i)))) := by
  have hn6 := Q.1.1
  have h6 := pow6 hn6
  have hb := Q.1.2.2.2.2
  have hx : a_b a ^^^ 2 ^ i < 2 ^ a_n a := Nat.xor_lt_two_pow hb (Nat.pow_lt_pow_right (by decide) hi)
  rw [mo_Md_doTurn, r_keepPast h0 hn]
  simp only [Option.bind_some]
  have e1 : md_row (ms_row m (p_kp (md_row m) n)) 1 = nI (a_b a) := by
    show p_kp (md_row m) n 1 = nI (a_b a)
    rw [p_kp_low _ _ (by omega) (by omega), Q.inn]
  rw [e1, pu_sh i (by omega), fb_xorI, pk_us, r_bits (by omega)]
  rfl
theorem xor_out {b i : Nat} (h : b.testBit i = true) : b ^^^ 2 ^ i = p_an b (2 ^ i) := by
  apply p_bit_ext
  intro j
  rw [fb_bit_flip, p_an_bit, Nat.testBit_two_pow]
  by_cases g : j = i
  · subst g; simp [h]
  · have : ¬ i = j := fun q => g q.symm
    simp [g, this]
theorem xor_in {b i : Nat} (h : b.testBit i = false) : b ^^^ 2 ^ i = b ||| 2 ^ i := by
  apply p_bit_ext
  intro j
  rw [fb_bit_flip, fb_bit_set]
  by_cases g : j = i
  · subst g; simp [h]
  · simp [g]
theorem undo_out {a : AC} {i : Nat} (hi : i < 6) (h : (a_b a).testBit i = true) : p_undo1 (a_in a (p_an (a_b a) (2 ^ i))) i = a := by
  have e : p_an (a_b a) (2 ^ i) ||| 2 ^ i = a_b a := by
    apply p_bit_ext
    intro j
    rw [fb_bit_set, p_an_bit, Nat.testBit_two_pow]
    by_cases g : j = i
    · subst g; simp [h]
    · have : ¬ i = j := fun q => g q.symm
      simp [g, this]
  unfold p_undo1
  rw [if_pos (by omega), Nat.mod_eq_of_lt (by omega)]
  show (a_n a, a_K a, a_P a, a_L a, a_r a, p_an (a_b a) (2 ^ i) ||| 2 ^ i, a_t a) = a
  rw [e]
theorem undo_in {a : AC} {i : Nat} (hi : i < 6) (h : (a_b a).testBit i = false) : p_undo1 (a_in a (a_b a ||| 2 ^ i)) (64 + i) = a := by
  have e : p_an (a_b a ||| 2 ^ i) (2 ^ i) = a_b a := by
    apply p_bit_ext
    intro j
    rw [p_an_bit, fb_bit_set, Nat.testBit_two_pow]
    by_cases g : j = i
    · subst g; simp [h]
    · have : ¬ i = j := fun q => g q.symm
      simp [g, this]
  have e1 : (64 + i) % 64 = i := by omega
  unfold p_undo1
  rw [if_neg (by omega), if_pos (by omega), e1]
  show (a_n a, a_K a, a_P a, a_L a, a_r a, p_an (a_b a ||| 2 ^ i) (2 ^ i), a_t a) = a
  rw [e]
/-- one goes out or comes in, in both -/
theorem dd_out {s : NjS} {m : MdS} (h : Rel s m) {a : AC} {n i : Nat} (K : RK (nj_club s) (md_row m) 0 a) (Q : RM m a) (hdc : cl_dc (nj_club s) = nI n) (h0 : md_row m 0 = nI n) (hn : n < 40) (hi : i < a_n a) (hb : (a_b a).testBit i = true) : ∃ c2 m2, mo_Club_putOut (nj_club s) (nI i) = some c2 ∧ mo_Md_doTurn m (nI i) = some (nI (p_bc (a_b a ^^^ 2 ^ i)), m2) ∧ Rel (ns_club s c2) m2 ∧ cl_inn c2 = nI (a_b a ^^^ 2 ^ i) ∧ a_b a ^^^ 2 ^ i < 64 ∧ cl_dc c2 = nI (n + 1) := by
  have hn6 := Q.1.1
  have h6 := pow6 hn6
  have hbl := Q.1.2.2.2.2
  have hx : p_an (a_b a) (2 ^ i) < 2 ^ a_n a := p_an_le _ _ hbl
  have en : mo_Club_note (cs_inn (nj_club s) (nI (p_an (a_b a) (2 ^ i)))) (0 : Int32) (nI i) = some (cs_dc (cs_deeds (cs_inn (nj_club s) (nI (p_an (a_b a) (2 ^ i)))) (upd (cl_deeds (cs_inn (nj_club s) (nI (p_an (a_b a) (2 ^ i))))) n (nI (64 * 0 + i)))) (nI (n + 1))) := c_note (k := 0) hdc hn
  rw [Nat.mul_zero, Nat.zero_add] at en
  refine ⟨cs_dc (cs_deeds (cs_inn (nj_club s) (nI (p_an (a_b a) (2 ^ i)))) (upd (cl_deeds (cs_inn (nj_club s) (nI (p_an (a_b a) (2 ^ i))))) n (nI i))) (nI (n + 1)), _, ?_, r_doTurn Q h0 hn hi, ?_, ?_, ?_, ?_⟩
  · rw [mo_Club_putOut, K.1.2.2.2.2.2.1.1, pu_sh i (by omega), p_an_nI, en]
    rfl
  · rw [xor_out hb]
    exact h.deed K Q hdc hn (a2 := a_in a (p_an (a_b a) (2 ^ i))) (K.1.a_in hx) rfl (okd_0 hn6 hi) (undo_out (by omega) hb) (K.2.2.1.a_in hx) ((K.2.1.kp hn6 n).a_in hn6 _) (fun j hj => pk_un (by omega))
  · rw [xor_out hb]
  · rw [xor_out hb]; omega
  · rfl
theorem dd_in {s : NjS} {m : MdS} (h : Rel s m) {a : AC} {n i : Nat} (K : RK (nj_club s) (md_row m) 0 a) (Q : RM m a) (hdc : cl_dc (nj_club s) = nI n) (h0 : md_row m 0 = nI n) (hn : n < 40) (hi : i < a_n a) (hb : (a_b a).testBit i = false) : ∃ c2 m2, mo_Club_letIn (nj_club s) (nI i) = some c2 ∧ mo_Md_doTurn m (nI i) = some (nI (p_bc (a_b a ^^^ 2 ^ i)), m2) ∧ Rel (ns_club s c2) m2 ∧ cl_inn c2 = nI (a_b a ^^^ 2 ^ i) ∧ a_b a ^^^ 2 ^ i < 64 ∧ cl_dc c2 = nI (n + 1) := by
  have hn6 := Q.1.1
  have h6 := pow6 hn6
  have hbl := Q.1.2.2.2.2
  have hx : a_b a ||| 2 ^ i < 2 ^ a_n a := Nat.or_lt_two_pow hbl (Nat.pow_lt_pow_right (by decide) hi)
  have en : mo_Club_note (cs_inn (nj_club s) (nI (a_b a ||| 2 ^ i))) (1 : Int32) (nI i) = some (cs_dc (cs_deeds (cs_inn (nj_club s) (nI (a_b a ||| 2 ^ i))) (upd (cl_deeds (cs_inn (nj_club s) (nI (a_b a ||| 2 ^ i)))) n (nI (64 * 1 + i)))) (nI (n + 1))) := c_note (k := 1) hdc hn
  rw [Nat.mul_one] at en
  refine ⟨cs_dc (cs_deeds (cs_inn (nj_club s) (nI (a_b a ||| 2 ^ i))) (upd (cl_deeds (cs_inn (nj_club s) (nI (a_b a ||| 2 ^ i)))) n (nI (64 + i)))) (nI (n + 1)), _, ?_, r_doTurn Q h0 hn hi, ?_, ?_, ?_, ?_⟩
  · rw [mo_Club_letIn, K.1.2.2.2.2.2.1.1, pu_sh i (by omega), fa_or, en]
    rfl
  · rw [xor_in hb]
    exact h.deed K Q hdc hn (a2 := a_in a (a_b a ||| 2 ^ i)) (K.1.a_in hx) rfl (okd_1 hn6 hi) (undo_in (by omega) hb) (K.2.2.1.a_in hx) ((K.2.1.kp hn6 n).a_in hn6 _) (fun j hj => pk_un (by omega))
  · rw [xor_in hb]
  · rw [xor_in hb]; omega
  · rfl
theorem p_out_bit (a : AC) (S i : Nat) : (p_out a S).testBit i = (decide (i < a_n a) && p_of a S i) := p_mk_bit _ _ _
theorem op_oust {s : NjS} {m : MdS} (h : Rel s m) (x : Int32) : Same (mo_Nj_oust s x) (mo_Md_oust m x) := by
  obtain ⟨a, n, K, Q, hdc, h0, hn40⟩ := h.ak
  have hn := Q.1.1
  have h6 := pow6 hn
  have hb := Q.1.2.2.2.2
  have ho := p_out_lt hn (a_b a)
  rw [mo_Nj_oust, mo_Md_oust, c_isChild K.1, r_isChild Q]
  simp only [Option.bind_some]
  rcases in_or x (a_n a) (by omega) with ⟨i, hi, rfl, hb1⟩ | hb1
  · rw [hb1, K.1.2.2.2.2.2.1.1, c_putOutOf K.1, Q.inn, r_outs Q (by omega)]
    simp only [cond_true, Option.bind_some]
    rw [r_has (by omega) (by omega)]
    have e := pu_and (p_out a (a_b a)) i (by omega)
    cases hbit : (p_out a (a_b a)).testBit i
    · rw [if_pos (e.2 hbit)]
      exact Same.of h _
    · have hbi : (a_b a).testBit i = true := by
        rw [p_out_bit] at hbit
        unfold p_of at hbit
        simp only [Bool.and_eq_true] at hbit
        exact hbit.2.1
      rw [if_neg (fun q => by have := e.1 q; rw [hbit] at this; cases this), hdc, h0]
      simp only [Option.bind_some, cond_true]
      by_cases g : n < 40
      · have g1 : nI n < (40 : Int32) := nI_lt g (by decide)
        have g2 : ¬ nI n = (40 : Int32) := fun q => by
          have := (nI_eq (b := 40) (by omega) (by decide)).1 q
          omega
        rw [if_pos g1, if_neg g2]
        obtain ⟨c2, m2, w1, w2, w3, w4, w5, w6⟩ := dd_out h K Q hdc h0 g hi hbi
        rw [w1, w2]
        simp only [Option.bind_some]
        rw [w4, c_bits _ w5]
        exact Same.of w3 _
      · have : n = 40 := by omega
        subst this
        have g1 : ¬ nI 40 < (40 : Int32) := by decide
        have g2 : nI 40 = (40 : Int32) := by decide
        rw [if_neg g1, if_pos g2]
        exact Same.of h _
  · rw [hb1]
    exact Same.of h _
theorem op_join {s : NjS} {m : MdS} (h : Rel s m) (x : Int32) : Same (mo_Nj_join s x) (mo_Md_join m x) := by
  obtain ⟨a, n, K, Q, hdc, h0, hn40⟩ := h.ak
  have hn := Q.1.1
  rw [mo_Nj_join, mo_Md_join, c_isChild K.1, r_isChild Q]
  simp only [Option.bind_some]
  rcases in_or x (a_n a) (by omega) with ⟨i, hi, rfl, hb1⟩ | hb1
  · rw [hb1, c_mayJoin K.1 hi, r_mayJoin Q hi]
    simp only [cond_true, Option.bind_some]
    cases hj : p_mj a i
    · exact Same.of h _
    · have hbi : (a_b a).testBit i = false := by
        unfold p_mj at hj
        simp only [Bool.and_eq_true, Bool.not_eq_true'] at hj
        exact hj.1
      rw [hdc, h0]
      simp only [cond_true]
      by_cases g : n < 40
      · have g1 : nI n < (40 : Int32) := nI_lt g (by decide)
        have g2 : ¬ nI n = (40 : Int32) := fun q => by
          have := (nI_eq (b := 40) (by omega) (by decide)).1 q
          omega
        rw [if_pos g1, if_neg g2]
        obtain ⟨c2, m2, w1, w2, w3, w4, w5, w6⟩ := dd_in h K Q hdc h0 g hi hbi
        rw [w1, w2]
        simp only [Option.bind_some]
        rw [w4, c_bits _ w5]
        exact Same.of w3 _
      · have : n = 40 := by omega
        subst this
        have g1 : ¬ nI 40 < (40 : Int32) := by decide
        have g2 : nI 40 = (40 : Int32) := by decide
        rw [if_neg g1, if_pos g2]
        exact Same.of h _
  · rw [hb1]
    exact Same.of h _
