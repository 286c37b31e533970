/-! pure: rule, grudge, fee -/
/-- the club once child i likes child k no more, or likes it -/
def a_tog (a : AC) (i k : Nat) : AC := (a_n a, a_K a, a_P a, (fun j => if j = k then a_L a j ^^^ 2 ^ i else a_L a j), a_r a, a_b a, a_t a)
theorem tog_tog (a : AC) (i k : Nat) : a_tog (a_tog a i k) i k = a := by
  have e : (fun j => if j = k then (if j = k then a_L a j ^^^ 2 ^ i else a_L a j) ^^^ 2 ^ i else (if j = k then a_L a j ^^^ 2 ^ i else a_L a j)) = a_L a := by
    funext j
    by_cases g : j = k
    · simp only [g, if_true, Nat.xor_assoc, Nat.xor_self, Nat.xor_zero]
    · simp only [g, if_false]
  show (a_n a, a_K a, a_P a, (fun j => if j = k then (if j = k then a_L a j ^^^ 2 ^ i else a_L a j) ^^^ 2 ^ i else (if j = k then a_L a j ^^^ 2 ^ i else a_L a j)), a_r a, a_b a, a_t a) = a
  rw [e]
theorem RC.tog {c : CluS} {a : AC} (R : RC c a) {i k : Nat} (hi : i < a_n a) : RC (cs_liked c (upd (cl_liked c) k (nI (a_L a k ^^^ 2 ^ i)))) (a_tog a i k) := by
  refine ⟨R.1, R.2.1, R.2.2.1, fun j hj => ?_, R.2.2.2.2⟩
  show upd (cl_liked c) k (nI (a_L a k ^^^ 2 ^ i)) j = nI (if j = k then a_L a j ^^^ 2 ^ i else a_L a j) ∧ (if j = k then a_L a j ^^^ 2 ^ i else a_L a j) < 2 ^ a_n a
  have hL := R.2.2.2.1 j hj
  by_cases g : j = k
  · subst g
    rw [pk_us, if_pos rfl]
    exact ⟨rfl, Nat.xor_lt_two_pow hL.2 (Nat.pow_lt_pow_right (by decide) hi)⟩
  · rw [pk_un g, if_neg g]
    exact hL
theorem c_toggle {c : CluS} {a : AC} (R : RC c a) {i k : Nat} (hi : i < a_n a) (hk : k < a_n a) : mo_Club_toggleLiking c (nI i) (nI k) = some (cs_liked c (upd (cl_liked c) k (nI (a_L a k ^^^ 2 ^ i)))) := by
  have hn := R.1.1
  rw [mo_Club_toggleLiking, pu_in_t (by omega : k < 6) (by decide), pu_n (by omega), (R.2.2.2.1 k hk).1, pu_sh i (by omega), fb_xorI]
  rfl
theorem lk_tog (a : AC) {i k : Nat} (hk : k < a_n a) (j : Nat) : p_lk (a_tog a i k) j = if j = i then p_lk a i ^^^ 2 ^ k else p_lk a j := by
  apply p_bit_ext
  intro q
  rw [p_lk_bit]
  show (decide (q < a_n a) && (if q = k then a_L a q ^^^ 2 ^ i else a_L a q).testBit j) = _
  by_cases gq : q = k
  · subst gq
    rw [if_pos rfl, fb_bit_flip]
    by_cases gj : j = i
    · subst gj
      rw [if_pos rfl, fb_bit_flip, p_lk_bit]
      simp [hk]
    · rw [if_neg gj, p_lk_bit]
      simp [gj]
  · rw [if_neg gq]
    by_cases gj : j = i
    · subst gj
      rw [if_pos rfl, fb_bit_flip, p_lk_bit]
      simp [gq]
    · rw [if_neg gj, p_lk_bit]
theorem WA.tog {a : AC} (W : WA a) {i k : Nat} (hi : i < a_n a) : WA (a_tog a i k) := by
  refine ⟨W.1, W.2.1, fun j hj => ?_, W.2.2.2⟩
  show (if j = k then a_L a j ^^^ 2 ^ i else a_L a j) < 2 ^ a_n a
  by_cases g : j = k
  · rw [if_pos g]
    exact Nat.xor_lt_two_pow (W.2.2.1 j hj) (Nat.pow_lt_pow_right (by decide) hi)
  · rw [if_neg g]
    exact W.2.2.1 j hj
theorem WB.tog {a : AC} (W : WB a) {i k : Nat} (hi : i < a_n a) (hne : i ≠ k) : WB (a_tog a i k) := by
  refine ⟨W.1.tog hi, W.2.1, fun j hj => ?_⟩
  show (if j = k then a_L a j ^^^ 2 ^ i else a_L a j).testBit j = false
  by_cases g : j = k
  · rw [if_pos g, fb_bit_flip, W.2.2 j hj]
    have : ¬ j = i := fun q => hne (q.symm.trans g)
    simp [this]
  · rw [if_neg g]
    exact W.2.2 j hj
theorem RMr.tog {row : Nat → Int32} {a : AC} (h : RMr row 0 a) (hn : a_n a ≤ 6) {i k : Nat} (hi : i < a_n a) (hk : k < a_n a) : RMr (upd row (9 + i) (nI (p_lk a i ^^^ 2 ^ k))) 0 (a_tog a i k) := by
  obtain ⟨r1, r2, r3, r4, r5⟩ := h
  refine ⟨?_, ?_, fun j hj => ?_, fun j hj => ?_, ?_⟩
  · rw [pk_un (by omega)]; exact r1
  · rw [pk_un (by omega)]; exact r2
  · have hj' : j < a_n a := hj
    rw [pk_un (by omega)]; exact r3 j hj
  · have hj' : j < a_n a := hj
    rw [lk_tog a hk]
    by_cases g : j = i
    · subst g
      rw [if_pos rfl, Nat.zero_add, pk_us]
    · rw [if_neg g, pk_un (by omega)]
      exact r4 j hj
  · rw [pk_un (by omega)]; exact r5
theorem undo_tog {a : AC} {i k : Nat} (hi : i < 6) (hk : k < 6) : p_undo1 (a_tog a i k) (192 + (6 * i + k)) = a := by
  have e0 : (192 + (6 * i + k)) % 64 = 6 * i + k := by omega
  have e1 : (192 + (6 * i + k)) % 64 % 6 = k := by rw [e0]; omega
  have e2 : (192 + (6 * i + k)) % 64 / 6 = i := by rw [e0]; omega
  unfold p_undo1
  rw [if_neg (by omega), if_neg (by omega), if_neg (by omega), e1, e2]
  exact tog_tog a i k
theorem dd_tog {s : NjS} {m : MdS} (h : Rel s m) {a : AC} {n i k : Nat} (K : RK (nj_club s) (md_row m) 0 a) (Q : RM m a) (hdc : cl_dc (nj_club s) = nI n) (h0 : md_row m 0 = nI n) (hn : n < 40) (hi : i < a_n a) (hk : k < a_n a) (hne : i ≠ k) : ∃ c2 m2, mo_Club_bearGrudge (nj_club s) (nI i) (nI k) = some c2 ∧ mo_Md_doGrudge m (nI i) (nI k) = some (nI (if (a_L a k ^^^ 2 ^ i).testBit i then 1 else 0), m2) ∧ Rel (ns_club s c2) m2 ∧ cl_liked c2 k = nI (a_L a k ^^^ 2 ^ i) ∧ cl_dc c2 = nI (n + 1) := by
  have hn6 := Q.1.1
  have h6 := pow6 hn6
  have hl := p_lk_lt (a := a) i
  have hLk := Q.1.2.2.1 k hk
  have hx : p_lk a i ^^^ 2 ^ k < 2 ^ a_n a := Nat.xor_lt_two_pow hl (Nat.pow_lt_pow_right (by decide) hk)
  have en : mo_Club_note (cs_liked (nj_club s) (upd (cl_liked (nj_club s)) k (nI (a_L a k ^^^ 2 ^ i)))) (3 : Int32) (nI (6 * i + k)) = some (cs_dc (cs_deeds (cs_liked (nj_club s) (upd (cl_liked (nj_club s)) k (nI (a_L a k ^^^ 2 ^ i)))) (upd (cl_deeds (cs_liked (nj_club s) (upd (cl_liked (nj_club s)) k (nI (a_L a k ^^^ 2 ^ i))))) n (nI (64 * 3 + (6 * i + k))))) (nI (n + 1))) := c_note (k := 3) hdc hn
  have e6 : ((6 : Int32) * nI i) + nI k = nI (6 * i + k) := by
    have : (6 : Int32) * nI i = nI (6 * i) := pk_mul 6 i
    rw [this, nI_add]
  refine ⟨cs_dc (cs_deeds (cs_liked (nj_club s) (upd (cl_liked (nj_club s)) k (nI (a_L a k ^^^ 2 ^ i)))) (upd (cl_deeds (cs_liked (nj_club s) (upd (cl_liked (nj_club s)) k (nI (a_L a k ^^^ 2 ^ i))))) n (nI (64 * 3 + (6 * i + k))))) (nI (n + 1)), ms_row m (upd (p_kp (md_row m) n) (9 + i) (nI (p_lk a i ^^^ 2 ^ k))), ?_, ?_, ?_, ?_, ?_⟩
  · rw [mo_Club_bearGrudge, c_toggle K.1 hi hk]
    simp only [Option.bind_some]
    rw [e6, en]
    rfl
  · rw [mo_Md_doGrudge, r_keepPast h0 hn]
    simp only [Option.bind_some]
    have e1 : md_row (ms_row m (p_kp (md_row m) n)) (9 + i) = nI (p_lk a i) := by
      show p_kp (md_row m) n (9 + i) = nI (p_lk a i)
      rw [p_kp_low _ _ (by omega) (by omega), Q.lik hi]
    rw [e9, pu_in_t (by omega : 9 + i < 2304) (by decide), pu_n (by omega), e1, pu_sh k (by omega), fb_xorI, pk_us, pu_shr (by omega) (by omega)]
    have eb : (p_lk a i ^^^ 2 ^ k).testBit k = (a_L a k ^^^ 2 ^ i).testBit i := by
      rw [fb_bit_flip, fb_bit_flip, p_lk_bit]
      simp [hk]
    rw [eb]
    rfl
  · exact h.deed K Q hdc hn (a2 := a_tog a i k) (K.1.tog hi) rfl (okd_3 hn6 hi hk) (undo_tog (by omega) (by omega)) (K.2.2.1.tog hi hne) ((K.2.1.kp hn6 n).tog hn6 hi hk) (fun j hj => pk_un (by omega))
  · exact pk_us
  · rfl
theorem op_grudge {s : NjS} {m : MdS} (h : Rel s m) (x y : Int32) : Same (mo_Nj_grudge s x y) (mo_Md_grudge m x y) := by
  obtain ⟨a, n, K, Q, hdc, h0, hn40⟩ := h.ak
  have hn := Q.1.1
  have h6 := pow6 hn
  rw [mo_Nj_grudge, mo_Md_grudge, mo_Md_areTwo, c_isChild K.1, r_isChild Q, c_isChild K.1, r_isChild Q]
  simp only [Option.bind_some]
  rcases in_or x (a_n a) (by omega) with ⟨i, hi, rfl, hb1⟩ | hb1
  · rw [hb1]
    simp only [cond_true]
    rcases in_or y (a_n a) (by omega) with ⟨k, hk, rfl, hb2⟩ | hb2
    · rw [hb2]
      simp only [cond_true]
      have e : (nI i = nI k) ↔ i = k := nI_eq (by omega) (by omega)
      by_cases g0 : i = k
      · rw [if_pos (e.2 g0), if_pos (e.2 g0)]
        exact Same.of h _
      · rw [if_neg (fun q => g0 (e.1 q)), if_neg (fun q => g0 (e.1 q)), hdc, h0]
        simp only [Option.bind_some, cond_true]
        by_cases g : n < 40
        · have g1 : nI n < (40 : Int32) := nI_lt g (by decide)
          have g2 : ¬ nI n = (40 : Int32) := fun q => by
            have := (nI_eq (b := 40) (by omega) (by decide)).1 q
            omega
          rw [if_pos g1, if_neg g2]
          obtain ⟨c2, m2, w1, w2, w3, w4, w5⟩ := dd_tog h K Q hdc h0 g hi hk g0
          have hLk := Q.1.2.2.1 k hk
          have hx : a_L a k ^^^ 2 ^ i < 2 ^ a_n a := Nat.xor_lt_two_pow hLk (Nat.pow_lt_pow_right (by decide) hi)
          rw [w1, w2]
          simp only [Option.bind_some]
          rw [pu_in_t (by omega : k < 6) (by decide), pu_n (by omega), w4, pu_shr (by omega) (by omega)]
          exact Same.of w3 _
        · have : n = 40 := by omega
          subst this
          have g1 : ¬ nI 40 < (40 : Int32) := by decide
          have g2 : nI 40 = (40 : Int32) := by decide
          rw [if_neg g1, if_pos g2]
          exact Same.of h _
    · rw [hb2]
      exact Same.of h _
  · rw [hb1]
    exact Same.of h _
theorem op_rule {s : NjS} {m : MdS} (h : Rel s m) (x : Int32) : Same (mo_Nj_rule s x) (mo_Md_rule m x) := by
  obtain ⟨a, n, K, Q, hdc, h0, hn40⟩ := h.ak
  have hn := Q.1.1
  have h7 : mo_Md_in (Int32.toInt64 x) (0 : Int64) (3 : Int64) = some (decide ((0 : Int32) ≤ x) && decide (x < nI 4)) := by
    have h : mo_Md_in (Int32.toInt64 x) (0 : Int64) (3 : Int64) = some (decide ((0 : Int32) ≤ x) && decide (x ≤ (3 : Int32))) := r_in x 0 3
    rw [h]
    have e : (x ≤ (3 : Int32)) ↔ x < nI 4 := pu_lt1 x 3 (by decide)
    simp only [e]
  have h8 : mo_Nj_rule s x = _ := c_range2 x 4 (by decide) (some ((-1 : Int32), s)) (if (cl_children (nj_club s)) = 0 then (some ((-4 : Int32), s)) else (if (cl_dc (nj_club s)) ≤ 0 then (some ((cl_rule (nj_club s)), (ns_club s (cs_rule (nj_club s) x)))) else (some ((-4 : Int32), s))))
  rw [h8, mo_Md_rule, h7]
  rcases in_or x 4 (by decide) with ⟨r, hr, rfl, hb⟩ | hb
  · rw [hb, K.1.1.2, Q.2.1, hdc, h0]
    simp only [Option.bind_some, cond_true, if_true]
    by_cases g : nI (a_n a) = 0
    · rw [if_pos g, if_pos g]
      exact Same.of h _
    · rw [if_neg g, if_neg g]
      by_cases g2 : nI n ≤ 0
      · rw [if_pos g2, if_pos g2, K.1.2.2.2.2.1.1, Q.rul]
        have hn0 : n = 0 := by
          have := (nI_leI (b := 0) (by omega) (by decide)).1 g2
          omega
        subst hn0
        obtain ⟨r1, r2, r3, r4, r5⟩ := K.2.1
        let a2 : AC := (a_n a, a_K a, a_P a, a_L a, r, a_b a, a_t a)
        have K2 : RK (cs_rule (nj_club s) (nI r)) (upd (md_row m) 15 (nI r)) 0 a2 := by
          refine ⟨⟨K.1.1, K.1.2.1, K.1.2.2.1, K.1.2.2.2.1, ⟨rfl, hr⟩, K.1.2.2.2.2.2⟩, ⟨?_, ?_, fun i hi => ?_, fun i hi => ?_, ?_⟩, ⟨⟨Q.1.1, Q.1.2.1, Q.1.2.2.1, hr, Q.1.2.2.2.2⟩, K.2.2.1.2⟩, 0, fun _ => 0, by omega, hdc, ?_, fun j hj => absurd hj (by omega), fun j hj => absurd hj (by omega)⟩
          · rw [pk_un (by omega)]; exact r1
          · rw [pk_un (by omega)]; exact r2
          · have hi' : i < a_n a := hi
            rw [pk_un (by omega)]; exact r3 i hi
          · have hi' : i < a_n a := hi
            rw [pk_un (by omega)]; exact r4 i hi
          · exact pk_us
          · rw [pk_un (by omega)]; exact h0
        refine ⟨_, _, _, rfl, rfl, h.1, h.2.1, h.2.2.1.set (a2 := a2) Q.2.1 Q.2.2.1 K2 (fun j hj => ?_), h.2.2.2⟩
        show upd (md_row m) 15 (nI r) j = md_row m j
        exact pk_un (by omega)
      · rw [if_neg g2, if_neg g2]
        exact Same.of h _
  · rw [hb]
    exact Same.of h _
