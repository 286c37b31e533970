/-! pure: ways -/
theorem an_pow : ∀ i, i < 6 → ∀ S, S < 64 → decide (p_an (2 ^ i) S = 0) = S.testBit i := by decide +kernel
theorem an_zero : ∀ S, S < 64 → decide (p_an 0 S = 0) = true := by decide +kernel
def p_ew (a : AC) (F S : Nat) : Nat := if (decide (p_an F S = 0) && decide (p_out a S = 0)) = true then p_W a S else 0
theorem p_ew_le {a : AC} (hn : a_n a ≤ 6) (hb : a_b a < 2 ^ a_n a) (F : Nat) {S : Nat} (hS : S < 2 ^ a_n a) : p_ew a F S ≤ 46656 := by
  unfold p_ew
  have := p_W_b hn hb hS
  split
  · exact this
  · exact Nat.zero_le _
theorem p_ew_ext {a : AC} (hn : a_n a ≤ 6) (hb : a_b a < 2 ^ a_n a) (F : Nat) : p_sm (p_ew a F) (2 ^ a_n a) = p_sm (p_ew a F) (a_b a + 1) := p_sm_ext (by omega) (fun k h1 h2 => by
  unfold p_ew
  have : p_W a k = 0 := p_W_0 hn _ _ (Nat.le_refl _) h2 (fun q => by
    have := p_an_zero_le q
    omega)
  rw [this]
  split <;> rfl)
theorem c_ends {c : CluS} {a : AC} (R : RC c a) (o : Nat → Int32) (ho : ∀ S, S < 2 ^ a_n a → o S = nI (p_W a S)) {F : Nat} (hF : F < 64) : mo_Orders_endsWith o c (nI F) = some (nI (p_sm (p_ew a F) (a_b a + 1))) := by
  have hn := R.1.1
  have h6 := pow6 hn
  have hb := R.2.2.2.2.2.1.2
  have h := pu_loop (fun f (st : Int32) i => lo_Orders_endsWith_5 o c (nI F) f st i) (a_b a + 1) (fun k => nI (p_sm (p_ew a F) k)) (some (nI (p_sm (p_ew a F) (a_b a + 1))))
    (fun f => by rw [lo_Orders_endsWith_5, R.2.2.2.2.2.1.1, if_pos (nI_lt (by omega) (by omega))])
    (fun f k hk => by
      have e1 : ¬ nI (a_b a) < nI k := fun q => (fa_of_lt q).2.1 (nI_le (by omega) (by omega))
      have e2 := an0 (x := F) (y := k) hF
      have hWb := p_W_b hn hb (by omega : k < 2 ^ a_n a)
      rw [lo_Orders_endsWith_5, R.2.2.2.2.2.1.1, if_neg e1, pu_in_t (by omega : k < 64) (by decide), pu_n (by omega : k < 2 ^ 31), ho k (by omega), c_standsStill R, nI_1 k, p_sm]
      simp only [cond_true, Option.bind_some, e2]
      have hew : p_ew a F k = if (decide (p_an F k = 0) && decide (p_out a k = 0)) = true then p_W a k else 0 := rfl
      rw [hew]
      by_cases g : p_W a k = 0
      · have e : nI (p_W a k) ≤ 0 := by rw [g]; decide
        have e3 : (if (decide (p_an F k = 0) && decide (p_out a k = 0)) = true then p_W a k else 0) = 0 := by rw [g]; split <;> rfl
        rw [if_pos e, e3]
        rfl
      · have e : ¬ nI (p_W a k) ≤ (0 : Int32) := nI_ge (a := 0) (by omega) (by omega)
        rw [if_neg e]
        by_cases g2 : p_an F k = 0
        · rw [if_pos g2]
          by_cases g3 : p_out a k = 0
          · simp only [g2, g3, decide_true, cond_true, Option.bind_some, Bool.and_true, if_true]
            rw [nI_add]
          · simp only [g2, g3, decide_true, decide_false, cond_false, Option.bind_some, Bool.and_false]
            rfl
        · rw [if_neg g2]
          simp only [g2, decide_false, Option.bind_some, Bool.false_and]
          rfl)
    (a_b a + 1) nj_fu 0 (by omega) (pu_fu (by omega))
  have h2 : lo_Orders_endsWith_5 o c (nI F) nj_fu 0 0 = _ := h
  rw [mo_Orders_endsWith, f_ob h2]
theorem as_as (m : MdS) (x y : Int32) : ms_asked (ms_asked m x) y = ms_asked m y := rfl
theorem r_ways {m : MdS} {a : AC} (Q : RM m a) {i : Nat} (hi : i < a_n a) (hm : ∀ T, T < 2 ^ a_n a → md_outOf m T = nI (p_out a T) ∧ md_ways m T = lN (p_W a T)) : lo_Md_ways_24 (nI i) nj_fu (ms_asked m 0) 0 0 = some (ms_asked m (nI (p_sm (p_ew a (2 ^ i)) (2 ^ a_n a))), lN (p_sm (p_ew a 0) (2 ^ a_n a))) := by
  have hn := Q.1.1
  have h6 := pow6 hn
  have h := pu_loop (fun f (st : MdS × Int64) j => lo_Md_ways_24 (nI i) f st.1 st.2 j) (2 ^ a_n a) (fun k => (ms_asked m (nI (p_sm (p_ew a (2 ^ i)) k)), lN (p_sm (p_ew a 0) k))) (some (ms_asked m (nI (p_sm (p_ew a (2 ^ i)) (2 ^ a_n a))), lN (p_sm (p_ew a 0) (2 ^ a_n a))))
    (fun f => by
      have ec : md_children (ms_asked m (nI (p_sm (p_ew a (2 ^ i)) (2 ^ a_n a)))) = nI (a_n a) := Q.2.1
      show lo_Md_ways_24 (nI i) (f + 1) (ms_asked m (nI (p_sm (p_ew a (2 ^ i)) (2 ^ a_n a)))) (lN (p_sm (p_ew a 0) (2 ^ a_n a))) (nI (2 ^ a_n a)) = _
      rw [lo_Md_ways_24, ec, pu_sh2 hn, if_pos (nI_le (Nat.le_refl _) (by omega))])
    (fun f k hk => by
      have ec : md_children (ms_asked m (nI (p_sm (p_ew a (2 ^ i)) k))) = nI (a_n a) := Q.2.1
      have eo : md_outOf (ms_asked m (nI (p_sm (p_ew a (2 ^ i)) k))) k = nI (p_out a k) := (hm k hk).1
      have ew : md_ways (ms_asked m (nI (p_sm (p_ew a (2 ^ i)) k))) k = lN (p_W a k) := (hm k hk).2
      have ea : md_asked (ms_asked m (nI (p_sm (p_ew a (2 ^ i)) k))) = nI (p_sm (p_ew a (2 ^ i)) k) := rfl
      have hol := p_out_lt hn k
      have e0 : (nI (p_out a k) = 0) ↔ p_out a k = 0 := nI_eq (b := 0) (by omega) (by decide)
      have hz : ∀ z : Nat, nI z + (0 : Int32) = nI (z + 0) := fun z => nI_add z 0
      show lo_Md_ways_24 (nI i) (f + 1) (ms_asked m (nI (p_sm (p_ew a (2 ^ i)) k))) (lN (p_sm (p_ew a 0) k)) (nI k) = lo_Md_ways_24 (nI i) f (ms_asked m (nI (p_sm (p_ew a (2 ^ i)) (k + 1)))) (lN (p_sm (p_ew a 0) (k + 1))) (nI (k + 1))
      rw [lo_Md_ways_24, ec, pu_sh2 hn, if_neg (nI_ge hk (by omega)), pu_in_t (by omega : k < 64) (by decide), pu_n (by omega : k < 2 ^ 31), eo, ew, ea, r_has (by omega) (by omega), nI_1 k, p_sm, p_sm, lN_i]
      simp only [cond_true, Option.bind_some, e0]
      have hew : ∀ F, p_ew a F k = if (decide (p_an F k = 0) && decide (p_out a k = 0)) = true then p_W a k else 0 := fun F => rfl
      rw [hew, hew, an_pow i (by omega) k (by omega), an_zero k (by omega)]
      by_cases g : p_out a k = 0
      · simp only [if_pos g, g, decide_true, Bool.and_true, if_true, Option.bind_some]
        cases hb : k.testBit i
        · simp only [cond_false, Option.bind_some, Bool.false_eq_true, if_false]
          rw [hz, as_as, lN_add]
        · simp only [cond_true, Option.bind_some, if_true]
          rw [nI_add, as_as, lN_add]
      · simp only [if_neg g, g, decide_false, Bool.and_false, Bool.false_eq_true, if_false, Option.bind_some]
        rw [hz, as_as, lN_0])
    (2 ^ a_n a) nj_fu 0 (by omega) (pu_fu (by omega))
  exact h
theorem op_ways {s : NjS} {m : MdS} (h : Rel s m) (x : Int32) : Same (mo_Nj_ways s x) (mo_Md_ways m x) := by
  obtain ⟨a, R, Q, W⟩ := h.ac
  have hn := R.1.1
  have h6 := pow6 hn
  have hb := Q.1.2.2.2.2
  rw [mo_Nj_ways, mo_Md_ways, c_isChild R, r_isChild Q]
  simp only [Option.bind_some]
  rcases in_or x (a_n a) (by omega) with ⟨i, hi, rfl, hbb⟩ | hbb
  · rw [hbb]
    simp only [cond_true]
    obtain ⟨o2, t1, t2⟩ := c_paths R (nj_os s)
    obtain ⟨o, l, w, u1, u2⟩ := r_layOuts Q
    have hp : 2 ^ i < 2 ^ a_n a := Nat.pow_lt_pow_right (by decide) hi
    have c1 := c_ends R o2 t2 (F := 2 ^ i) (by omega)
    have c0 : mo_Orders_endsWith o2 (nj_club s) 0 = _ := c_ends R o2 t2 (F := 0) (by decide)
    have r1 := r_ways (sc_RM Q o l w) hi (fun T hT => ⟨(u2 T hT).1, (u2 T hT).2.2⟩)
    rw [p_ew_ext hn hb, p_ew_ext hn hb] at r1
    have hs : p_sm (p_ew a 0) (a_b a + 1) ≤ (a_b a + 1) * 46656 := p_sm_bound (fun k hk => p_ew_le hn hb 0 (by omega))
    rw [f_ob t1, pu_sh i (by omega), f_ob c1, f_ob c0, f_ob u1, f_ob r1, nI_l (by omega)]
    exact ⟨_, _, _, rfl, rfl, h.1, h.2.1, h.2.2.1, h.2.2.2.1, rfl, rfl, rfl⟩
  · rw [hbb]
    exact Same.of h _
