/-! pure: yes, can, rules, asked, upper, lower, finding, findings -/
theorem f_oneIn {s : NjS} {a : AC} (R : RC (nj_club s) a) (x : Int32) : (∃ i, i < a_n a ∧ x = nI i ∧ (a_b a).testBit i = true ∧ (decide (0 ≤ x) && decide (x < nI (a_n a))) = true ∧ mo_Nj_refusalOfOneIn s x = some 0) ∨ (∃ i, i < a_n a ∧ x = nI i ∧ (a_b a).testBit i = false ∧ (decide (0 ≤ x) && decide (x < nI (a_n a))) = true ∧ mo_Nj_refusalOfOneIn s x = some (-4)) ∨ ((decide (0 ≤ x) && decide (x < nI (a_n a))) = false ∧ mo_Nj_refusalOfOneIn s x = some (-1)) := by
  have hn := R.1.1
  have e0 : mo_Nj_refusalOfOneIn s x = (bif (decide (0 ≤ x) && decide (x < nI (a_n a))) then ((mo_Club_isIn (nj_club s) x).bind (fun w3 => (bif w3 then (some (0 : Int32)) else (some (-4 : Int32))))) else (some (-1 : Int32))) := by
    rw [mo_Nj_refusalOfOneIn, c_isChild R]
    rfl
  rcases in_or x (a_n a) (by omega) with ⟨i, hi, rfl, hb⟩ | hb
  · rw [hb, c_isIn R (by omega)] at e0
    cases hbi : (a_b a).testBit i
    · rw [hbi] at e0
      exact Or.inr (Or.inl ⟨i, hi, rfl, hbi, hb, e0⟩)
    · rw [hbi] at e0
      exact Or.inl ⟨i, hi, rfl, hbi, hb, e0⟩
  · rw [hb] at e0
    exact Or.inr (Or.inr ⟨hb, e0⟩)
theorem op_yes {s : NjS} {m : MdS} (h : Rel s m) (x : Int32) : Same (mo_Nj_yes s x) (mo_Md_yes m x) := by
  obtain ⟨a, R, Q, W⟩ := h.ac
  have hn := R.1.1
  have h6 := pow6 hn
  have hb := Q.1.2.2.2.2
  have n4 : ¬ (-4 : Int32) = 0 := by decide
  have n1 : ¬ (-1 : Int32) = 0 := by decide
  rw [mo_Nj_yes, mo_Md_yes, r_isChild Q]
  rcases f_oneIn R x with ⟨i, hi, rfl, b1, b2, b3⟩ | ⟨i, hi, rfl, b1, b2, b3⟩ | ⟨b2, b3⟩
  · rw [b2, b3, pu_in_t (by omega : i < 6) (by decide), pu_n (by omega), (R.2.2.2.1 i hi).1, R.2.2.2.2.2.1.1, c_votesAgainst R (by omega), c_votesOfSet R]
    simp only [Option.bind_some, cond_true, if_true]
    rw [r_isIn Q (by omega), b1, Q.inn, r_yesFor Q hi (by omega), r_votesOf Q (by omega)]
    exact Same.of (h.an _) _
  · rw [b2, b3]
    simp only [Option.bind_some, cond_true, if_neg n4]
    rw [r_isIn Q (by omega), b1]
    exact Same.of h _
  · rw [b2, b3]
    simp only [Option.bind_some, cond_false, if_neg n1]
    exact Same.of h _
theorem op_rules {s : NjS} {m : MdS} (h : Rel s m) (x : Int32) : ∃ v, mo_Nj_rules s x = some v ∧ mo_Md_rules m x = some v := by
  obtain ⟨a, R, Q, W⟩ := h.ac
  have hn := R.1.1
  have h6 := pow6 hn
  have hb := Q.1.2.2.2.2
  have n4 : ¬ (-4 : Int32) = 0 := by decide
  have n1 : ¬ (-1 : Int32) = 0 := by decide
  rw [mo_Nj_rules, mo_Md_rules, r_isChild Q]
  rcases f_oneIn R x with ⟨i, hi, rfl, b1, b2, b3⟩ | ⟨i, hi, rfl, b1, b2, b3⟩ | ⟨b2, b3⟩
  · rw [b2, b3]
    simp only [Option.bind_some, cond_true, if_true]
    rw [r_isIn Q (by omega), b1]
    have hc := pu_loop (fun f v j => lo_Nj_rules_17 s (nI i) f v j) 4 (fun k => nI (p_mk (fun r => p_po a i (a_b a) (a_L a i) r) k)) (some (nI (p_mk (fun r => p_po a i (a_b a) (a_L a i) r) 4)))
      (fun f => by
        have e0 : (4 : Int32) ≤ nI 4 := nI_le (Nat.le_refl 4) (by decide)
        rw [lo_Nj_rules_17, if_pos e0])
      (fun f k hk => by
        have e2 : ¬ ((4 : Int32) ≤ nI k) := nI_ge hk (by decide)
        rw [lo_Nj_rules_17, if_neg e2, pu_in_t (by omega : i < 6) (by decide), pu_n (by omega), (R.2.2.2.1 i hi).1, R.2.2.2.2.2.1.1, c_isPutOut R hi hk, nI_1, ← p_or0 _ k (by omega)]
        simp only [cond_true, Option.bind_some]
        cases p_po a i (a_b a) (a_L a i) k
        · show lo_Nj_rules_17 s (nI i) f _ _ = lo_Nj_rules_17 s (nI i) f (_ ||| (0 : Int32)) _
          rw [Int32.or_zero]
        · rfl)
      4 nj_fu 0 (by omega) (pu_fu (by omega))
    have hr := pu_loop (fun f v j => lo_Md_rules_25 m (nI i) f v j) 4 (fun k => nI (p_mk (fun r => p_po a i (a_b a) (a_L a i) r) k)) (some (nI (p_mk (fun r => p_po a i (a_b a) (a_L a i) r) 4)))
      (fun f => by
        have e0 : (4 : Int32) ≤ nI 4 := nI_le (Nat.le_refl 4) (by decide)
        rw [lo_Md_rules_25, if_pos e0])
      (fun f k hk => by
        have e2 : ¬ ((4 : Int32) ≤ nI k) := nI_ge hk (by decide)
        rw [lo_Md_rules_25, if_neg e2, Q.inn, r_isOut Q hi (by omega) hk, nI_1, ← p_or0 _ k (by omega)]
        simp only [Option.bind_some]
        cases p_po a i (a_b a) (a_L a i) k <;> rfl)
      4 nj_fu 0 (by omega) (pu_fu (by omega))
    have hc2 : lo_Nj_rules_17 s (nI i) nj_fu 0 0 = _ := hc
    have hr2 : lo_Md_rules_25 m (nI i) nj_fu 0 0 = _ := hr
    rw [hc2, hr2]
    exact ⟨_, rfl, rfl⟩
  · rw [b2, b3]
    simp only [Option.bind_some, cond_true, if_neg n4]
    rw [r_isIn Q (by omega), b1]
    exact ⟨_, rfl, rfl⟩
  · rw [b2, b3]
    simp only [Option.bind_some, cond_false, if_neg n1]
    exact ⟨_, rfl, rfl⟩
theorem op_can {s : NjS} {m : MdS} (h : Rel s m) : Same (mo_Nj_can s) (mo_Md_can m) := by
  obtain ⟨a, R, Q, W⟩ := h.ac
  have hn := R.1.1
  have h6 := pow6 hn
  have hb := Q.1.2.2.2.2
  have hc := pu_loop (fun f v j => lo_Nj_can_4 s f v j) (a_n a) (fun k => nI (p_mk (p_mj a) k)) (some (nI (p_mk (p_mj a) (a_n a))))
    (fun f => by rw [lo_Nj_can_4, R.1.2, if_pos (nI_le (Nat.le_refl _) (by omega))])
    (fun f k hk => by
      rw [lo_Nj_can_4, R.1.2, if_neg (nI_ge hk (by omega)), c_mayJoin R hk, nI_1, ← p_or0 _ k (by omega)]
      simp only [Option.bind_some]
      cases p_mj a k
      · show lo_Nj_can_4 s f _ _ = lo_Nj_can_4 s f (_ ||| (0 : Int32)) _
        rw [Int32.or_zero]
      · rfl)
    (a_n a) nj_fu 0 (by omega) (pu_fu (by omega))
  have hr := pu_loop (fun f (v : MdS) j => lo_Md_can_7 f v j) (a_n a) (fun k => ms_asked m (nI (p_mk (p_mj a) k))) (some (ms_asked m (nI (p_mk (p_mj a) (a_n a)))))
    (fun f => by
      have e : md_children (ms_asked m (nI (p_mk (p_mj a) (a_n a)))) = nI (a_n a) := Q.2.1
      rw [lo_Md_can_7, e, if_pos (nI_le (Nat.le_refl _) (by omega))])
    (fun f k hk => by
      have e : md_children (ms_asked m (nI (p_mk (p_mj a) k))) = nI (a_n a) := Q.2.1
      have Q' : RM (ms_asked m (nI (p_mk (p_mj a) k))) a := Q
      rw [lo_Md_can_7, e, if_neg (nI_ge hk (by omega)), r_mayJoin Q' hk, nI_1, ← p_or0 _ k (by omega)]
      simp only [Option.bind_some]
      cases p_mj a k <;> rfl)
    (a_n a) nj_fu 0 (by omega) (pu_fu (by omega))
  have hc2 : lo_Nj_can_4 s nj_fu 0 0 = _ := hc
  have hr2 : lo_Md_can_7 nj_fu (ms_asked m 0) 0 = _ := hr
  have Q' : RM (ms_asked m (nI (p_mk (p_mj a) (a_n a)))) a := Q
  have e1 : md_row (ms_asked m (nI (p_mk (p_mj a) (a_n a)))) 1 = nI (a_b a) := Q.inn
  rw [mo_Nj_can, mo_Md_can, hc2, hr2, R.2.2.2.2.2.1.1, c_putOutOf R]
  simp only [Option.bind_some]
  rw [e1, r_outs Q' (by omega)]
  exact Same.of (h.an _) _
theorem op_asked {s : NjS} {m : MdS} (h : Rel s m) : ∃ v, mo_Nj_asked s = some v ∧ mo_Md_asked m = some v := ⟨_, rfl, congrArg some h.2.2.2.2.1.symm⟩
theorem op_upper {s : NjS} {m : MdS} (h : Rel s m) : ∃ v, mo_Nj_upper s = some v ∧ mo_Md_upper m = some v := ⟨_, rfl, congrArg some h.2.2.2.2.2.1.symm⟩
theorem op_lower {s : NjS} {m : MdS} (h : Rel s m) : ∃ v, mo_Nj_lower s = some v ∧ mo_Md_lower m = some v := ⟨_, rfl, congrArg some h.2.2.2.2.2.2.symm⟩
theorem op_finding {s : NjS} {m : MdS} (h : Rel s m) : ∃ v, mo_Nj_finding s = some v ∧ mo_Md_finding m = some v := ⟨_, rfl, congrArg some h.2.2.2.1.1.symm⟩
theorem op_findings {s : NjS} {m : MdS} (h : Rel s m) (y : Int32) : ∃ v, mo_Nj_findings s y = some v ∧ mo_Md_findings m y = some v := by
  have h6 : mo_Md_in (Int32.toInt64 y) (1 : Int64) (5 : Int64) = some (decide ((1 : Int32) ≤ y) && decide (y ≤ (5 : Int32))) := r_in y 1 5
  rw [mo_Nj_findings, mo_Md_findings, h6]
  simp only [Option.bind_some]
  by_cases g1 : y < 1
  · have : ¬ (1 : Int32) ≤ y := (fa_of_lt g1).2.1
    rw [if_pos g1, decide_eq_false this]
    exact ⟨_, rfl, rfl⟩
  · have g1' : (1 : Int32) ≤ y := fa_of_nlt g1
    rw [if_neg g1, decide_eq_true g1']
    by_cases g2 : y ≤ 5
    · rw [if_pos g2, decide_eq_true g2]
      obtain ⟨k, hk, rfl⟩ := nI_of2 (x := y) (M := 5) (n := 5) (by decide) (fun w => by
        have h1 := (fa_lt y 0).1 w
        have h2 := (fa_le 1 y).1 g1'
        have e : (0 : Int32).toInt = 0 := rfl
        have e' : (1 : Int32).toInt = 1 := rfl
        omega) g2
      rw [pu_in_t (by omega : k < 6) (by decide), pu_n (by omega), h.2.2.2.1.2 k (by omega)]
      exact ⟨_, rfl, rfl⟩
    · rw [if_neg g2, decide_eq_false g2]
      exact ⟨_, rfl, rfl⟩
