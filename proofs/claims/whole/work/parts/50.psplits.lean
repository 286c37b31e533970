/-! pure: splits -/
theorem p_an_zero (x y : Nat) : p_an x y = 0 ↔ x &&& y = x := by
  unfold p_an
  constructor
  · intro h
    apply p_bit_ext
    intro j
    have h1 : (x ^^^ (x &&& y)).testBit j = false := by rw [h]; simp
    rw [Nat.testBit_xor, Nat.testBit_and] at h1
    rw [Nat.testBit_and]
    cases h2 : x.testBit j <;> cases h3 : y.testBit j <;> simp_all
  · intro h
    rw [h, Nat.xor_self]
theorem p_an_zero_le {x y : Nat} (h : p_an x y = 0) : x ≤ y := by
  rw [p_an_zero] at h
  rw [← h]
  exact Nat.and_le_right
theorem an0 {x y : Nat} (hx : x < 64) : (nI x &&& (nI y ^^^ (-1)) = 0) ↔ p_an x y = 0 := by
  have : p_an x y < 2 ^ 6 := p_an_le _ _ hx
  rw [p_an_nI]
  exact nI_eq (b := 0) (by omega) (by decide)
theorem op_splits {s : NjS} {m : MdS} (h : Rel s m) : Same (mo_Nj_splits s) (mo_Md_splits m) := by
  obtain ⟨a, R, Q, W⟩ := h.ac
  have hn := R.1.1
  have h6 := pow6 hn
  have hb := Q.1.2.2.2.2
  have z1 : ¬ (1 : Int32) = 0 := by decide
  have tail : ∀ (d k f2 : Nat) (v c : Int32), k + d = 64 → a_b a ≤ k → d < f2 → lo_Md_splits_17 (nI (a_b a)) f2 (ms_asked m v) c (nI k) = some (ms_asked m v, c) := by
    intro d
    induction d with
    | zero =>
      intro k f2 v c hk hbk h2
      obtain ⟨f2, rfl⟩ : ∃ z, f2 = z + 1 := ⟨f2 - 1, by omega⟩
      have : k = 64 := by omega
      subst this
      have e0 : (64 : Int32) ≤ nI 64 := by decide
      rw [lo_Md_splits_17, if_pos e0]
    | succ d ih =>
      intro k f2 v c hk hbk h2
      obtain ⟨f2, rfl⟩ : ∃ z, f2 = z + 1 := ⟨f2 - 1, by omega⟩
      have e0 : ¬ (64 : Int32) ≤ nI k := nI_ge (b := 64) (by omega) (by decide)
      have e1 : (if (nI k &&& (nI (a_b a) ^^^ (-1 : Int32))) = 0 then (if nI k = nI (a_b a) then (some (0 : Int32)) else (if ((nI k &&& nI (a_b a)) &&& (-(nI (a_b a)))) = 0 then (some (0 : Int32)) else (some (1 : Int32)))) else (some (0 : Int32))) = some 0 := by
        by_cases g : p_an k (a_b a) = 0
        · have : k = a_b a := by
            have := p_an_zero_le g
            omega
          rw [if_pos ((an0 (by omega)).2 g), if_pos (by rw [this])]
        · rw [if_neg (fun q => g ((an0 (by omega)).1 q))]
      rw [lo_Md_splits_17, if_neg e0, e1]
      simp only [Option.bind_some, if_true]
      rw [Int32.add_zero, nI_1]
      exact ih (k + 1) f2 v c (by omega) (by omega) (by omega)
  have key : ∀ (d k f1 f2 c : Nat) (v : Int32), k + d = 64 → d < f1 → d < f2 → c ≤ k → (v = -9 ↔ c = 0) → ∃ w u, lo_Nj_splits_25 s (nI (a_b a) &&& (-(nI (a_b a)))) f1 (nI c) v (nI k) = some (w, u) ∧ lo_Md_splits_17 (nI (a_b a)) f2 (ms_asked m v) (nI c) (nI k) = some (ms_asked m u, w) := by
    intro d
    induction d with
    | zero =>
      intro k f1 f2 c v hk h1 h2 hc hv
      obtain ⟨f1, rfl⟩ : ∃ z, f1 = z + 1 := ⟨f1 - 1, by omega⟩
      refine ⟨nI c, v, ?_, tail 0 k f2 v _ hk (by omega) h2⟩
      rw [lo_Nj_splits_25, R.2.2.2.2.2.1.1, if_pos (nI_le (by omega) (by omega))]
    | succ d ih =>
      intro k f1 f2 c v hk h1 h2 hc hv
      obtain ⟨f1, rfl⟩ : ∃ z, f1 = z + 1 := ⟨f1 - 1, by omega⟩
      by_cases g0 : a_b a ≤ k
      · refine ⟨nI c, v, ?_, tail (d + 1) k f2 v _ hk g0 h2⟩
        rw [lo_Nj_splits_25, R.2.2.2.2.2.1.1, if_pos (nI_le (by omega) (by omega))]
      · obtain ⟨f2, rfl⟩ : ∃ z, f2 = z + 1 := ⟨f2 - 1, by omega⟩
        have e0 : ¬ (64 : Int32) ≤ nI k := nI_ge (b := 64) (by omega) (by decide)
        have ea : md_asked (ms_asked m v) = v := rfl
        have Q' : RM (ms_asked m v) a := Q
        have eas : (nI k &&& nI (a_b a)) &&& (-(nI (a_b a))) = nI k &&& (nI (a_b a) &&& (-(nI (a_b a)))) := Int32.and_assoc ..
        have hk2 : k < 64 := by omega
        have hbk : p_an (a_b a) k < 2 ^ 6 := p_an_le _ _ (by omega)
        have ho := p_out_lt hn k
        have ho2 := p_out_lt hn (p_an (a_b a) k)
        have o1 : (nI (p_out a k) = 0) ↔ p_out a k = 0 := nI_eq (b := 0) (by omega) (by decide)
        have o2 : (nI (p_out a (p_an (a_b a) k)) = 0) ↔ p_out a (p_an (a_b a) k) = 0 := nI_eq (b := 0) (by omega) (by decide)
        have ec : (nI c = 0) ↔ c = 0 := nI_eq (b := 0) (by omega) (by decide)
        have ene : ¬ nI k = nI (a_b a) := fun q => by
          have := (nI_eq (by omega) (by omega)).1 q
          omega
        rw [lo_Nj_splits_25, lo_Md_splits_17, R.2.2.2.2.2.1.1, if_neg (nI_ge (by omega) (by omega)), if_neg e0, ea, if_neg ene, eas, p_an_nI (a_b a) k, c_standsStill R, c_standsStill R, r_outs Q' hk2, r_outs Q' hbk, nI_1 k]
        simp only [Option.bind_some, o1, o2, ec, an0 hk2]
        by_cases g1 : p_an k (a_b a) = 0
        · simp only [if_pos g1]
          by_cases g2 : nI k &&& (nI (a_b a) &&& (-(nI (a_b a)))) = 0
          · simp only [if_pos g2]
            simp only [Option.bind_some, if_true]
            rw [Int32.add_zero]
            exact ih (k + 1) f1 f2 c v (by omega) (by omega) (by omega) (by omega) hv
          · simp only [if_neg g2]
            simp only [Option.bind_some, if_neg z1]
            by_cases g3 : p_out a k = 0
            · rw [decide_eq_true g3, if_pos g3]
              by_cases g4 : p_out a (p_an (a_b a) k) = 0
              · rw [decide_eq_true g4, if_pos g4]
                simp only [Option.bind_some, cond_true, if_neg z1]
                rw [nI_1 c]
                have knz : ¬ nI k = -9 := fun q => by
                  have := nI_pos' (n := k) (by omega)
                  rw [q] at this
                  exact absurd this (by decide)
                by_cases g5 : c = 0
                · rw [if_pos (hv.2 g5), if_pos g5]
                  exact ih (k + 1) f1 f2 (c + 1) (nI k) (by omega) (by omega) (by omega) (by omega) ⟨fun q => absurd q knz, fun q => absurd q (by omega)⟩
                · rw [if_neg (fun q => g5 (hv.1 q)), if_neg g5]
                  exact ih (k + 1) f1 f2 (c + 1) v (by omega) (by omega) (by omega) (by omega) ⟨fun q => absurd (hv.1 q) g5, fun q => absurd q (by omega)⟩
              · rw [decide_eq_false g4, if_neg g4]
                simp only [Option.bind_some, cond_true, cond_false, if_true]
                rw [Int32.add_zero]
                exact ih (k + 1) f1 f2 c v (by omega) (by omega) (by omega) (by omega) hv
            · rw [decide_eq_false g3, if_neg g3]
              simp only [Option.bind_some, cond_false, if_true]
              rw [Int32.add_zero]
              exact ih (k + 1) f1 f2 c v (by omega) (by omega) (by omega) (by omega) hv
        · simp only [if_neg g1]
          simp only [Option.bind_some, if_true]
          rw [Int32.add_zero]
          exact ih (k + 1) f1 f2 c v (by omega) (by omega) (by omega) (by omega) hv
  obtain ⟨w, u, w1, w2⟩ := key 63 1 nj_fu nj_fu 0 (-9) (by omega) (pu_fu (by omega)) (pu_fu (by omega)) (by omega) ⟨fun _ => rfl, fun _ => rfl⟩
  have w1' : lo_Nj_splits_25 s (nI (a_b a) &&& (-(nI (a_b a)))) nj_fu 0 (-9) 1 = some (w, u) := w1
  have w2' : lo_Md_splits_17 (nI (a_b a)) nj_fu (ms_asked m (-9)) 0 1 = some (ms_asked m u, w) := w2
  rw [mo_Nj_splits, mo_Md_splits, R.2.2.2.2.2.1.1, Q.inn, w1', w2']
  exact Same.of (h.an _) _
