/-! pure: stands, splits -/
theorem op_stands {s : NjS} {m : MdS} (h : Rel s m) : Same (mo_Nj_stands s) (mo_Md_stands m) := by
  obtain ⟨a, R, Q, W⟩ := h.ac
  have hn := R.1.1
  have h6 := pow6 hn
  have key : ∀ (d k f1 f2 b : Nat) (v : Int32), k + d = 2 ^ a_n a → d < f1 → d < f2 → b < 64 → ∃ (w : Int32) (b2 : Nat), lo_Nj_stands_6 s f1 v (nI b) (nI k) = some (w, nI b2) ∧ lo_Md_stands_9 f2 (ms_asked m (nI b)) v (nI k) = some (ms_asked m (nI b2), w) := by
    intro d
    induction d with
    | zero =>
      intro k f1 f2 b v hk h1 h2 hb
      obtain ⟨f1, rfl⟩ : ∃ z, f1 = z + 1 := ⟨f1 - 1, by omega⟩
      obtain ⟨f2, rfl⟩ : ∃ z, f2 = z + 1 := ⟨f2 - 1, by omega⟩
      have : k = 2 ^ a_n a := by omega
      subst this
      have e : md_children (ms_asked m (nI b)) = nI (a_n a) := Q.2.1
      rw [lo_Nj_stands_6, lo_Md_stands_9, R.1.2, e, pu_sh _ (by omega), if_pos (nI_le (Nat.le_refl _) (by omega)), if_pos (nI_le (Nat.le_refl _) (by omega))]
      exact ⟨v, b, rfl, rfl⟩
    | succ d ih =>
      intro k f1 f2 b v hk h1 h2 hb
      obtain ⟨f1, rfl⟩ : ∃ z, f1 = z + 1 := ⟨f1 - 1, by omega⟩
      obtain ⟨f2, rfl⟩ : ∃ z, f2 = z + 1 := ⟨f2 - 1, by omega⟩
      have e : md_children (ms_asked m (nI b)) = nI (a_n a) := Q.2.1
      have ea : md_asked (ms_asked m (nI b)) = nI b := rfl
      have Q' : RM (ms_asked m (nI b)) a := Q
      have hk2 : k < 64 := by omega
      have ho := p_out_lt hn k
      have e0 : (nI (p_out a k) = 0) ↔ p_out a k = 0 := nI_eq (b := 0) (by omega) (by decide)
      have z1 : ¬ (1 : Int32) = 0 := by decide
      rw [lo_Nj_stands_6, lo_Md_stands_9, R.1.2, e, pu_sh _ (by omega), if_neg (nI_ge (by omega) (by omega)), if_neg (nI_ge (by omega) (by omega)), c_standsStill R, r_outs Q' hk2, c_bits _ hk2, c_bits _ hb, r_bits hk2, ea, r_bits hb, nI_1]
      simp only [Option.bind_some, e0]
      by_cases g : p_out a k = 0
      · rw [decide_eq_true g, if_pos g]
        simp only [cond_true, Option.bind_some, if_neg z1]
        by_cases g2 : nI (p_bc k) ≤ nI (p_bc b)
        · rw [if_pos g2, if_pos g2]
          exact ih (k + 1) f1 f2 b (v + 1) (by omega) (by omega) (by omega) hb
        · rw [if_neg g2, if_neg g2]
          exact ih (k + 1) f1 f2 k (v + 1) (by omega) (by omega) (by omega) hk2
      · rw [decide_eq_false g, if_neg g]
        simp only [cond_false, Option.bind_some, if_true]
        rw [Int32.add_zero]
        exact ih (k + 1) f1 f2 b v (by omega) (by omega) (by omega) hb
  have hpos : 1 ≤ 2 ^ a_n a := Nat.one_le_two_pow
  obtain ⟨w, b2, w1, w2⟩ := key (2 ^ a_n a - 1) 1 nj_fu nj_fu 0 0 (by omega) (pu_fu (by omega)) (pu_fu (by omega)) (by omega)
  have w1' : lo_Nj_stands_6 s nj_fu 0 0 1 = some (w, nI b2) := w1
  have w2' : lo_Md_stands_9 nj_fu (ms_asked m 0) 0 1 = some (ms_asked m (nI b2), w) := w2
  rw [mo_Nj_stands, mo_Md_stands, w1', w2']
  exact Same.of (h.an _) _
