/-! pure: secrets, share -/
theorem op_secrets {s : NjS} {m : MdS} (h : Rel s m) : ∃ v, mo_Nj_secrets s = some v ∧ mo_Md_secrets m = some v := by
  obtain ⟨a, R, Q, W⟩ := h.ac
  have hn := R.1.1
  have h6 := pow6 hn
  have hb := Q.1.2.2.2.2
  have hb2 : a_b a < 64 := by omega
  rw [mo_Nj_secrets, mo_Md_secrets, R.2.2.2.2.2.1.1, Q.inn, c_bits _ hb2]
  by_cases g : nI (a_b a) = 0
  · rw [if_pos g, if_pos g]
    exact ⟨_, rfl, rfl⟩
  · rw [if_neg g, if_neg g]
    have hB := p_bc_le (a_b a)
    have key : ∀ (d k f1 f2 : Nat), k + d = 3 → d < f1 → d < f2 → ∃ v, lo_Nj_secrets_26 s (nI (p_bc (a_b a))) f1 (nI k) = some v ∧ lo_Md_secrets_14 m f2 (nI k) = some v := by
      intro d
      induction d with
      | zero =>
        intro k f1 f2 hk h1 h2
        obtain ⟨f1, rfl⟩ : ∃ z, f1 = z + 1 := ⟨f1 - 1, by omega⟩
        obtain ⟨f2, rfl⟩ : ∃ z, f2 = z + 1 := ⟨f2 - 1, by omega⟩
        have : k = 3 := by omega
        subst this
        have e1 : ¬ (6 : Int32) ≤ nI 3 := by decide
        have e2 : nI (p_bc (a_b a)) ≤ nI (2 ^ 3) := nI_le (by omega) (by decide)
        rw [lo_Nj_secrets_26, lo_Md_secrets_14, if_neg e1, Q.inn, r_bits hb2, pu_sh 3 (by omega), if_pos e2]
        simp only [Option.bind_some]
        rw [if_pos e2]
        exact ⟨_, rfl, rfl⟩
      | succ d ih =>
        intro k f1 f2 hk h1 h2
        obtain ⟨f1, rfl⟩ : ∃ z, f1 = z + 1 := ⟨f1 - 1, by omega⟩
        obtain ⟨f2, rfl⟩ : ∃ z, f2 = z + 1 := ⟨f2 - 1, by omega⟩
        have e1 : ¬ (6 : Int32) ≤ nI k := nI_ge (b := 6) (by omega) (by decide)
        rw [lo_Nj_secrets_26, lo_Md_secrets_14, if_neg e1, Q.inn, r_bits hb2, pu_sh k (by omega)]
        simp only [Option.bind_some]
        by_cases g2 : nI (p_bc (a_b a)) ≤ nI (2 ^ k)
        · rw [if_pos g2, if_pos g2]
          exact ⟨_, rfl, rfl⟩
        · rw [if_neg g2, if_neg g2, nI_1]
          exact ih (k + 1) f1 f2 (by omega) (by omega) (by omega)
    obtain ⟨v, w1, w2⟩ := key 3 0 nj_fu nj_fu (by omega) (pu_fu (by omega)) (pu_fu (by omega))
    have w1' : lo_Nj_secrets_26 s (nI (p_bc (a_b a))) nj_fu 0 = some v := w1
    have w2' : lo_Md_secrets_14 m nj_fu 0 = some v := w2
    simp only [Option.bind_some]
    rw [w1', w2']
    exact ⟨_, rfl, rfl⟩
theorem bc_pos : ∀ S, S < 64 → S ≠ 0 → 0 < p_bc S := by decide +kernel
theorem f_shareOf {c : CluS} {m : MdS} {a : AC} (R : RC c a) (Q : RM m a) {i : Nat} (hi : i < a_n a) (hne : a_b a ≠ 0) : ∃ v, mo_Club_shareOf c (nI i) = some v ∧ mo_Md_shareOf m (nI i) = some v := by
  have hn := R.1.1
  have h6 := pow6 hn
  have hb := Q.1.2.2.2.2
  have hb2 : a_b a < 64 := by omega
  have hB := p_bc_le (a_b a)
  have hp := bc_pos _ hb2 hne
  have e0 : ¬ nI (p_bc (a_b a)) = 0 := nI_ne0 hp (by omega)
  have hand : a_b a &&& (2 ^ i - 1) < 64 := Nat.lt_of_le_of_lt Nat.and_le_left hb2
  rw [mo_Club_shareOf, mo_Md_shareOf, R.2.2.2.2.2.1.1, Q.inn, c_bits _ hb2, r_bits hb2, R.2.2.2.2.2.2, Q.tin, pu_full (by omega : i ≤ 6), fa_and, c_bits _ hand, r_bits hand]
  simp only [Option.bind_some, if_neg e0, e0, not_false_eq_true, if_true]
  by_cases g : nj_rem (a_t a) (nI (p_bc (a_b a))) ≤ nI (p_bc (a_b a &&& 2 ^ i - 1))
  · rw [if_pos g]
    exact ⟨_, rfl, rfl⟩
  · rw [if_neg g]
    exact ⟨_, rfl, rfl⟩
theorem op_share {s : NjS} {m : MdS} (h : Rel s m) (x : Int32) : Same (mo_Nj_share s x) (mo_Md_share m x) := by
  obtain ⟨a, R, Q, W⟩ := h.ac
  have hn := R.1.1
  have h6 := pow6 hn
  have hb := Q.1.2.2.2.2
  have n4 : ¬ (-4 : Int32) = 0 := by decide
  have n1 : ¬ (-1 : Int32) = 0 := by decide
  rw [mo_Nj_share, mo_Md_share, r_isChild Q]
  rcases f_oneIn R x with ⟨i, hi, rfl, b1, b2, b3⟩ | ⟨i, hi, rfl, b1, b2, b3⟩ | ⟨b2, b3⟩
  · have hne : a_b a ≠ 0 := fun q => by rw [q] at b1; simp at b1
    rw [b2, b3]
    simp only [Option.bind_some, cond_true, if_true]
    rw [r_isIn Q (by omega), b1, Q.inn, r_liking Q hi (by omega)]
    simp only [Option.bind_some, cond_true]
    have hand : a_b a &&& a_L a i < 64 := Nat.lt_of_le_of_lt Nat.and_le_left (by omega)
    have key : ∀ (d k f1 f2 : Nat) (v : Int32), k + d = a_n a → d < f1 → d < f2 → ∃ w, lo_Nj_share_17 s (nI i) f1 v (nI k) = some w ∧ lo_Md_share_40 (nI i) (nI (a_b a &&& a_L a i)) f2 (ms_asked m v) (nI k) = some (ms_asked m w) := by
      intro d
      induction d with
      | zero =>
        intro k f1 f2 v hk h1 h2
        obtain ⟨f1, rfl⟩ : ∃ z, f1 = z + 1 := ⟨f1 - 1, by omega⟩
        obtain ⟨f2, rfl⟩ : ∃ z, f2 = z + 1 := ⟨f2 - 1, by omega⟩
        have : k = a_n a := by omega
        subst this
        have e : md_children (ms_asked m v) = nI (a_n a) := Q.2.1
        rw [lo_Nj_share_17, lo_Md_share_40, R.1.2, e, if_pos (nI_le (Nat.le_refl _) (by omega)), if_pos (nI_le (Nat.le_refl _) (by omega))]
        exact ⟨_, rfl, rfl⟩
      | succ d ih =>
        intro k f1 f2 v hk h1 h2
        obtain ⟨f1, rfl⟩ : ∃ z, f1 = z + 1 := ⟨f1 - 1, by omega⟩
        obtain ⟨f2, rfl⟩ : ∃ z, f2 = z + 1 := ⟨f2 - 1, by omega⟩
        have e : md_children (ms_asked m v) = nI (a_n a) := Q.2.1
        have Q' : RM (ms_asked m v) a := Q
        have hk' : k < a_n a := by omega
        obtain ⟨u, u1, u2⟩ := f_shareOf R Q' hk' hne
        have eb := pu_and (a_L a i) k (by omega)
        rw [lo_Nj_share_17, lo_Md_share_40, R.1.2, e, if_neg (nI_ge hk' (by omega)), if_neg (nI_ge hk' (by omega)), c_isIn R (by omega), r_has (by omega) (by omega), pu_in_t (by omega : i < 6) (by decide), pu_n (by omega), (R.2.2.2.1 i hi).1, u1, u2, Nat.testBit_and, nI_1]
        simp only [Option.bind_some, cond_true]
        cases hbk : (a_b a).testBit k
        · obtain ⟨w, w1, w2⟩ := ih (k + 1) f1 f2 v (by omega) (by omega) (by omega)
          refine ⟨w, w1, ?_⟩
          have e2 : ms_asked (ms_asked m v) (md_asked (ms_asked m v) + 0) = ms_asked m v := by
            show ms_asked m (v + 0) = ms_asked m v
            rw [Int32.add_zero]
          simp only [Bool.false_and, cond_false, Option.bind_some]
          rw [e2]
          exact w2
        · cases hlk : (a_L a i).testBit k
          · obtain ⟨w, w1, w2⟩ := ih (k + 1) f1 f2 v (by omega) (by omega) (by omega)
            refine ⟨w, ?_, ?_⟩
            · simp only [cond_true]
              rw [if_pos (eb.2 hlk)]
              exact w1
            · have e2 : ms_asked (ms_asked m v) (md_asked (ms_asked m v) + 0) = ms_asked m v := by
                show ms_asked m (v + 0) = ms_asked m v
                rw [Int32.add_zero]
              simp only [Bool.and_false, cond_false, Option.bind_some]
              rw [e2]
              exact w2
          · obtain ⟨w, w1, w2⟩ := ih (k + 1) f1 f2 (v + u) (by omega) (by omega) (by omega)
            refine ⟨w, ?_, ?_⟩
            · simp only [cond_true]
              rw [if_neg (fun q => by have := eb.1 q; rw [hlk] at this; cases this)]
              exact w1
            · simp only [Bool.and_self, cond_true, Option.bind_some]
              exact w2
    obtain ⟨w, w1, w2⟩ := key (a_n a) 0 nj_fu nj_fu 0 (by omega) (pu_fu (by omega)) (pu_fu (by omega))
    have w1' : lo_Nj_share_17 s (nI i) nj_fu 0 0 = some w := w1
    have w2' : lo_Md_share_40 (nI i) (nI (a_b a &&& a_L a i)) nj_fu (ms_asked m 0) 0 = some (ms_asked m w) := w2
    have Q' : RM (ms_asked m w) a := Q
    obtain ⟨u, u1, u2⟩ := f_shareOf R Q' hi hne
    rw [w1', w2']
    simp only [Option.bind_some]
    rw [u1, u2]
    exact Same.of (h.an _) _
  · rw [b2, b3]
    simp only [Option.bind_some, cond_true, if_neg n4]
    rw [r_isIn Q (by omega), b1]
    exact Same.of h _
  · rw [b2, b3]
    simp only [Option.bind_some, cond_false, if_neg n1]
    exact Same.of h _
