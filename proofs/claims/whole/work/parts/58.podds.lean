/-! pure: odds -/
def p_oc (a : AC) (i : Nat) : Nat := if (a_b a).testBit i = true then p_bc (p_an (p_lk a i) (a_b a)) else 0
theorem bc_rest : ∀ x, x < 64 → ∀ b, b < 64 → p_bc (p_an x b) + p_bc b ≤ 6 := by decide +kernel
theorem p_sm_mul (f : Nat → Nat) (c : Nat) : ∀ n, p_sm (fun i => c * f i) n = c * p_sm f n
  | 0 => rfl
  | n + 1 => by rw [p_sm, p_sm, p_sm_mul f c n, Nat.mul_add]
theorem p_oc_le {a : AC} (W : WA a) : p_sm (p_oc a) (a_n a) ≤ 9 := by
  have hn := W.1
  have h6 := pow6 hn
  have hb := W.2.2.2.2
  have h1 : p_sm (p_oc a) (a_n a) ≤ p_sm (fun i => (6 - p_bc (a_b a)) * (if (a_b a).testBit i = true then 1 else 0)) (a_n a) := p_sm_le (fun k hk => by
    unfold p_oc
    have := bc_rest (p_lk a k) (by have := p_lk_lt (a := a) k; omega) (a_b a) (by omega)
    by_cases g : (a_b a).testBit k = true
    · rw [if_pos g, if_pos g]
      omega
    · rw [if_neg g, if_neg g]
      omega)
  have h2 : p_sm (fun i => if (a_b a).testBit i = true then 1 else 0) 6 = p_sm (fun i => if (a_b a).testBit i = true then 1 else 0) (a_n a) := p_sm_ext hn (fun k h1 h2 => by
    have : (a_b a).testBit k = false := Nat.testBit_lt_two_pow (Nat.lt_of_lt_of_le hb (Nat.pow_le_pow_right (by decide) h1))
    rw [this]
    rfl)
  have h3 : p_bc (a_b a) = p_sm (fun i => if (a_b a).testBit i = true then 1 else 0) (a_n a) := h2
  rw [p_sm_mul, ← h3] at h1
  have h4 := p_bc_le (a_b a)
  have h5 : ∀ z, z < 7 → (6 - z) * z ≤ 9 := by decide
  exact Nat.le_trans h1 (h5 _ (by omega))
theorem pow_step (q e : Nat) : lN (q ^ e) * lN q = lN (q ^ (e + 1)) := by rw [lN_mul, Nat.pow_succ]
theorem c_odds75 (s : NjS) (p k : Nat) (hp : p ≤ 12) {t : Nat} (ht : t ≤ 6) : ∀ (d j f e : Nat), j + d = t → d < f → lo_Nj_odds_75 s (nI p) (nI k) (nI t) f (lN (12 ^ e)) (lN ((12 - p) ^ e)) (nI j) = some (lN (12 ^ (e + d)), lN ((12 - p) ^ (e + d))) := by
  intro d
  induction d with
  | zero =>
    intro j f e hj hf
    obtain ⟨f, rfl⟩ : ∃ z, f = z + 1 := ⟨f - 1, by omega⟩
    rw [lo_Nj_odds_75, if_pos (nI_le (by omega) (by omega))]
    rfl
  | succ d ih =>
    intro j f e hj hf
    obtain ⟨f, rfl⟩ : ∃ z, f = z + 1 := ⟨f - 1, by omega⟩
    have e1 : (12 : Int32) - nI p = nI (12 - p) := pk_sub (a := 12) hp
    have e2 : (12 : Int64) = lN 12 := rfl
    rw [lo_Nj_odds_75, if_neg (nI_ge (by omega) (by omega)), e1, nI_l (by omega), e2, pow_step, pow_step, nI_1, ih (j + 1) f (e + 1) (by omega) (by omega)]
    have : e + 1 + d = e + (d + 1) := by omega
    rw [this]
theorem c_odds {s : NjS} {a : AC} (R : RC (nj_club s) a) {p : Nat} (hp : p ≤ 12) : ∀ (d k f e : Nat), k + d = a_n a → d < f → p_sm (p_oc a) k = e → lo_Nj_odds_20 s (nI p) f (lN (12 ^ e)) (lN ((12 - p) ^ e)) (nI k) = some (lN (12 ^ p_sm (p_oc a) (a_n a)), lN ((12 - p) ^ p_sm (p_oc a) (a_n a))) := by
  have hn := R.1.1
  have h6 := pow6 hn
  intro d
  induction d with
  | zero =>
    intro k f e hk hf he
    obtain ⟨f, rfl⟩ : ∃ z, f = z + 1 := ⟨f - 1, by omega⟩
    have : k = a_n a := by omega
    subst this
    rw [lo_Nj_odds_20, R.1.2, if_pos (nI_le (by omega) (by omega)), he]
  | succ d ih =>
    intro k f e hk hf he
    obtain ⟨f, rfl⟩ : ∃ z, f = z + 1 := ⟨f - 1, by omega⟩
    have hlk := p_lk_lt (a := a) k
    have hl : p_an (p_lk a k) (a_b a) < 2 ^ 6 := p_an_le _ _ (by omega)
    have hoc : p_oc a k ≤ 6 := by
      unfold p_oc
      have := p_bc_le (p_an (p_lk a k) (a_b a))
      split <;> omega
    have t : lo_Nj_odds_75 s (nI p) (nI k) (nI (p_oc a k)) nj_fu (lN (12 ^ e)) (lN ((12 - p) ^ e)) 0 = _ := c_odds75 s p k hp hoc (p_oc a k) 0 nj_fu e (by omega) (pu_fu (by omega))
    rw [lo_Nj_odds_20, R.1.2, if_neg (nI_ge (by omega) (by omega)), c_isIn R (by omega), c_likingsOf R (by omega), R.2.2.2.2.2.1.1, nI_1 k]
    simp only [Option.bind_some]
    rw [p_an_nI, c_bits _ hl]
    simp only [Option.bind_some]
    have key : (bif (a_b a).testBit k then some (nI (p_bc (p_an (p_lk a k) (a_b a)))) else some (0 : Int32)) = some (nI (p_oc a k)) := by
      unfold p_oc
      cases (a_b a).testBit k <;> rfl
    rw [key]
    simp only [Option.bind_some]
    rw [t]
    simp only [Option.bind_some]
    exact ih (k + 1) f (e + p_oc a k) (by omega) (by omega) (by rw [p_sm, he])
theorem r_odds34 {m : MdS} {a : AC} (Q : RM m a) {p k : Nat} (hp : p ≤ 12) (hk : k < a_n a) : ∀ (d j f e0 e : Nat), j + d = a_n a → d < f → e = e0 + p_sm (fun i => if ((a_b a).testBit k && (!(a_b a).testBit i && (a_L a i).testBit k)) = true then 1 else 0) j → lo_Md_odds_34 m (nI p) (nI k) f (lN ((12 - p) ^ e)) (lN (12 ^ e)) (nI j) = some (lN ((12 - p) ^ (e0 + p_sm (fun i => if ((a_b a).testBit k && (!(a_b a).testBit i && (a_L a i).testBit k)) = true then 1 else 0) (a_n a))), lN (12 ^ (e0 + p_sm (fun i => if ((a_b a).testBit k && (!(a_b a).testBit i && (a_L a i).testBit k)) = true then 1 else 0) (a_n a)))) := by
  have hn := Q.1.1
  intro d
  induction d with
  | zero =>
    intro j f e0 e hj hf he
    obtain ⟨f, rfl⟩ : ∃ z, f = z + 1 := ⟨f - 1, by omega⟩
    have : j = a_n a := by omega
    subst this
    rw [lo_Md_odds_34, Q.2.1, if_pos (nI_le (by omega) (by omega)), he]
  | succ d ih =>
    intro j f e0 e hj hf he
    obtain ⟨f, rfl⟩ : ∃ z, f = z + 1 := ⟨f - 1, by omega⟩
    have e1 : (12 : Int32) - nI p = nI (12 - p) := pk_sub (a := 12) hp
    have e2 : (12 : Int64) = lN 12 := rfl
    have i0 := ih (j + 1) f e0 e (by omega) (by omega)
    have i1 := ih (j + 1) f e0 (e + 1) (by omega) (by omega)
    rw [lo_Md_odds_34, Q.2.1, if_neg (nI_ge (by omega) (by omega)), r_isIn Q (by omega : k < 31), r_isIn Q (by omega : j < 31), r_likes Q hk (by omega), e1, nI_l (by omega), e2, pow_step, pow_step, nI_1 j]
    simp only [Option.bind_some]
    rw [p_sm] at i0 i1
    cases hb1 : (a_b a).testBit k
    · rw [hb1] at i0
      rw [hb1] at he
      simp only [cond_false, Option.bind_some]
      exact i0 (by simpa using he)
    · cases hb2 : (a_b a).testBit j
      · cases hb3 : (a_L a j).testBit k
        · simp only [cond_true, cond_false, Option.bind_some]
          rw [hb1, hb2, hb3] at i0
          rw [hb1] at he
          exact i0 (by simpa using he)
        · simp only [cond_true, cond_false, Option.bind_some]
          rw [hb1, hb2, hb3] at i1
          rw [hb1] at he
          exact i1 (by simp at he ⊢; omega)
      · simp only [cond_true, Option.bind_some]
        rw [hb1, hb2] at i0
        rw [hb1] at he
        exact i0 (by simpa using he)
theorem p_oc_eq {a : AC} (W : WA a) (k : Nat) : p_sm (fun i => if ((a_b a).testBit k && (!(a_b a).testBit i && (a_L a i).testBit k)) = true then 1 else 0) (a_n a) = p_oc a k := by
  unfold p_oc
  cases (a_b a).testBit k
  · have : p_sm (fun i => if (false && (!(a_b a).testBit i && (a_L a i).testBit k)) = true then 1 else 0) (a_n a) = p_sm (fun _ => 0) (a_n a) := p_sm_cong (fun _ _ => rfl)
    rw [this, p_sm_const]
    rfl
  · have : p_an (p_lk a k) (a_b a) = p_mk (fun i => !(a_b a).testBit i && (a_L a i).testBit k) (a_n a) := p_bit_ext (fun i => by
      rw [p_an_bit, p_lk_bit, p_mk_bit]
      cases decide (i < a_n a) <;> cases (a_L a i).testBit k <;> cases (a_b a).testBit i <;> rfl)
    rw [this, bc_mk _ W.1]
    rfl
theorem r_odds {m : MdS} {a : AC} (Q : RM m a) {p : Nat} (hp : p ≤ 12) : ∀ (d k f e : Nat), k + d = a_n a → d < f → p_sm (p_oc a) k = e → lo_Md_odds_22 m (nI p) f (lN ((12 - p) ^ e)) (lN (12 ^ e)) (nI k) = some (lN ((12 - p) ^ p_sm (p_oc a) (a_n a)), lN (12 ^ p_sm (p_oc a) (a_n a))) := by
  have hn := Q.1.1
  intro d
  induction d with
  | zero =>
    intro k f e hk hf he
    obtain ⟨f, rfl⟩ : ∃ z, f = z + 1 := ⟨f - 1, by omega⟩
    have : k = a_n a := by omega
    subst this
    rw [lo_Md_odds_22, Q.2.1, if_pos (nI_le (by omega) (by omega)), he]
  | succ d ih =>
    intro k f e hk hf he
    obtain ⟨f, rfl⟩ : ∃ z, f = z + 1 := ⟨f - 1, by omega⟩
    have t : lo_Md_odds_34 m (nI p) (nI k) nj_fu (lN ((12 - p) ^ e)) (lN (12 ^ e)) 0 = _ := r_odds34 Q hp (by omega : k < a_n a) (a_n a) 0 nj_fu e e (by omega) (pu_fu (by omega)) (by rw [p_sm]; rfl)
    rw [p_oc_eq Q.1] at t
    rw [lo_Md_odds_22, Q.2.1, if_neg (nI_ge (by omega) (by omega)), t, nI_1 k]
    simp only [Option.bind_some]
    exact ih (k + 1) f (e + p_oc a k) (by omega) (by omega) (by rw [p_sm, he])
theorem op_odds {s : NjS} {m : MdS} (h : Rel s m) (x : Int32) : Same (mo_Nj_odds s x) (mo_Md_odds m x) := by
  obtain ⟨a, R, Q, W⟩ := h.ac
  have hn := R.1.1
  have hin : mo_Md_in (Int32.toInt64 x) (0 : Int64) (12 : Int64) = some (decide ((0 : Int32) ≤ x) && decide (x < nI 13)) := by
    have t : mo_Md_in (Int32.toInt64 x) (0 : Int64) (12 : Int64) = some (decide ((0 : Int32) ≤ x) && decide (x ≤ (12 : Int32))) := r_in x 0 12
    have e : (x ≤ (12 : Int32)) ↔ x < nI 13 := pu_lt1 x 12 (by decide)
    simp only [e] at t
    exact t
  have ec : (x ≤ (12 : Int32)) ↔ x < nI 13 := pu_lt1 x 12 (by decide)
  rw [mo_Nj_odds, mo_Md_odds, hin]
  simp only [ec, Option.bind_some]
  rw [c_range2 x 13 (by decide)]
  rcases in_or x 13 (by decide) with ⟨p, hp, rfl, hb⟩ | hb
  · rw [hb]
    simp only [if_true, cond_true]
    have t1 : lo_Nj_odds_20 s (nI p) nj_fu 1 1 0 = _ := c_odds R (by omega : p ≤ 12) (a_n a) 0 nj_fu 0 (by omega) (pu_fu (by omega)) rfl
    have t2 : lo_Md_odds_22 m (nI p) nj_fu 1 1 0 = _ := r_odds Q (by omega : p ≤ 12) (a_n a) 0 nj_fu 0 (by omega) (pu_fu (by omega)) rfl
    have h9 := p_oc_le Q.1
    have l1 : (12 - p) ^ p_sm (p_oc a) (a_n a) ≤ 12 ^ p_sm (p_oc a) (a_n a) := Nat.pow_le_pow_left (by omega) _
    have l2 : 12 ^ p_sm (p_oc a) (a_n a) ≤ 12 ^ 9 := Nat.pow_le_pow_right (by decide) h9
    have l3 : 0 < 12 ^ p_sm (p_oc a) (a_n a) := Nat.pow_pos (by decide)
    have l4 : (12 : Nat) ^ 9 = 5159780352 := by decide
    rw [t1, t2]
    simp only [Option.bind_some]
    rw [lN_sub l1]
    obtain ⟨s2, m2, u1, u2, u3⟩ := f_tell h (N := 12 ^ p_sm (p_oc a) (a_n a) - (12 - p) ^ p_sm (p_oc a) (a_n a)) (F := 12 ^ p_sm (p_oc a) (a_n a)) (by omega) l3 (by omega)
    rw [u1, u2]
    exact Same.of u3 _
  · rw [hb]
    exact Same.of h _
