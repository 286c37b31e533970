/-! pure: power -/
theorem gc_c0 (f a : Nat) {j : Nat} (hj : j < 100) : lo_Sums_commonDivisor_3 (f + 1) (lN a) (lN 0) (nI j) = some (lN a) := by
  have e : ¬ (100 : Int32) ≤ nI j := nI_ge (b := 100) hj (by omega)
  have e2 : lN 0 = (0 : Int64) := rfl
  rw [lo_Sums_commonDivisor_3, if_neg e, if_pos e2]
theorem gc_c1 (f : Nat) {a b j : Nat} (ha : a < 2 ^ 40) (hb : b < 2 ^ 40) (h0 : 0 < b) (hj : j < 100) : lo_Sums_commonDivisor_3 (f + 1) (lN a) (lN b) (nI j) = lo_Sums_commonDivisor_3 f (lN b) (lN (a % b)) (nI (j + 1)) := by
  have e : ¬ (100 : Int32) ≤ nI j := nI_ge (b := 100) hj (by omega)
  have e2 : ¬ lN b = (0 : Int64) := fun q => by
    have := (pk_lEQ (a := b) (b := 0) (by omega) (by decide)).1 q
    omega
  have e3 : nj_rml (lN a) (lN b) = lN (a % b) := pk_lRem (by omega) h0 (by omega)
  rw [lo_Sums_commonDivisor_3, if_neg e, if_neg e2, if_pos e2, e3, nI_1]
theorem gc_r0 (m : MdS) (x y : Int64) (f a : Nat) : lo_Md_tellParts_6 m x y (f + 1) (lN a) (lN 0) = some (lN a) := by
  have e2 : lN 0 = (0 : Int64) := rfl
  rw [lo_Md_tellParts_6, if_pos e2]
theorem gc_r1 (m : MdS) (x y : Int64) (f : Nat) {a b : Nat} (ha : a < 2 ^ 40) (hb : b < 2 ^ 40) (h0 : 0 < b) : lo_Md_tellParts_6 m x y (f + 1) (lN a) (lN b) = lo_Md_tellParts_6 m x y f (lN b) (lN (a % b)) := by
  have e2 : ¬ lN b = (0 : Int64) := fun q => by
    have := (pk_lEQ (a := b) (b := 0) (by omega) (by decide)).1 q
    omega
  have e3 : nj_rml (lN a) (lN b) = lN (a % b) := pk_lRem (by omega) h0 (by omega)
  rw [lo_Md_tellParts_6, if_neg e2, if_pos e2, e3]
/-- Euclid ends in both, at the same number -/
theorem f_gcd (m : MdS) (x y : Int64) : ∀ (k a b j f1 f2 : Nat), b < 2 ^ k → a < 2 ^ 40 → b < 2 ^ 40 → 2 * k + 1 + j ≤ 100 → 2 * k + 1 < f1 → 2 * k + 1 < f2 → ∃ g, g < 2 ^ 40 ∧ (0 < a ∨ 0 < b → 0 < g) ∧ lo_Sums_commonDivisor_3 f1 (lN a) (lN b) (nI j) = some (lN g) ∧ lo_Md_tellParts_6 m x y f2 (lN a) (lN b) = some (lN g) := by
  intro k
  induction k with
  | zero =>
    intro a b j f1 f2 hb ha hb2 hj h1 h2
    obtain ⟨f1, rfl⟩ : ∃ z, f1 = z + 1 := ⟨f1 - 1, by omega⟩
    obtain ⟨f2, rfl⟩ : ∃ z, f2 = z + 1 := ⟨f2 - 1, by omega⟩
    have : b = 0 := by omega
    subst this
    exact ⟨a, ha, fun q => by omega, gc_c0 _ _ (by omega), gc_r0 _ _ _ _ _⟩
  | succ k ih =>
    intro a b j f1 f2 hb ha hb2 hj h1 h2
    obtain ⟨f1, rfl⟩ : ∃ z, f1 = z + 2 := ⟨f1 - 2, by omega⟩
    obtain ⟨f2, rfl⟩ : ∃ z, f2 = z + 2 := ⟨f2 - 2, by omega⟩
    by_cases g0 : b = 0
    · subst g0
      exact ⟨a, ha, fun q => by omega, gc_c0 _ _ (by omega), gc_r0 _ _ _ _ _⟩
    · have hm : a % b < b := Nat.mod_lt _ (by omega)
      have c1 := gc_c1 (f1 + 1) (a := a) (b := b) (j := j) ha hb2 (by omega) (by omega)
      have r1 := gc_r1 m x y (f2 + 1) (a := a) (b := b) ha hb2 (by omega)
      by_cases g1 : a % b = 0
      · rw [g1] at c1 r1
        refine ⟨b, hb2, fun _ => by omega, ?_, ?_⟩
        · rw [c1]; exact gc_c0 _ _ (by omega)
        · rw [r1]; exact gc_r0 _ _ _ _ _
      · have c2 := gc_c1 f1 (a := b) (b := a % b) (j := j + 1) hb2 (by omega) (by omega) (by omega)
        have r2 := gc_r1 m x y f2 (a := b) (b := a % b) hb2 (by omega) (by omega)
        have hm2 : b % (a % b) < a % b := Nat.mod_lt _ (by omega)
        have hm3 : b % (a % b) ≤ b - a % b := by
          rw [Nat.mod_eq_sub_mod (by omega : b ≥ a % b)]
          exact Nat.mod_le _ _
        have hk : b % (a % b) < 2 ^ k := by
          have : 2 ^ (k + 1) = 2 * 2 ^ k := by rw [Nat.pow_succ]; omega
          omega
        obtain ⟨g, t1, t2, t3, t4⟩ := ih (a % b) (b % (a % b)) (j + 1 + 1) f1 f2 hk (by omega) (by omega) (by omega) (by omega) (by omega)
        refine ⟨g, t1, fun _ => t2 (Or.inl (by omega)), ?_, ?_⟩
        · rw [c1, c2]; exact t3
        · rw [r1, r2]; exact t4
theorem f_tell {s : NjS} {m : MdS} (h : Rel s m) {N F : Nat} (hN : N < 2 ^ 40) (h0 : 0 < F) (hF : F < 2 ^ 33) : ∃ s2 m2, mo_Nj_tellPart s (lN N) (lN F) = some s2 ∧ mo_Md_tellParts m (lN N) (lN F) = some (1, m2) ∧ Rel s2 m2 := by
  obtain ⟨g, g1, g2, g3, g4⟩ := f_gcd m (lN N) (lN F) 33 N F 0 nj_fu nj_fu hF hN (by omega) (by omega) (pu_fu (by omega)) (pu_fu (by omega))
  have gp := g2 (Or.inr h0)
  have e1 : ¬ lN g ≤ (0 : Int64) := fun q => by
    have := (pk_lLE (a := g) (b := 0) (by omega) (by decide)).1 q
    omega
  have e2 : ¬ lN g = (0 : Int64) := fun q => by
    have := (pk_lEQ (a := g) (b := 0) (by omega) (by decide)).1 q
    omega
  have g3' : lo_Sums_commonDivisor_3 nj_fu (lN N) (lN F) 0 = some (lN g) := g3
  refine ⟨_, _, ?_, ?_, h.up (lN N / lN g) (lN F / lN g)⟩
  · rw [mo_Nj_tellPart, mo_Sums_commonDivisor, g3']
    simp only [Option.bind_some]
    rw [if_neg e1, if_pos e2, if_pos e2]
  · rw [mo_Md_tellParts, g4]
    simp only [Option.bind_some]
    rw [if_pos e2, if_pos e2]
def p_fc (k : Nat) : Nat := [1, 1, 2, 6, 24, 120, 720].getD k 0
theorem c_fa : ∀ k, k < 7 → nj_fa k = nI (p_fc k) := by decide +kernel
theorem r_orders : ∀ k, k < 7 → mo_Md_orders (nI k) = some (nI (p_fc k)) := by decide +kernel
theorem p_fc_le : ∀ k, k < 7 → p_fc k ≤ 720 ∧ 1 ≤ p_fc k := by decide +kernel
theorem bc_an : ∀ T, T < 64 → ∀ S, S < 64 → p_an S T = 0 → p_bc (p_an T S) + p_bc S = p_bc T := by decide +kernel
/-- what a set without i adds to i's power -/
def p_pw (a : AC) (i T V S : Nat) : Nat := if p_an S T = 0 then (if V < 2 * p_vs a S then 0 else if 2 * (p_vs a S + p_vt a i) ≤ V then 0 else p_fc (p_bc S) * p_fc (p_bc (p_an T S))) else 0
theorem p_pw_le (a : AC) (i T V S : Nat) : p_pw a i T V S ≤ 518400 := by
  have h1 := (p_fc_le (p_bc S) (by have := p_bc_le S; omega)).1
  have h2 := (p_fc_le (p_bc (p_an T S)) (by have := p_bc_le (p_an T S); omega)).1
  have h3 := Nat.mul_le_mul h1 h2
  unfold p_pw
  split
  · split
    · omega
    · split
      · omega
      · omega
  · omega
theorem c_decided {c : CluS} {a : AC} (R : RC c a) {i : Nat} (hi : i < a_n a) : mo_Sums_decidedBy c (nI i) = some (nI (p_sm (p_pw a i (p_an (a_b a) (2 ^ i)) (p_vs a (a_b a))) (p_an (a_b a) (2 ^ i) + 1))) := by
  have hn := R.1.1
  have h6 := pow6 hn
  have hb := R.2.2.2.2.2.1.2
  have hT : p_an (a_b a) (2 ^ i) < 2 ^ 6 := p_an_le _ _ (by omega)
  have h := pu_loop (fun f (st : Int32) j => lo_Sums_decidedBy_33 c (nI (p_vs a (a_b a))) (nI (p_vt a i)) (nI (p_an (a_b a) (2 ^ i))) f st j) (p_an (a_b a) (2 ^ i) + 1) (fun k => nI (p_sm (p_pw a i (p_an (a_b a) (2 ^ i)) (p_vs a (a_b a))) k)) (some (nI (p_sm (p_pw a i (p_an (a_b a) (2 ^ i)) (p_vs a (a_b a))) (p_an (a_b a) (2 ^ i) + 1))))
    (fun f => by rw [lo_Sums_decidedBy_33, if_pos (nI_lt (by omega) (by omega))])
    (fun f k hk => by
      have e1 : ¬ nI (p_an (a_b a) (2 ^ i)) < nI k := fun q => (fa_of_lt q).2.1 (nI_le (by omega) (by omega))
      have hk6 : k < 64 := by omega
      have e2 := an0 (x := k) (y := p_an (a_b a) (2 ^ i)) hk6
      have v1 := p_vs_le hn k
      have v2 := p_vs_le hn (a_b a)
      have v3 := p_vt_le a i
      have m1 : (2 : Int32) * nI (p_vs a k) = nI (2 * p_vs a k) := pk_mul 2 _
      have m2 : (2 : Int32) * nI (p_vs a k + p_vt a i) = nI (2 * (p_vs a k + p_vt a i)) := pk_mul 2 _
      have hl : p_an (p_an (a_b a) (2 ^ i)) k < 2 ^ 6 := p_an_le _ _ hT
      have b1 := p_bc_le k
      have b2 := p_bc_le (p_an (p_an (a_b a) (2 ^ i)) k)
      rw [lo_Sums_decidedBy_33, if_neg e1, nI_1 k, p_sm, c_votesOfSet R, p_an_nI (p_an (a_b a) (2 ^ i)) k, c_bits _ hk6, c_bits _ hl]
      simp only [e2, Option.bind_some]
      rw [nI_add, m1, m2]
      have hpw : p_pw a i (p_an (a_b a) (2 ^ i)) (p_vs a (a_b a)) k = if p_an k (p_an (a_b a) (2 ^ i)) = 0 then (if p_vs a (a_b a) < 2 * p_vs a k then 0 else if 2 * (p_vs a k + p_vt a i) ≤ p_vs a (a_b a) then 0 else p_fc (p_bc k) * p_fc (p_bc (p_an (p_an (a_b a) (2 ^ i)) k))) else 0 := rfl
      rw [hpw]
      by_cases g : p_an k (p_an (a_b a) (2 ^ i)) = 0
      · rw [if_pos g, if_pos g]
        by_cases g2 : p_vs a (a_b a) < 2 * p_vs a k
        · rw [if_pos (nI_lt g2 (by omega)), if_pos g2]
          rfl
        · rw [if_neg (fun q => (fa_of_lt q).2.1 (nI_le (by omega) (by omega))), if_neg g2]
          by_cases g3 : 2 * (p_vs a k + p_vt a i) ≤ p_vs a (a_b a)
          · rw [if_pos (nI_le g3 (by omega)), if_pos g3]
            rfl
          · rw [if_neg (nI_ge (by omega) (by omega)), if_neg g3, pu_in_t (by omega : p_bc k < 7) (by decide), pu_n (by omega : p_bc k < 2 ^ 31), pu_in_t (by omega : p_bc (p_an (p_an (a_b a) (2 ^ i)) k) < 7) (by decide), pu_n (by omega : p_bc (p_an (p_an (a_b a) (2 ^ i)) k) < 2 ^ 31), c_fa _ (by omega), c_fa _ (by omega), pk_mul, nI_add]
            rfl
      · rw [if_neg g, if_neg g]
        rfl)
    (p_an (a_b a) (2 ^ i) + 1) nj_fu 0 (by omega) (pu_fu (by omega))
  have h2 : lo_Sums_decidedBy_33 c (nI (p_vs a (a_b a))) (nI (p_vt a i)) (nI (p_an (a_b a) (2 ^ i))) nj_fu 0 0 = _ := h
  rw [mo_Sums_decidedBy, R.2.2.2.2.2.1.1, c_votesOfSet R, c_votesOf R hi, pu_sh i (by omega), p_an_nI]
  simp only [Option.bind_some]
  rw [h2]
  rfl
theorem lN_0 (z : Nat) : lN z + (0 : Int64) = lN (z + 0) := lN_add z 0
theorem r_power {m : MdS} {a : AC} (Q : RM m a) {i : Nat} (hi : i < a_n a) (hin : (a_b a).testBit i = true) : lo_Md_power_50 m (nI i) (nI (a_b a)) (nI (p_vs a (a_b a))) (nI (p_bc (a_b a))) nj_fu 0 0 = some (lN (p_sm (p_pw a i (p_an (a_b a) (2 ^ i)) (p_vs a (a_b a))) (p_an (a_b a) (2 ^ i) + 1))) := by
  have hn := Q.1.1
  have h6 := pow6 hn
  have hb := Q.1.2.2.2.2
  have hT : p_an (a_b a) (2 ^ i) < 2 ^ 6 := p_an_le _ _ (by omega)
  have hdr := bc_drop (a_b a) (by omega) i (by omega) hin
  have h := pu_loop (fun f (st : Int64) j => lo_Md_power_50 m (nI i) (nI (a_b a)) (nI (p_vs a (a_b a))) (nI (p_bc (a_b a))) f st j) 64 (fun k => lN (p_sm (p_pw a i (p_an (a_b a) (2 ^ i)) (p_vs a (a_b a))) k)) (some (lN (p_sm (p_pw a i (p_an (a_b a) (2 ^ i)) (p_vs a (a_b a))) 64)))
    (fun f => by
      have e0 : (64 : Int32) ≤ nI 64 := nI_le (Nat.le_refl 64) (by decide)
      rw [lo_Md_power_50, if_pos e0])
    (fun f k hk => by
      have e0 : ¬ (64 : Int32) ≤ nI k := nI_ge (b := 64) hk (by omega)
      have e2 := an0 (x := k) (y := p_an (a_b a) (2 ^ i)) hk
      have v1 := p_vs_le hn k
      have v2 := p_vs_le hn (a_b a)
      have v3 := p_vt_le a i
      have m1 : (2 : Int32) * nI (p_vs a k) = nI (2 * p_vs a k) := pk_mul 2 _
      have m2 : (2 : Int32) * nI (p_vs a k + p_vt a i) = nI (2 * (p_vs a k + p_vt a i)) := pk_mul 2 _
      have b1 := p_bc_le k
      have b2 := p_bc_le (p_an (p_an (a_b a) (2 ^ i)) k)
      have z0 : (0 : Int32) = 0 := rfl
      have z1 : ¬ (1 : Int32) = 0 := by decide
      rw [lo_Md_power_50, if_neg e0, nI_1 k, p_sm, pu_sh i (by omega), p_an_nI, r_votesOf Q (by omega), r_votes Q hi, r_bits hk]
      simp only [e2, Option.bind_some]
      rw [nI_add, m1, m2]
      have hpw : p_pw a i (p_an (a_b a) (2 ^ i)) (p_vs a (a_b a)) k = if p_an k (p_an (a_b a) (2 ^ i)) = 0 then (if p_vs a (a_b a) < 2 * p_vs a k then 0 else if 2 * (p_vs a k + p_vt a i) ≤ p_vs a (a_b a) then 0 else p_fc (p_bc k) * p_fc (p_bc (p_an (p_an (a_b a) (2 ^ i)) k))) else 0 := rfl
      rw [hpw]
      by_cases g : p_an k (p_an (a_b a) (2 ^ i)) = 0
      · rw [if_pos g, if_pos g]
        by_cases g2 : p_vs a (a_b a) < 2 * p_vs a k
        · rw [if_pos (nI_lt g2 (by omega)), if_pos g2]
          simp only [Option.bind_some, if_true, lN_0]
        · rw [if_neg (fun q => (fa_of_lt q).2.1 (nI_le (by omega) (by omega))), if_neg g2]
          by_cases g3 : 2 * (p_vs a k + p_vt a i) ≤ p_vs a (a_b a)
          · rw [if_pos (nI_le g3 (by omega)), if_pos g3]
            simp only [Option.bind_some, if_true, lN_0]
          · have hbc := bc_an _ hT k hk g
            have es : nI (p_bc (a_b a)) - (1 : Int32) - nI (p_bc k) = nI (p_bc (p_an (p_an (a_b a) (2 ^ i)) k)) := by
              have t1 : nI (p_bc (a_b a)) - (1 : Int32) = nI (p_bc (a_b a) - 1) := pk_sub (b := 1) (by omega)
              rw [t1, pk_sub (by omega)]
              congr 1
              omega
            have f1 := (p_fc_le (p_bc k) (by omega)).1
            have f2 := (p_fc_le (p_bc (p_an (p_an (a_b a) (2 ^ i)) k)) (by omega)).1
            rw [if_neg (nI_ge (by omega) (by omega)), if_neg g3]
            simp only [Option.bind_some, if_neg z1]
            rw [es, r_orders _ (by omega), r_orders _ (by omega)]
            simp only [Option.bind_some]
            rw [nI_l (by omega), nI_l (by omega), lN_mul, lN_add]
      · rw [if_neg g, if_neg g]
        simp only [Option.bind_some, if_true, lN_0])
    64 nj_fu 0 (by omega) (pu_fu (by omega))
  have h2 : lo_Md_power_50 m (nI i) (nI (a_b a)) (nI (p_vs a (a_b a))) (nI (p_bc (a_b a))) nj_fu 0 0 = _ := h
  rw [h2, p_sm_ext (n := p_an (a_b a) (2 ^ i) + 1) (by omega) (fun k h1 h2 => by
    unfold p_pw
    rw [if_neg]
    intro q
    have := p_an_zero_le q
    omega)]
theorem op_power {s : NjS} {m : MdS} (h : Rel s m) (x : Int32) : Same (mo_Nj_power s x) (mo_Md_power m x) := by
  obtain ⟨a, R, Q, W⟩ := h.ac
  have hn := R.1.1
  have h6 := pow6 hn
  have hb := Q.1.2.2.2.2
  have hb2 : a_b a < 64 := by omega
  have n4 : ¬ (-4 : Int32) = 0 := by decide
  have n1 : ¬ (-1 : Int32) = 0 := by decide
  rw [mo_Nj_power, mo_Md_power, r_isChild Q, R.2.2.2.2.2.1.1, c_votesOfSet R, Q.inn, r_votesOf Q (by omega), c_bits _ hb2, r_bits hb2]
  rcases f_oneIn R x with ⟨i, hi, rfl, b1, b2, b3⟩ | ⟨i, hi, rfl, b1, b2, b3⟩ | ⟨b2, b3⟩
  · rw [b2, b3]
    simp only [Option.bind_some, cond_true, if_true]
    rw [r_isIn Q (by omega), b1]
    simp only [Option.bind_some, cond_true]
    by_cases g : nI (p_vs a (a_b a)) = 0
    · rw [if_pos g, if_pos g]
      exact Same.of h _
    · rw [if_neg g, if_neg g, c_decided R hi, r_power Q hi b1]
      have bl := p_bc_le (a_b a)
      have ff := p_fc_le (p_bc (a_b a)) (by omega)
      simp only [Option.bind_some]
      rw [pu_in_t (by omega : p_bc (a_b a) < 7) (by decide), pu_n (by omega), c_fa _ (by omega), r_orders _ (by omega)]
      simp only [cond_true, Option.bind_some]
      have hT : p_an (a_b a) (2 ^ i) < 2 ^ 6 := p_an_le _ _ (by omega)
      have hs : p_sm (p_pw a i (p_an (a_b a) (2 ^ i)) (p_vs a (a_b a))) (p_an (a_b a) (2 ^ i) + 1) ≤ (p_an (a_b a) (2 ^ i) + 1) * 518400 := p_sm_bound (fun k _ => p_pw_le _ _ _ _ _)
      rw [nI_l (by omega), nI_l (by omega)]
      obtain ⟨s2, m2, t1, t2, t3⟩ := f_tell h (N := p_sm (p_pw a i (p_an (a_b a) (2 ^ i)) (p_vs a (a_b a))) (p_an (a_b a) (2 ^ i) + 1)) (F := p_fc (p_bc (a_b a))) (by omega) (by omega) (by omega)
      rw [t1, t2]
      exact Same.of t3 _
  · rw [b2, b3]
    simp only [Option.bind_some, cond_true, if_neg n4]
    rw [r_isIn Q (by omega), b1]
    exact Same.of h _
  · rw [b2, b3]
    simp only [Option.bind_some, cond_false, if_neg n1]
    exact Same.of h _
