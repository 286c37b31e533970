/-! pure: run -/
def q_all (f : Nat → Bool) : Nat → Nat → Bool
  | _, 0 => true
  | k, d + 1 => f k && q_all f (k + 1) d
theorem q_all_at {f : Nat → Bool} : ∀ {d k : Nat}, q_all f k d = true → ∀ j, j < d → f (k + j) = true
  | 0, _, _, j, hj => absurd hj (by omega)
  | d + 1, k, h, j, hj => by
    rw [q_all, Bool.and_eq_true] at h
    rcases j with - | j
    · exact h.1
    · have := q_all_at h.2 j (by omega)
      have e : k + 1 + j = k + (j + 1) := by omega
      rw [e] at this
      exact this
def p_ch (a : AC) (v : Int32) : Bool := decide (0 ≤ v) && decide (v < nI (a_n a))
theorem c_names {s : NjS} {a : AC} (R : RC (nj_club s) a) {r n : Nat} (hn : n ≤ 40) (hs : ro_size (nj_rows s r) = nI n) : ∀ (d k f : Nat), k + d = n → d < f → lo_Nj_namesChildren_2 s r (1 : Int32) f (nI k) = some (q_all (fun j => p_ch a (ro_places (nj_rows s r) j)) k d) := by
  intro d
  induction d with
  | zero =>
    intro k f hk hf
    obtain ⟨f, rfl⟩ : ∃ z, f = z + 1 := ⟨f - 1, by omega⟩
    rw [lo_Nj_namesChildren_2, hs, if_pos (nI_le (by omega) (by omega))]
    rfl
  | succ d ih =>
    intro k f hk hf
    obtain ⟨f, rfl⟩ : ∃ z, f = z + 1 := ⟨f - 1, by omega⟩
    rw [lo_Nj_namesChildren_2, hs, if_neg (nI_ge (by omega) (by omega)), pu_in_t (by omega : k < 40) (by decide), pu_n (by omega), c_isChild R, nI_1, ih (k + 1) f (by omega) (by omega), q_all]
    simp only [cond_true, Option.bind_some]
    show (bif p_ch a (ro_places (nj_rows s r) k) then _ else _) = some (p_ch a (ro_places (nj_rows s r) k) && _)
    cases p_ch a (ro_places (nj_rows s r) k) <;> rfl
theorem r_names {m : MdS} {a : AC} (Q : RM m a) {r n : Nat} (hr : r < 6) (hn : n ≤ 40) (hs : md_sizes m r = nI n) : ∀ (d k f : Nat) (b : Bool), k + d = n → d < f → lo_Md_run_28 m (nI r) f (nj_b b) (nI k) = some (nj_b (b && q_all (fun j => p_ch a (md_items m (40 * r + j))) k d)) := by
  intro d
  induction d with
  | zero =>
    intro k f b hk hf
    obtain ⟨f, rfl⟩ : ∃ z, f = z + 1 := ⟨f - 1, by omega⟩
    rw [lo_Md_run_28, pu_in_t hr (by decide), pu_n (by omega), hs, if_pos (nI_le (by omega) (by omega)), q_all, Bool.and_true]
    rfl
  | succ d ih =>
    intro k f b hk hf
    obtain ⟨f, rfl⟩ : ∃ z, f = z + 1 := ⟨f - 1, by omega⟩
    have ih0 := ih (k + 1) f false (by omega) (by omega)
    have ih1 := ih (k + 1) f true (by omega) (by omega)
    have z0 : nj_b false = 0 := rfl
    have z1 : nj_b true = 1 := rfl
    have z2 : ¬ (1 : Int32) = 0 := by decide
    rw [z0] at ih0
    rw [z1] at ih1
    rw [lo_Md_run_28, pu_in_t hr (by decide), pu_n (by omega), hs, if_neg (nI_ge (by omega) (by omega)), e40, pu_in_t (by omega : 40 * r + k < 240) (by decide), pu_n (by omega), r_isChild Q, nI_1, q_all]
    simp only [cond_true, Option.bind_some]
    cases b
    · rw [z0, if_pos rfl]
      simp only [Option.bind_some]
      rw [ih0]
      simp
    · rw [z1, if_neg z2]
      show ((bif p_ch a (md_items m (40 * r + k)) then some (1 : Int32) else some (0 : Int32)).bind _) = some (nj_b (true && (p_ch a (md_items m (40 * r + k)) && _)))
      cases p_ch a (md_items m (40 * r + k))
      · simp only [cond_false, Option.bind_some]
        rw [ih0]
        simp
      · simp only [cond_true, Option.bind_some]
        rw [ih1]
        simp
theorem q_all_cong {f g : Nat → Bool} : ∀ {d k : Nat}, (∀ j, j < d → f (k + j) = g (k + j)) → q_all f k d = q_all g k d
  | 0, _, _ => rfl
  | d + 1, k, h => by
    have h0 := h 0 (by omega)
    rw [Nat.add_zero] at h0
    rw [q_all, q_all, h0, q_all_cong (f := f) (g := g) (d := d) (k := k + 1) (fun j hj => by
      have e : k + 1 + j = k + (j + 1) := by omega
      rw [e]
      exact h (j + 1) (by omega))]
theorem bc_drop : ∀ S, S < 64 → ∀ i, i < 6 → S.testBit i = true → p_bc (p_an S (2 ^ i)) + 1 = p_bc S := by decide +kernel
theorem f_left {s : NjS} {m : MdS} {a : AC} (R : RC (nj_club s) a) (Q : RM m a) {r n : Nat} (hr : r < 6) (hn : n ≤ 40) (hs : ro_size (nj_rows s r) = nI n) (hs2 : md_sizes m r = nI n) (hit : ∀ k, k < n → ro_places (nj_rows s r) k = md_items m (40 * r + k)) (hch : ∀ k, k < n → p_ch a (ro_places (nj_rows s r) k) = true) : ∀ (d k f1 f2 S : Nat), k + d = n → d < f1 → d < f2 → S < 64 → k ≤ 6 → p_bc S + k = p_bc (a_b a) → ∃ T j, T < 64 ∧ j ≤ 6 ∧ p_bc T + j = p_bc (a_b a) ∧ lo_Orders_leftBy_7 (nj_rows s r) (nj_club s) f1 (nI S) (nI k) = some (nI T) ∧ lo_Md_run_95 m (nI r) f2 (nI S) (nI k) = some (nI T, nI j) := by
  have hn6 := R.1.1
  intro d
  induction d with
  | zero =>
    intro k f1 f2 S hk h1 h2 hS hk6 hbc
    obtain ⟨f1, rfl⟩ : ∃ z, f1 = z + 1 := ⟨f1 - 1, by omega⟩
    obtain ⟨f2, rfl⟩ : ∃ z, f2 = z + 1 := ⟨f2 - 1, by omega⟩
    refine ⟨S, k, hS, hk6, hbc, ?_, ?_⟩
    · rw [lo_Orders_leftBy_7, hs, if_pos (nI_le (by omega) (by omega))]
    · rw [lo_Md_run_95, pu_in_t hr (by decide), pu_n (by omega), hs2, if_pos (nI_le (by omega) (by omega))]
      rfl
  | succ d ih =>
    intro k f1 f2 S hk h1 h2 hS hk6 hbc
    obtain ⟨f1, rfl⟩ : ∃ z, f1 = z + 1 := ⟨f1 - 1, by omega⟩
    obtain ⟨f2, rfl⟩ : ∃ z, f2 = z + 1 := ⟨f2 - 1, by omega⟩
    have hc := hch k (by omega)
    rcases in_or (ro_places (nj_rows s r) k) (a_n a) (by omega) with ⟨i, hi, ei, hb⟩ | hb
    · have ho := p_out_lt hn6 S
      have e := pu_and (p_out a S) i (by omega)
      rw [lo_Orders_leftBy_7, lo_Md_run_95, hs, if_neg (nI_ge (by omega) (by omega)), pu_in_t (by omega : k < 40) (by decide), pu_n (by omega : k < 2 ^ 31), pu_in_t hr (by decide), pu_n (by omega : r < 2 ^ 31), hs2, if_neg (nI_ge (by omega) (by omega)), e40, pu_in_t (by omega : 40 * r + k < 240) (by decide), pu_n (by omega : 40 * r + k < 2 ^ 31), ← hit k (by omega), ei, c_putOutOf R, r_outs Q hS, nI_1]
      simp only [cond_true, Option.bind_some]
      rw [r_has (by omega) (by omega), pu_sh i (by omega), p_an_nI]
      rw [pu_sh i (by omega)] at e
      simp only [Option.bind_some]
      cases hbit : (p_out a S).testBit i
      · refine ⟨S, k, hS, hk6, hbc, ?_, rfl⟩
        rw [if_pos (e.2 hbit)]
      · have hSi : S.testBit i = true := by
          rw [p_out_bit] at hbit
          unfold p_of at hbit
          simp only [Bool.and_eq_true] at hbit
          exact hbit.2.1
        have hd := bc_drop S hS i (by omega) hSi
        have hb6 := p_bc_le (a_b a)
        have hlt : p_an S (2 ^ i) < 2 ^ 6 := p_an_le _ _ hS
        obtain ⟨T, j, t1, t2, t3, t4, t5⟩ := ih (k + 1) f1 f2 (p_an S (2 ^ i)) (by omega) (by omega) (by omega) hlt (by omega) (by omega)
        refine ⟨T, j, t1, t2, t3, ?_, t5⟩
        rw [if_neg (fun q => by have := e.1 q; rw [hbit] at this; cases this)]
        exact t4
    · unfold p_ch at hc
      rw [hb] at hc
      cases hc
theorem op_run {s : NjS} {m : MdS} (h : Rel s m) (x : Int32) : Same (mo_Nj_run s x) (mo_Md_run m x) := by
  obtain ⟨a, R, Q, W⟩ := h.ac
  have hn6 := R.1.1
  have h6 := pow6 hn6
  have hb := Q.1.2.2.2.2
  have hb2 : a_b a < 64 := by omega
  rw [mo_Nj_run, mo_Md_run]
  rcases f_cr h R Q x with ⟨r, n, hr, hn, rfl, e1, e2, e3, hne, q1, q2, q3⟩ | ⟨v, s2, m2, hv, q1, q2, q3, q4⟩ | ⟨q1, q2⟩
  · rw [q1, q2, q3]
    simp only [Option.bind_some, cond_true, if_true]
    rw [pu_in_t hr (by decide), pu_n (by omega), e2]
    simp only [cond_true]
    by_cases g : nI n ≤ 6
    · rw [if_pos g, if_pos g]
      simp only [Option.bind_some, if_true]
      have hc := c_names R hn e2 n 0 nj_fu (by omega) (pu_fu (by omega))
      have hr1 := r_names Q hr hn e1 n 0 nj_fu true (by omega) (pu_fu (by omega))
      have hcg : q_all (fun j => p_ch a (md_items m (40 * r + j))) 0 n = q_all (fun j => p_ch a (ro_places (nj_rows s r) j)) 0 n := q_all_cong (fun j hj => by
        rw [Nat.zero_add, e3 j hj])
      rw [hcg] at hr1
      have hc2 : mo_Nj_namesChildren s r (1 : Int32) = some (q_all (fun j => p_ch a (ro_places (nj_rows s r) j)) 0 n) := hc
      have hr2 : lo_Md_run_28 m (nI r) nj_fu 1 0 = some (nj_b (true && q_all (fun j => p_ch a (ro_places (nj_rows s r) j)) 0 n)) := hr1
      rw [hc2, hr2]
      simp only [Option.bind_some, Bool.true_and]
      cases hq : q_all (fun j => p_ch a (ro_places (nj_rows s r) j)) 0 n
      · exact (f_found h 3 (by decide)).b
      · have hz : ¬ nj_b true = 0 := by decide
        rw [if_neg hz]
        simp only [cond_true]
        obtain ⟨T, j, t1, t2, t3, t4, t5⟩ := f_left R Q hr hn e2 e1 e3 (fun k hk => by
          have := q_all_at hq k hk
          rw [Nat.zero_add] at this
          exact this) n 0 nj_fu nj_fu (a_b a) (by omega) (pu_fu (by omega)) (pu_fu (by omega)) hb2 (by omega) (by omega)
        have t4' : mo_Orders_leftBy (nj_rows s r) (nj_club s) = some (nI T) := by
          rw [mo_Orders_leftBy, R.2.2.2.2.2.1.1]
          exact t4
        have t5' : lo_Md_run_95 m (nI r) nj_fu (nI (a_b a)) 0 = some (nI T, nI j) := t5
        rw [t4', Q.inn, t5', R.2.2.2.2.2.1.1, c_bits _ hb2]
        simp only [Option.bind_some]
        rw [c_bits _ t1]
        simp only [Option.bind_some]
        have : nI (p_bc (a_b a)) - nI (p_bc T) = nI j := by
          rw [pk_sub (by omega)]
          congr 1
          omega
        rw [this]
        exact Same.of (h.an _) _
    · rw [if_neg g, if_neg g]
      obtain ⟨v, s', m', w1, w2, w3⟩ := f_found h 5 (by decide)
      have q0 : v ≠ 0 := by
        rw [mo_Nj_found] at w1
        cases w1
        decide
      have w1' : mo_Nj_found s (5 : Int32) = some (v, s') := w1
      have w2' : mo_Md_find m (5 : Int32) = some (v, m') := w2
      rw [w1', w2']
      simp only [Option.bind_some, if_neg q0]
      exact Same.of w3 _
  · rw [q1, q2, q3]
    simp only [Option.bind_some, cond_true, if_neg hv]
    exact Same.of q4 _
  · have n1 : ¬ (-1 : Int32) = 0 := by decide
    rw [q1, q2]
    simp only [Option.bind_some, cond_false, if_neg n1]
    exact Same.of h _
