/-! pure: told -/
/-- a pair of told: a set of children, and 0 or 1 -/
def p_tp (n : Nat) (v w : Int32) : Bool := (decide (0 ≤ v) && decide (v < nI (2 ^ n))) && (decide (0 ≤ w) && decide (w < nI 2))
def q_sus (it : Nat → Int32) : Nat → Nat → Int32 → Int32
  | _, 0, S => S
  | k, d + 1, S => q_sus it (k + 1) d (S &&& (if it (2 * k + 1) = 1 then it (2 * k) else it (2 * k) ^^^ (-1)))
theorem q_sus_cong {f g : Nat → Int32} : ∀ {d k : Nat} {S : Int32}, (∀ j, j < 2 * d → f (2 * k + j) = g (2 * k + j)) → q_sus f k d S = q_sus g k d S
  | 0, _, _, _ => rfl
  | d + 1, k, S, h => by
    have h0 := h 0 (by omega)
    have h1 := h 1 (by omega)
    rw [Nat.add_zero] at h0
    rw [q_sus, q_sus, h0, h1, q_sus_cong (f := f) (g := g) (d := d) (k := k + 1) (fun j hj => by
      have e : 2 * (k + 1) + j = 2 * k + (j + 2) := by omega
      rw [e]
      exact h (j + 2) (by omega))]
theorem pu_sh2 {n : Nat} (hn : n ≤ 6) : (1 : Int32) <<< (nI n &&& 31) = nI (2 ^ n) := pu_sh n (by omega)
theorem tp_step {α : Type} {n : Nat} (hn : n ≤ 6) (v w : Int32) (A B : α) : (if v < 0 then B else if nI (2 ^ n) ≤ v then B else if w < 0 then B else if w ≤ 1 then A else B) = bif p_tp n v w then A else B := by
  have h6 := pow6 hn
  have e : (w ≤ (1 : Int32)) ↔ w < nI 2 := pu_lt1 w 1 (by decide)
  unfold p_tp
  by_cases g1 : v < 0
  · have : ¬ 0 ≤ v := (fa_of_lt g1).2.1
    rw [if_pos g1]
    simp [this]
  · have h1 : 0 ≤ v := fa_of_nlt g1
    rw [if_neg g1]
    by_cases g2 : nI (2 ^ n) ≤ v
    · have : ¬ v < nI (2 ^ n) := fun q => (fa_of_lt q).2.1 g2
      rw [if_pos g2]
      simp [this]
    · have h2 : v < nI (2 ^ n) := fa_of_nle g2
      rw [if_neg g2]
      by_cases g3 : w < 0
      · have : ¬ 0 ≤ w := (fa_of_lt g3).2.1
        rw [if_pos g3]
        simp [this]
      · have h3 : 0 ≤ w := fa_of_nlt g3
        rw [if_neg g3]
        by_cases g4 : w ≤ 1
        · rw [if_pos g4]
          simp [h1, h2, h3, e.1 g4]
        · rw [if_neg g4]
          have hz : ¬ w < nI 2 := fun q => g4 (e.2 q)
          simp [hz]
theorem c_sets {r : RowS} {n h : Nat} (hn : n ≤ 6) (hh : h ≤ 20) (hs : ro_size r = nI (2 * h)) : ∀ (d k f : Nat), k + d = h → d < f → lo_Sums_namesSets_2 r (nI n) f (nI (2 * k)) = some (q_all (fun j => p_tp n (ro_places r (2 * j)) (ro_places r (2 * j + 1))) k d) := by
  intro d
  induction d with
  | zero =>
    intro k f hk hf
    obtain ⟨f, rfl⟩ : ∃ z, f = z + 1 := ⟨f - 1, by omega⟩
    rw [lo_Sums_namesSets_2, hs, nI_1, if_pos (nI_le (by omega) (by omega))]
    rfl
  | succ d ih =>
    intro k f hk hf
    obtain ⟨f, rfl⟩ : ∃ z, f = z + 1 := ⟨f - 1, by omega⟩
    have e2 : nI (2 * k) + (2 : Int32) = nI (2 * (k + 1)) := nI_add (2 * k) 2
    rw [lo_Sums_namesSets_2, hs, nI_1 (2 * k), if_neg (nI_ge (by omega) (by omega)), pu_in_t (by omega : 2 * k < 40) (by decide), pu_n (by omega : 2 * k < 2 ^ 31), pu_in_t (by omega : 2 * k + 1 < 40) (by decide), pu_n (by omega : 2 * k + 1 < 2 ^ 31), pu_sh2 hn, e2, ih (k + 1) f (by omega) (by omega), q_all]
    simp only [cond_true]
    rw [tp_step hn]
    cases p_tp n (ro_places r (2 * k)) (ro_places r (2 * k + 1)) <;> rfl
theorem c_sus {r : RowS} {h : Nat} (hh : h ≤ 20) (hs : ro_size r = nI (2 * h)) : ∀ (d k f : Nat) (S : Int32), k + d = h → d < f → lo_Sums_suspects_4 r f S (nI (2 * k)) = some (q_sus (ro_places r) k d S) := by
  intro d
  induction d with
  | zero =>
    intro k f S hk hf
    obtain ⟨f, rfl⟩ : ∃ z, f = z + 1 := ⟨f - 1, by omega⟩
    rw [lo_Sums_suspects_4, hs, nI_1, if_pos (nI_le (by omega) (by omega))]
    rfl
  | succ d ih =>
    intro k f S hk hf
    obtain ⟨f, rfl⟩ : ∃ z, f = z + 1 := ⟨f - 1, by omega⟩
    have e2 : nI (2 * k) + (2 : Int32) = nI (2 * (k + 1)) := nI_add (2 * k) 2
    rw [lo_Sums_suspects_4, hs, nI_1 (2 * k), if_neg (nI_ge (by omega) (by omega)), pu_in_t (by omega : 2 * k < 40) (by decide), pu_n (by omega : 2 * k < 2 ^ 31), pu_in_t (by omega : 2 * k + 1 < 40) (by decide), pu_n (by omega : 2 * k + 1 < 2 ^ 31), e2, q_sus]
    simp only [cond_true]
    by_cases g : ro_places r (2 * k + 1) = 1
    · rw [if_pos g, if_pos g]
      exact ih (k + 1) f _ (by omega) (by omega)
    · rw [if_neg g, if_neg g]
      exact ih (k + 1) f _ (by omega) (by omega)
theorem r_told {m : MdS} {a : AC} (Q : RM m a) {r h : Nat} (hr : r < 6) (hh : h ≤ 20) (hs : md_sizes m r = nI (2 * h)) : ∀ (d k f : Nat) (b : Bool) (S : Int32), k + d = h → d < f → lo_Md_told_56 m (nI r) f (nj_b b) S (nI (40 * r + 2 * k)) = some (nj_b (b && q_all (fun j => p_tp (a_n a) (md_items m (40 * r + 2 * j)) (md_items m (40 * r + (2 * j + 1)))) k d), q_sus (fun j => md_items m (40 * r + j)) k d S) := by
  have hn := Q.1.1
  have h6 := pow6 hn
  have em : (40 : Int32) * nI r = nI (40 * r) := pk_mul 40 r
  intro d
  induction d with
  | zero =>
    intro k f b S hk hf
    obtain ⟨f, rfl⟩ : ∃ z, f = z + 1 := ⟨f - 1, by omega⟩
    rw [lo_Md_told_56, pu_in_t hr (by decide), pu_n (by omega : r < 2 ^ 31), hs, em, nI_add, if_pos (nI_le (by omega) (by omega)), q_all, Bool.and_true]
    rfl
  | succ d ih =>
    intro k f b S hk hf
    obtain ⟨f, rfl⟩ : ∃ z, f = z + 1 := ⟨f - 1, by omega⟩
    have ih0 := ih (k + 1) f false (S &&& (if md_items m (40 * r + (2 * k + 1)) = 1 then md_items m (40 * r + 2 * k) else md_items m (40 * r + 2 * k) ^^^ (-1))) (by omega) (by omega)
    have ih1 := ih (k + 1) f true (S &&& (if md_items m (40 * r + (2 * k + 1)) = 1 then md_items m (40 * r + 2 * k) else md_items m (40 * r + 2 * k) ^^^ (-1))) (by omega) (by omega)
    have z0 : nj_b false = 0 := rfl
    have z1 : nj_b true = 1 := rfl
    have z2 : ¬ (1 : Int32) = 0 := by decide
    have e2 : nI (40 * r + 2 * k) + (2 : Int32) = nI (40 * r + 2 * (k + 1)) := nI_add (40 * r + 2 * k) 2
    have e1 : nI (40 * r + 2 * k) + (1 : Int32) = nI (40 * r + (2 * k + 1)) := nI_add (40 * r + 2 * k) 1
    have g1 : mo_Md_in (Int32.toInt64 (md_items m (40 * r + 2 * k))) (0 : Int64) (Int32.toInt64 (nI (2 ^ a_n a - 1))) = some (decide ((0 : Int32) ≤ md_items m (40 * r + 2 * k)) && decide (md_items m (40 * r + 2 * k) < nI (2 ^ a_n a))) := by
      have := r_in (md_items m (40 * r + 2 * k)) 0 (nI (2 ^ a_n a - 1))
      rw [show Int32.toInt64 (0 : Int32) = (0 : Int64) from rfl] at this
      have p := pu_lt1 (md_items m (40 * r + 2 * k)) (2 ^ a_n a - 1) (by omega)
      have pp : 2 ^ a_n a - 1 + 1 = 2 ^ a_n a := Nat.sub_add_cancel Nat.one_le_two_pow
      rw [pp] at p
      simp only [p] at this
      exact this
    have g2 : mo_Md_in (Int32.toInt64 (md_items m (40 * r + (2 * k + 1)))) (0 : Int64) (1 : Int64) = some (decide ((0 : Int32) ≤ md_items m (40 * r + (2 * k + 1))) && decide (md_items m (40 * r + (2 * k + 1)) < nI 2)) := by
      have : mo_Md_in (Int32.toInt64 (md_items m (40 * r + (2 * k + 1)))) (0 : Int64) (1 : Int64) = some (decide ((0 : Int32) ≤ md_items m (40 * r + (2 * k + 1))) && decide (md_items m (40 * r + (2 * k + 1)) ≤ (1 : Int32))) := r_in (md_items m (40 * r + (2 * k + 1))) 0 1
      have p : (md_items m (40 * r + (2 * k + 1)) ≤ (1 : Int32)) ↔ md_items m (40 * r + (2 * k + 1)) < nI 2 := pu_lt1 (md_items m (40 * r + (2 * k + 1))) 1 (by decide)
      simp only [p] at this
      exact this
    rw [z0] at ih0
    rw [z1] at ih1
    rw [lo_Md_told_56, pu_in_t hr (by decide), pu_n (by omega : r < 2 ^ 31), hs, em, nI_add (40 * r) (2 * h), if_neg (nI_ge (by omega) (by omega)), e1, e2, pu_in_t (by omega : 40 * r + 2 * k < 240) (by decide), pu_n (by omega : 40 * r + 2 * k < 2 ^ 31), pu_in_t (by omega : 40 * r + (2 * k + 1) < 240) (by decide), pu_n (by omega : 40 * r + (2 * k + 1) < 2 ^ 31), Q.2.1, pu_full hn, g1, g2]
    have eif : (if md_items m (40 * r + (2 * k + 1)) = 1 then (bif true then some (md_items m (40 * r + 2 * k)) else none) else (bif true then some (md_items m (40 * r + 2 * k) ^^^ (-1)) else none)) = some (if md_items m (40 * r + (2 * k + 1)) = 1 then md_items m (40 * r + 2 * k) else md_items m (40 * r + 2 * k) ^^^ (-1)) := by
      by_cases g : md_items m (40 * r + (2 * k + 1)) = 1
      · rw [if_pos g, if_pos g]; rfl
      · rw [if_neg g, if_neg g]; rfl
    rw [eif, q_all, q_sus]
    simp only [cond_true, Option.bind_some]
    cases b
    · rw [z0, if_pos rfl]
      simp only [Option.bind_some]
      rw [ih0]
      simp
    · rw [z1, if_neg z2]
      unfold p_tp at ih1 ⊢
      cases (decide ((0 : Int32) ≤ md_items m (40 * r + 2 * k)) && decide (md_items m (40 * r + 2 * k) < nI (2 ^ a_n a)))
      · simp only [cond_false, Option.bind_some]
        rw [ih0]
        simp
      · cases (decide ((0 : Int32) ≤ md_items m (40 * r + (2 * k + 1))) && decide (md_items m (40 * r + (2 * k + 1)) < nI 2))
        · simp only [cond_true, cond_false, Option.bind_some]
          rw [ih0]
          simp
        · simp only [cond_true, Option.bind_some]
          rw [ih1]
          simp
/-- a row of pairs -/
theorem f_even {n : Nat} (hn : n ≤ 40) : (nj_rem (nI n) 2 = 0) ↔ n % 2 = 0 := by
  have : nj_rem (nI n) (2 : Int32) = nI (n % 2) := pk_rem (d := 2) (by omega) (by decide) (by decide)
  rw [this]
  exact nI_eq (b := 0) (by omega) (by decide)
theorem f_found0 {s : NjS} {m : MdS} (h : Rel s m) (j : Nat) (hj : j < 6) : ∃ v s' m', v ≠ 0 ∧ mo_Nj_found s (nI j) = some (v, s') ∧ mo_Md_find m (nI j) = some (v, m') ∧ Rel s' m' := by
  obtain ⟨v, s', m', w1, w2, w3⟩ := f_found h j hj
  refine ⟨v, s', m', ?_, w1, w2, w3⟩
  rw [mo_Nj_found, pu_in_t hj (by decide)] at w1
  cases w1
  decide
theorem op_told {s : NjS} {m : MdS} (h : Rel s m) (x : Int32) : Same (mo_Nj_told s x) (mo_Md_told m x) := by
  obtain ⟨a, R, Q, W⟩ := h.ac
  have hn6 := R.1.1
  rw [mo_Nj_told, mo_Md_told]
  rcases f_cr h R Q x with ⟨r, n, hr, hn, rfl, e1, e2, e3, hne, q1, q2, q3⟩ | ⟨v, s2, m2, hv, q1, q2, q3, q4⟩ | ⟨q1, q2⟩
  · have g40 : nI n ≤ (40 : Int32) := nI_le (b := 40) hn (by decide)
    rw [q1, q2, q3, if_pos g40]
    simp only [Option.bind_some, cond_true, if_true]
    rw [pu_in_t hr (by decide), pu_n (by omega), e2, e1]
    simp only [cond_true]
    by_cases g : nj_rem (nI n) 2 = 0
    · rw [if_pos g, if_pos g]
      have hev := (f_even hn).1 g
      obtain ⟨k, rfl⟩ : ∃ k, n = 2 * k := ⟨n / 2, by omega⟩
      have hc : mo_Sums_namesSets (nj_rows s r) (nI (a_n a)) = some (q_all (fun j => p_tp (a_n a) (ro_places (nj_rows s r) (2 * j)) (ro_places (nj_rows s r) (2 * j + 1))) 0 k) := c_sets hn6 (by omega) e2 k 0 nj_fu (by omega) (pu_fu (by omega))
      have hr1 : lo_Md_told_56 m (nI r) nj_fu 1 (nI (a_b a)) (nI (40 * r)) = _ := r_told Q hr (by omega) e1 k 0 nj_fu true (nI (a_b a)) (by omega) (pu_fu (by omega))
      have hcg : q_all (fun j => p_tp (a_n a) (md_items m (40 * r + 2 * j)) (md_items m (40 * r + (2 * j + 1)))) 0 k = q_all (fun j => p_tp (a_n a) (ro_places (nj_rows s r) (2 * j)) (ro_places (nj_rows s r) (2 * j + 1))) 0 k := q_all_cong (fun j hj => by
        rw [Nat.zero_add, e3 (2 * j) (by omega), e3 (2 * j + 1) (by omega)])
      have hsg : q_sus (fun j => md_items m (40 * r + j)) 0 k (nI (a_b a)) = q_sus (ro_places (nj_rows s r)) 0 k (nI (a_b a)) := q_sus_cong (fun j hj => (e3 _ (by omega)).symm)
      have hu : mo_Sums_suspects (nj_rows s r) (nI (a_b a)) = some (q_sus (ro_places (nj_rows s r)) 0 k (nI (a_b a))) := by
        have := c_sus (r := nj_rows s r) (h := k) (by omega) e2 k 0 nj_fu (nI (a_b a)) (by omega) (pu_fu (by omega))
        have t : lo_Sums_suspects_4 (nj_rows s r) nj_fu (nI (a_b a)) 0 = _ := this
        rw [mo_Sums_suspects, t]
        rfl
      have em : (40 : Int32) * nI r = nI (40 * r) := pk_mul 40 r
      rw [hcg, hsg] at hr1
      rw [R.1.2, hc, Q.inn, em, hr1]
      simp only [Option.bind_some, Bool.true_and]
      cases hq : q_all (fun j => p_tp (a_n a) (ro_places (nj_rows s r) (2 * j)) (ro_places (nj_rows s r) (2 * j + 1))) 0 k
      · exact (f_found h 3 (by decide)).b
      · have hz : ¬ nj_b true = 0 := by decide
        rw [if_neg hz]
        simp only [cond_true]
        rw [R.2.2.2.2.2.1.1, hu]
        exact Same.of h _
    · rw [if_neg g, if_neg g]
      exact (f_found h 5 (by decide)).b
  · rw [q1, q2, q3]
    simp only [Option.bind_some, cond_true, if_neg hv]
    exact Same.of q4 _
  · have n1 : ¬ (-1 : Int32) = 0 := by decide
    rw [q1, q2]
    simp only [Option.bind_some, cond_false, if_neg n1]
    exact Same.of h _
