/-! pure: lay, at, tear, mean, text, put -/
theorem RR.inv {x : RowS} {sz : Int32} {it : Nat → Int32} (h : RR x sz it) : (sz = -1 ∧ ro_size x = -1) ∨ ∃ n, n ≤ 40 ∧ sz = nI n ∧ ro_size x = nI n ∧ ∀ k, k < n → ro_places x k = it k := by
  obtain ⟨h1, h2⟩ := h
  rcases h2 with h2 | ⟨n, a1, a2, a3⟩
  · exact Or.inl ⟨h2, by rw [h1, h2]⟩
  · exact Or.inr ⟨n, a1, a2, by rw [h1, a2], a3⟩
theorem RT.inv {x : TexS} {sz : Int32} {it : Nat → Int32} (h : RT x sz it) : (sz = -1 ∧ te_size x = -1) ∨ ∃ n, n ≤ 60 ∧ sz = nI n ∧ te_size x = nI n ∧ ∀ k, k < n → te_bytes x k = it k := by
  obtain ⟨h1, h2⟩ := h
  rcases h2 with h2 | ⟨n, a1, a2, a3⟩
  · exact Or.inl ⟨h2, by rw [h1, h2]⟩
  · exact Or.inr ⟨n, a1, a2, by rw [h1, a2], a3⟩
theorem r_inN (x : Int32) {n : Nat} (hn : n < 2 ^ 30) : mo_Md_in (Int32.toInt64 x) (0 : Int64) (Int32.toInt64 (nI n - 1)) = some (decide (0 ≤ x) && decide (x < nI n)) := by
  have h : mo_Md_in (Int32.toInt64 x) (0 : Int64) (Int32.toInt64 (nI n - 1)) = some (decide ((0 : Int32) ≤ x) && decide (x ≤ nI n - 1)) := r_in x 0 (nI n - 1)
  have e : (x ≤ nI n - 1) ↔ x < nI n := by
    rcases n with - | n
    · rw [fa_le, fa_lt]
      have h1 : (nI 0 - 1 : Int32).toInt = -1 := by decide
      have h2 : (nI 0).toInt = 0 := by decide
      rw [h1, h2]
      omega
    · rw [nI_pred]
      exact pu_lt1 x n (by omega)
  rw [h]
  simp only [e]
theorem m1_lt : (-1 : Int32) < 0 := by decide
theorem m1_nle : ¬ (0 : Int32) ≤ -1 := by decide
/-- whether a place of a row may be used: both say the same -/
theorem op_place {s : NjS} {m : MdS} (h : Rel s m) (x y : Int32) : (∃ r k n, r < 6 ∧ k < n ∧ n ≤ 40 ∧ x = nI r ∧ y = nI k ∧ md_sizes m r = nI n ∧ mo_Nj_refusalOfPlace s x y = some (0, s) ∧ mo_Md_refused m x y = some (0, m)) ∨ (∃ v s' m', v ≠ 0 ∧ mo_Nj_refusalOfPlace s x y = some (v, s') ∧ mo_Md_refused m x y = some (v, m') ∧ Rel s' m') := by
  rw [mo_Nj_refusalOfPlace, mo_Md_refused, c_isRow, r_isRow]
  simp only [Option.bind_some]
  rcases in_or x 6 (by decide) with ⟨r, hr, rfl, hb⟩ | hb
  · rw [hb]
    simp only [cond_true, pu_in_t hr (by decide), pu_n (by omega : r < 2 ^ 31)]
    rcases (h.1 r hr).inv with ⟨e1, e2⟩ | ⟨n, hn, e1, e2, e3⟩
    · right
      obtain ⟨v, s', m', q1, q2, q3⟩ := f_found h 1 (by decide)
      have q0 : v ≠ 0 := by
        rw [mo_Nj_found] at q1
        cases q1
        decide
      have q1' : mo_Nj_found s (1 : Int32) = some (v, s') := q1
      have q2' : mo_Md_find m (1 : Int32) = some (v, m') := q2
      refine ⟨v, s', m', q0, ?_, ?_, q3⟩
      · rw [mo_Row_isMissing, e2, if_neg m1_nle]
        simp only [Option.bind_some, cond_true, q1']
      · rw [e1, if_neg m1_nle]
        simp only [Option.bind_some, q2']
    · have p1 : (0 : Int32) ≤ nI n := nI_pos' (by omega)
      rw [mo_Row_isMissing, e2, if_pos p1, e1, if_pos p1, r_inN y (by omega), mo_Row_hasPlace, e2, c_range y n (by omega)]
      simp only [Option.bind_some, cond_false]
      rcases in_or y n (by omega) with ⟨k, hk, rfl, hb2⟩ | hb2
      · left
        rw [hb2]
        exact ⟨r, k, n, hr, hk, hn, rfl, rfl, e1, rfl, rfl⟩
      · right
        rw [hb2]
        obtain ⟨v, s', m', q1, q2, q3⟩ := f_found h 2 (by decide)
        have q0 : v ≠ 0 := by
          rw [mo_Nj_found] at q1
          cases q1
          decide
        have q1' : mo_Nj_found s (2 : Int32) = some (v, s') := q1
        have q2' : mo_Md_find m (2 : Int32) = some (v, m') := q2
        refine ⟨v, s', m', q0, ?_, ?_, q3⟩
        · simp only [cond_false, q1', Option.bind_some]
        · simp only [cond_false, q2', Option.bind_some]
  · right
    rw [hb]
    exact ⟨-1, s, m, by decide, rfl, rfl, h⟩
theorem e40 (r k : Nat) : ((40 : Int32) * nI r) + nI k = nI (40 * r + k) := by
  have : (40 : Int32) * nI r = nI (40 * r) := pk_mul 40 r
  rw [this, nI_add]
theorem e60 (r k : Nat) : ((60 : Int32) * nI r) + nI k = nI (60 * r + k) := by
  have : (60 : Int32) * nI r = nI (60 * r) := pk_mul 60 r
  rw [this, nI_add]
theorem op_at {s : NjS} {m : MdS} (h : Rel s m) (x y : Int32) : Same (mo_Nj_at s x y) (mo_Md_at m x y) := by
  rw [mo_Nj_at, mo_Md_at]
  rcases op_place h x y with ⟨r, k, n, hr, hk, hn, rfl, rfl, e1, q1, q2⟩ | ⟨v, s', m', hv, q1, q2, q3⟩
  · rw [q1, q2]
    simp only [Option.bind_some, if_true]
    rw [e40, pu_in_t (by omega : 40 * r + k < 240) (by decide), pu_n (by omega), pu_in_t hr (by decide), pu_n (by omega), pu_in_t (by omega : k < 40) (by decide), pu_n (by omega)]
    obtain ⟨w1, w2⟩ := h.1 r hr
    rcases w2 with w2 | ⟨n2, a1, a2, a3⟩
    · rw [e1] at w2
      exact absurd (w2 ▸ nI_pos' (by omega : n < 2 ^ 31)) m1_nle
    · have hn2 : n2 = n := (nI_eq (by omega) (by omega)).1 (a2.symm.trans e1)
      subst hn2
      refine ⟨1, _, _, rfl, rfl, h.1, h.2.1, h.2.2.1, h.2.2.2.1, ?_, h.2.2.2.2.2⟩
      exact a3 k hk
  · rw [q1, q2]
    simp only [Option.bind_some, if_neg hv]
    exact ⟨v, s', m', rfl, rfl, q3⟩
