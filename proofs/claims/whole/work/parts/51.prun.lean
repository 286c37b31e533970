/-! pure: run -/
theorem f_cr {s : NjS} {m : MdS} (h : Rel s m) {a : AC} (R : RC (nj_club s) a) (Q : RM m a) (x : Int32) : (∃ r n, r < 6 ∧ n ≤ 40 ∧ x = nI r ∧ md_sizes m r = nI n ∧ ro_size (nj_rows s r) = nI n ∧ (∀ k, k < n → ro_places (nj_rows s r) k = md_items m (40 * r + k)) ∧ a_n a ≠ 0 ∧ mo_Nj_refusalOfClubAndRow s x = some (0, s) ∧ mo_Md_isRow x = some true ∧ (∀ L, mo_Md_noRow m x L = if nI n ≤ L then some (0, m) else ((mo_Md_find m (5 : Int32)).bind (fun w3 => (some ((w3.1), (w3.2))))))) ∨ (∃ v s2 m2, v ≠ 0 ∧ mo_Nj_refusalOfClubAndRow s x = some (v, s2) ∧ mo_Md_isRow x = some true ∧ (∀ L, mo_Md_noRow m x L = some (v, m2)) ∧ Rel s2 m2) ∨ (mo_Nj_refusalOfClubAndRow s x = some (-1, s) ∧ mo_Md_isRow x = some false) := by
  have hn := R.1.1
  rw [mo_Nj_refusalOfClubAndRow, c_isRow, r_isRow]
  simp only [Option.bind_some]
  rcases in_or x 6 (by decide) with ⟨r, hr, rfl, hb⟩ | hb
  · rw [hb, R.1.2]
    simp only [cond_true]
    have ec : (nI (a_n a) = 0) ↔ a_n a = 0 := nI_eq (b := 0) (by omega) (by decide)
    by_cases g : a_n a = 0
    · right; left
      refine ⟨-4, s, m, by decide, ?_, trivial, fun L => ?_, h⟩
      · rw [if_pos (ec.2 g)]
      · rw [mo_Md_noRow, Q.2.1, if_pos (ec.2 g)]
    · rw [if_neg (fun q => g (ec.1 q)), pu_in_t hr (by decide), pu_n (by omega)]
      rcases (h.1 r hr).inv with ⟨e1, e2⟩ | ⟨n, hn1, e1, e2, e3⟩
      · right; left
        obtain ⟨v, s', m', q1, q2, q3⟩ := f_found h 1 (by decide)
        have q0 : v ≠ 0 := by
          rw [mo_Nj_found] at q1
          cases q1
          decide
        have q1' : mo_Nj_found s (1 : Int32) = some (v, s') := q1
        have q2' : mo_Md_find m (1 : Int32) = some (v, m') := q2
        refine ⟨v, s', m', q0, ?_, trivial, fun L => ?_, q3⟩
        · rw [mo_Row_isMissing, e2, if_neg m1_nle]
          simp only [Option.bind_some, cond_true, q1']
        · rw [mo_Md_noRow, Q.2.1, if_neg (fun q => g (ec.1 q)), pu_in_t hr (by decide), pu_n (by omega), e1, if_neg m1_nle]
          simp only [Option.bind_some, cond_true, q2']
      · left
        have p1 : (0 : Int32) ≤ nI n := nI_pos' (by omega)
        refine ⟨r, n, hr, hn1, rfl, e1, e2, e3, g, ?_, trivial, fun L => ?_⟩
        · rw [mo_Row_isMissing, e2, if_pos p1]
          rfl
        · rw [mo_Md_noRow, Q.2.1, if_neg (fun q => g (ec.1 q)), pu_in_t hr (by decide), pu_n (by omega), e1, if_pos p1]
          rfl
  · rw [hb]
    exact Or.inr (Or.inr ⟨rfl, rfl⟩)
