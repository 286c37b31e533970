/-! pure: the club of the class, by numbers -/
abbrev AC : Type := Nat × (Nat → Nat) × (Nat → Int32) × (Nat → Nat) × Nat × Nat × Int32
abbrev a_n (a : AC) : Nat := a.1
abbrev a_K (a : AC) : Nat → Nat := a.2.1
abbrev a_P (a : AC) : Nat → Int32 := a.2.2.1
abbrev a_L (a : AC) : Nat → Nat := a.2.2.2.1
abbrev a_r (a : AC) : Nat := a.2.2.2.2.1
abbrev a_b (a : AC) : Nat := a.2.2.2.2.2.1
abbrev a_t (a : AC) : Int32 := a.2.2.2.2.2.2
/-- the club of the class holds these -/
def RC (c : CluS) (a : AC) : Prop := (a_n a ≤ 6 ∧ cl_children c = nI (a_n a)) ∧ (∀ i, i < a_n a → cl_kinds c i = nI (a_K a i) ∧ a_K a i < 6) ∧ (∀ i, i < a_n a → cl_pence c i = a_P a i) ∧ (∀ i, i < a_n a → cl_liked c i = nI (a_L a i) ∧ a_L a i < 2 ^ a_n a) ∧ (cl_rule c = nI (a_r a) ∧ a_r a < 4) ∧ (cl_inn c = nI (a_b a) ∧ a_b a < 2 ^ a_n a) ∧ cl_tin c = a_t a
theorem pow6 {n : Nat} (h : n ≤ 6) : 2 ^ n ≤ 64 := by
  have := Nat.pow_le_pow_right (n := 2) (by decide) h
  simpa using this
def p_vt (a : AC) (i : Nat) : Nat := if a_K a i = 1 then 2 else if a_K a i = 3 then (if a_P a i < 5 then 1 else 2) else if a_K a i = 4 then 3 else if a_K a i = 5 then 0 else 1
theorem p_vt_le (a : AC) (i : Nat) : p_vt a i ≤ 3 := by
  unfold p_vt
  split
  · omega
  · split
    · split <;> omega
    · split
      · omega
      · split <;> omega
theorem c_votesOf {c : CluS} {a : AC} (R : RC c a) {i : Nat} (hi : i < a_n a) : mo_Club_votesOf c (nI i) = some (nI (p_vt a i)) := by
  obtain ⟨⟨hn, -⟩, hK, hP, -, -, -, -⟩ := R
  obtain ⟨h1, h2⟩ := hK i hi
  have h3 := hP i hi
  have hi6 : i < 6 := by omega
  rw [mo_Club_votesOf, pu_in_t hi6 (by decide), pu_n (by omega), h1, h3]
  unfold p_vt
  generalize a_P a i = q at *
  generalize a_K a i = k at *
  match k, h2 with
  | 0, _ => rfl
  | 1, _ => rfl
  | 2, _ => rfl
  | 3, _ =>
    by_cases hq : q < 5
    · simp only [hq, if_true]; rfl
    · simp only [hq, if_false]; rfl
  | 4, _ => rfl
  | 5, _ => rfl
def p_vf (a : AC) (S i : Nat) : Nat := if S.testBit i then p_vt a i else 0
def p_vs (a : AC) (S : Nat) : Nat := p_sm (p_vf a S) (a_n a)
theorem p_vf_le (a : AC) (S i : Nat) : p_vf a S i ≤ 3 := by
  unfold p_vf
  split
  · exact p_vt_le a i
  · omega
theorem c_votesOfSet {c : CluS} {a : AC} (R : RC c a) (S : Nat) : mo_Club_votesOfSet c (nI S) = some (nI (p_vs a S)) := by
  have hn := R.1.1
  have hc := R.1.2
  have h := pu_loop (fun n v i => lo_Club_votesOfSet_4 c (nI S) n v i) (a_n a) (fun k => nI (p_sm (p_vf a S) k)) (some (nI (p_vs a S)))
    (fun n => by
      rw [lo_Club_votesOfSet_4, hc, if_pos (nI_le (Nat.le_refl _) (by omega))]
      rfl)
    (fun n k hk => by
      rw [lo_Club_votesOfSet_4, hc, if_neg (nI_ge hk (by omega))]
      by_cases hb : S.testBit k = true
      · have h1 : ¬ (nI S &&& ((1 : Int32) <<< (nI k &&& 31))) = 0 := by rw [pu_and S k (by omega), hb]; decide
        rw [if_neg h1, c_votesOf R hk]
        simp only [Option.bind_some]
        rw [nI_add, nI_1, p_sm, p_vf, if_pos hb]
      · have h1 : (nI S &&& ((1 : Int32) <<< (nI k &&& 31))) = 0 := by rw [pu_and S k (by omega)]; simpa using hb
        rw [if_pos h1]
        simp only [Option.bind_some]
        rw [nI_1, p_sm, p_vf, if_neg hb]
        rfl)
    (a_n a) nj_fu 0 (by omega) (pu_fu (by omega))
  have h2 : lo_Club_votesOfSet_4 c (nI S) nj_fu 0 0 = some (nI (p_vs a S)) := h
  rw [mo_Club_votesOfSet, h2]
  rfl
def p_ik (a : AC) (i k : Nat) : Bool := decide (a_K a i = k) || (decide (k = 1) && decide (a_K a i = 4))
theorem c_isOfKind {c : CluS} {a : AC} (R : RC c a) {i k : Nat} (hi : i < a_n a) (hk : k < 6) : mo_Club_isOfKind c (nI i) (nI k) = some (p_ik a i k) := by
  obtain ⟨⟨hn, -⟩, hK, -⟩ := R
  obtain ⟨h1, h2⟩ := hK i hi
  have hi6 : i < 6 := by omega
  rw [mo_Club_isOfKind, pu_in_t hi6 (by decide), pu_n (by omega), h1]
  simp only [cond_true, p_ik]
  have e1 : (nI (a_K a i) = nI k) ↔ a_K a i = k := nI_eq (by omega) (by omega)
  have e2 : (nI k = (1 : Int32)) ↔ k = 1 := nI_eq (b := 1) (by omega) (by decide)
  have e3 : (nI (a_K a i) = (4 : Int32)) ↔ a_K a i = 4 := nI_eq (b := 4) (by omega) (by decide)
  simp only [e1, e2, e3]
  by_cases g1 : a_K a i = k
  · simp [g1]
  · by_cases g2 : k = 1
    · by_cases g3 : a_K a i = 4
      · simp [g1, g2, g3]
      · subst g2
        simp [g1, g3]
    · simp [g1, g2]
def p_ak (a : AC) (k : Nat) : Nat := p_mk (fun i => p_ik a i k) (a_n a)
theorem c_allOfKind {c : CluS} {a : AC} (R : RC c a) {k0 : Nat} (hk0 : k0 < 6) : mo_Club_allOfKind c (nI k0) = some (nI (p_ak a k0)) := by
  have hn := R.1.1
  have hc := R.1.2
  have h := pu_loop (fun n v i => lo_Club_allOfKind_4 c (nI k0) n v i) (a_n a) (fun k => nI (p_mk (fun i => p_ik a i k0) k)) (some (nI (p_ak a k0)))
    (fun n => by
      rw [lo_Club_allOfKind_4, hc, if_pos (nI_le (Nat.le_refl _) (by omega))]
      rfl)
    (fun n k hk => by
      rw [lo_Club_allOfKind_4, hc, if_neg (nI_ge hk (by omega)), c_isOfKind R hk hk0]
      simp only [Option.bind_some]
      cases hb : p_ik a k k0
      · simp only [cond_false, Option.bind_some]
        rw [nI_1, p_mk, hb]
        rfl
      · simp only [cond_true, Option.bind_some]
        rw [pu_sh k (by omega), fa_or, nI_1, p_mk, hb]
        rfl)
    (a_n a) nj_fu 0 (by omega) (pu_fu (by omega))
  have h2 : lo_Club_allOfKind_4 c (nI k0) nj_fu 0 0 = some (nI (p_ak a k0)) := h
  rw [mo_Club_allOfKind, h2]
  rfl
theorem c_votesAgainst {c : CluS} {a : AC} (R : RC c a) {i : Nat} (hi : i < 6) (S L : Nat) : mo_Club_votesAgainst c (nI i) (nI S) (nI L) = some (nI (p_vs a (p_an (p_an S L) (2 ^ i)))) := by
  rw [mo_Club_votesAgainst, p_an_nI, pu_sh i (by omega), p_an_nI, c_votesOfSet R]
  rfl
