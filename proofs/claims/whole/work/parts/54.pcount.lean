/-! pure: count -/
def q_ct (g : Nat → Bool) : Nat → Nat → Int32 → Int32
  | _, 0, v => v
  | k, d + 1, v => q_ct g (k + 1) d (v + (if g k = true then 1 else 0))
theorem p_sm_ext {f : Nat → Nat} {n : Nat} : ∀ {N : Nat}, n ≤ N → (∀ k, n ≤ k → k < N → f k = 0) → p_sm f N = p_sm f n
  | 0, h, _ => by
    have : n = 0 := by omega
    rw [this]
  | N + 1, h, e => by
    by_cases g : n = N + 1
    · rw [g]
    · rw [p_sm, e N (by omega) (by omega), Nat.add_zero]
      exact p_sm_ext (by omega) (fun k h1 h2 => e k h1 (by omega))
theorem bc_mk (g : Nat → Bool) {n : Nat} (hn : n ≤ 6) : p_bc (p_mk g n) = p_sm (fun i => if g i = true then 1 else 0) n := by
  unfold p_bc
  rw [p_sm_ext (n := n) hn (fun k h1 h2 => by rw [p_mk_bit]; simp; omega)]
  exact p_sm_cong (fun k hk => by rw [p_mk_bit]; simp [hk])
theorem r_presidents {m : MdS} {a : AC} (Q : RM m a) : mo_Md_presidents m = some (nI (p_bc (p_ak a 1))) := by
  have hn := Q.1.1
  have h := pu_loop (fun f (st : Int32) i => lo_Md_presidents_4 m f st i) (a_n a) (fun k => nI (p_sm (fun i => if p_ik a i 1 = true then 1 else 0) k)) (some (nI (p_sm (fun i => if p_ik a i 1 = true then 1 else 0) (a_n a))))
    (fun f => by rw [lo_Md_presidents_4, Q.2.1, if_pos (nI_le (Nat.le_refl _) (by omega))])
    (fun f k hk => by
      have e : mo_Md_isOf m (nI k) (1 : Int32) = some (p_ik a k 1) := r_isOf Q hk (by decide)
      rw [lo_Md_presidents_4, Q.2.1, if_neg (nI_ge hk (by omega)), e, nI_1]
      simp only [Option.bind_some]
      rw [p_sm]
      cases p_ik a k 1
      · simp only [cond_false, Option.bind_some]
        have : nI (p_sm (fun i => if p_ik a i 1 = true then 1 else 0) k) + (0 : Int32) = nI (p_sm (fun i => if p_ik a i 1 = true then 1 else 0) k + 0) := nI_add _ 0
        rw [this]
        rfl
      · simp only [cond_true, Option.bind_some]
        have : nI (p_sm (fun i => if p_ik a i 1 = true then 1 else 0) k) + (1 : Int32) = nI (p_sm (fun i => if p_ik a i 1 = true then 1 else 0) k + 1) := nI_add _ 1
        rw [this]
        rfl)
    (a_n a) nj_fu 0 (by omega) (pu_fu (by omega))
  have h2 : lo_Md_presidents_4 m nj_fu 0 0 = some (nI (p_sm (fun i => if p_ik a i 1 = true then 1 else 0) (a_n a))) := h
  rw [mo_Md_presidents, h2, p_ak, bc_mk _ hn]
  rfl
theorem c_rowsThere (s : NjS) : ∀ (d k f : Nat) (v : Int32), k + d = 6 → d < f → lo_Nj_rowsThere_4 s f v (nI k) = some (q_ct (fun j => decide (0 ≤ ro_size (nj_rows s j))) k d v) := by
  intro d
  induction d with
  | zero =>
    intro k f v hk hf
    obtain ⟨f, rfl⟩ : ∃ z, f = z + 1 := ⟨f - 1, by omega⟩
    have e : (6 : Int32) ≤ nI k := nI_le (a := 6) (by omega) (by omega)
    rw [lo_Nj_rowsThere_4, if_pos e]
    rfl
  | succ d ih =>
    intro k f v hk hf
    obtain ⟨f, rfl⟩ : ∃ z, f = z + 1 := ⟨f - 1, by omega⟩
    have e : ¬ (6 : Int32) ≤ nI k := nI_ge (b := 6) (by omega) (by omega)
    rw [lo_Nj_rowsThere_4, if_neg e, pu_in_t (by omega : k < 6) (by decide), pu_n (by omega), nI_1, mo_Row_isMissing, q_ct]
    by_cases g : 0 ≤ ro_size (nj_rows s k)
    · rw [if_pos g]
      simp only [g, decide_true, if_true, cond_true, cond_false, Option.bind_some]
      exact ih (k + 1) f _ (by omega) (by omega)
    · rw [if_neg g]
      simp only [g, decide_false, cond_true, Option.bind_some]
      exact ih (k + 1) f _ (by omega) (by omega)
theorem c_textsThere (s : NjS) : ∀ (d k f : Nat) (v : Int32), k + d = 4 → d < f → lo_Nj_textsThere_4 s f v (nI k) = some (q_ct (fun j => decide (0 ≤ te_size (nj_texts s j))) k d v) := by
  intro d
  induction d with
  | zero =>
    intro k f v hk hf
    obtain ⟨f, rfl⟩ : ∃ z, f = z + 1 := ⟨f - 1, by omega⟩
    have e : (4 : Int32) ≤ nI k := nI_le (a := 4) (by omega) (by omega)
    rw [lo_Nj_textsThere_4, if_pos e]
    rfl
  | succ d ih =>
    intro k f v hk hf
    obtain ⟨f, rfl⟩ : ∃ z, f = z + 1 := ⟨f - 1, by omega⟩
    have e : ¬ (4 : Int32) ≤ nI k := nI_ge (b := 4) (by omega) (by omega)
    rw [lo_Nj_textsThere_4, if_neg e, pu_in_t (by omega : k < 4) (by decide), pu_n (by omega), nI_1, mo_Text_isMissing, q_ct]
    by_cases g : 0 ≤ te_size (nj_texts s k)
    · rw [if_pos g]
      simp only [g, decide_true, if_true, cond_true, cond_false, Option.bind_some]
      exact ih (k + 1) f _ (by omega) (by omega)
    · rw [if_neg g]
      simp only [g, decide_false, cond_true, Option.bind_some]
      exact ih (k + 1) f _ (by omega) (by omega)
theorem c_clubsKept (s : NjS) : ∀ (d k f : Nat) (v : Int32), k + d = 3 → d < f → lo_Nj_clubsKept_4 s f v (nI k) = some (q_ct (fun j => !decide (cl_children (nj_kept s j) = 0)) k d v) := by
  intro d
  induction d with
  | zero =>
    intro k f v hk hf
    obtain ⟨f, rfl⟩ : ∃ z, f = z + 1 := ⟨f - 1, by omega⟩
    have e : (3 : Int32) ≤ nI k := nI_le (a := 3) (by omega) (by omega)
    rw [lo_Nj_clubsKept_4, if_pos e]
    rfl
  | succ d ih =>
    intro k f v hk hf
    obtain ⟨f, rfl⟩ : ∃ z, f = z + 1 := ⟨f - 1, by omega⟩
    have e : ¬ (3 : Int32) ≤ nI k := nI_ge (b := 3) (by omega) (by omega)
    rw [lo_Nj_clubsKept_4, if_neg e, pu_in_t (by omega : k < 3) (by decide), pu_n (by omega), nI_1, q_ct]
    by_cases g : cl_children (nj_kept s k) = 0
    · rw [if_pos g]
      simp only [g, decide_true, cond_true, Option.bind_some]
      exact ih (k + 1) f _ (by omega) (by omega)
    · rw [if_neg g]
      simp only [g, decide_false, cond_true, Option.bind_some]
      exact ih (k + 1) f _ (by omega) (by omega)
def p_th (m : MdS) (w k : Nat) : Bool := if w = 6 then decide (0 ≤ md_sizes m k) else if w = 7 then (decide (k < 4) && decide (0 ≤ md_lengths m k)) else (decide (k < 3) && decide (0 ≤ md_row m (576 * (1 + k))))
theorem neg_iff (x : Int32) : (x < 0) ↔ ¬ 0 ≤ x := ⟨fun q => (fa_of_lt q).2.1, fun q => fa_of_nle q⟩
theorem r_thereOf (m : MdS) {w : Nat} (hw1 : 6 ≤ w) (hw : w ≤ 8) : ∀ (d k f : Nat) (v : Int32), k + d = 6 → d < f → lo_Md_thereOf_4 m (nI w) f v (nI k) = some (q_ct (p_th m w) k d v) := by
  intro d
  induction d with
  | zero =>
    intro k f v hk hf
    obtain ⟨f, rfl⟩ : ∃ z, f = z + 1 := ⟨f - 1, by omega⟩
    have e : (6 : Int32) ≤ nI k := nI_le (a := 6) (by omega) (by omega)
    rw [lo_Md_thereOf_4, if_pos e]
    rfl
  | succ d ih =>
    intro k f v hk hf
    obtain ⟨f, rfl⟩ : ∃ z, f = z + 1 := ⟨f - 1, by omega⟩
    have e : ¬ (6 : Int32) ≤ nI k := nI_ge (b := 6) (by omega) (by omega)
    have w6 : (nI w = (6 : Int32)) ↔ w = 6 := nI_eq (b := 6) (by omega) (by decide)
    have w7 : (nI w = (7 : Int32)) ↔ w = 7 := nI_eq (b := 7) (by omega) (by decide)
    have k4 : ((4 : Int32) ≤ nI k) ↔ ¬ k < 4 := ⟨fun q => fun z => nI_ge (b := 4) z (by omega) q, fun q => nI_le (a := 4) (by omega) (by omega)⟩
    have k3 : ((3 : Int32) ≤ nI k) ↔ ¬ k < 3 := ⟨fun q => fun z => nI_ge (b := 3) z (by omega) q, fun q => nI_le (a := 3) (by omega) (by omega)⟩
    have e0 : ((576 : Int32) * ((1 : Int32) + nI k)) + (0 : Int32) = nI (576 * (1 + k)) := by
      rw [e576]
      exact nI_add (576 * (1 + k)) 0
    have key : ∀ b : Bool, p_th m w k = b → (lo_Md_thereOf_4 m (nI w) f (v + (if b = true then 1 else 0)) (nI (k + 1))) = some (q_ct (p_th m w) k (d + 1) v) := by
      intro b hb
      rw [q_ct, hb]
      exact ih (k + 1) f _ (by omega) (by omega)
    rw [lo_Md_thereOf_4, if_neg e, pu_in_t (by omega : k < 6) (by decide), pu_n (by omega : k < 2 ^ 31), nI_1, e0]
    by_cases g6 : w = 6
    · rw [if_pos (w6.2 g6)]
      simp only [cond_true]
      by_cases g : 0 ≤ md_sizes m k
      · rw [if_pos g]
        exact key true (by unfold p_th; rw [if_pos g6]; simp [g])
      · rw [if_neg g]
        exact key false (by unfold p_th; rw [if_pos g6]; simp [g])
    · rw [if_neg (fun q => g6 (w6.1 q))]
      by_cases g7 : w = 7
      · rw [if_pos (w7.2 g7)]
        by_cases g4 : k < 4
        · rw [if_neg (fun q => k4.1 q g4), pu_in_t g4 (by decide)]
          simp only [cond_true, neg_iff]
          by_cases g : 0 ≤ md_lengths m k
          · rw [if_neg (fun q => q g)]
            exact key true (by unfold p_th; rw [if_neg g6, if_pos g7]; simp [g, g4])
          · rw [if_pos g]
            exact key false (by unfold p_th; rw [if_neg g6, if_pos g7]; simp [g])
        · rw [if_pos (k4.2 g4)]
          exact key false (by unfold p_th; rw [if_neg g6, if_pos g7]; simp [g4])
      · rw [if_neg (fun q => g7 (w7.1 q))]
        by_cases g3 : k < 3
        · rw [if_neg (fun q => k3.1 q g3), pu_in_t (by omega : 576 * (1 + k) < 2304) (by decide), pu_n (by omega : 576 * (1 + k) < 2 ^ 31)]
          simp only [cond_true, neg_iff]
          by_cases g : 0 ≤ md_row m (576 * (1 + k))
          · rw [if_neg (fun q => q g)]
            exact key true (by unfold p_th; rw [if_neg g6, if_neg g7]; simp [g, g3])
          · rw [if_pos g]
            exact key false (by unfold p_th; rw [if_neg g6, if_neg g7]; simp [g])
        · rw [if_pos (k3.2 g3)]
          exact key false (by unfold p_th; rw [if_neg g6, if_neg g7]; simp [g3])
theorem q_ct_cong {f g : Nat → Bool} : ∀ {d k : Nat} {v : Int32}, (∀ j, k ≤ j → j < k + d → f j = g j) → q_ct f k d v = q_ct g k d v
  | 0, _, _, _ => rfl
  | d + 1, k, v, h => by
    rw [q_ct, q_ct, h k (by omega) (by omega), q_ct_cong (f := f) (g := g) (fun j h1 h2 => h j (by omega) (by omega))]
/-- a kept club: there in both, or in neither -/
theorem f_kept {s : NjS} {m : MdS} (h : Rel s m) {k : Nat} (hk : k < 3) : (cl_children (nj_kept s k) = 0 ∧ md_row m (576 * (1 + k)) = -1) ∨ (¬ cl_children (nj_kept s k) = 0 ∧ 0 ≤ md_row m (576 * (1 + k)) ∧ cl_dc (nj_kept s k) = md_row m (576 * (1 + k))) := by
  obtain ⟨a, K, e1, e2, e3⟩ := h.2.2.1
  rcases e3 k hk with g | ⟨hp, a2, g1, g2, g3⟩
  · exact Or.inl g
  · right
    obtain ⟨R2, Q2, W2, n, ds, n1, n2, n3, n4⟩ := g3
    have hn := R2.1.1
    refine ⟨?_, ?_, ?_⟩
    · rw [R2.1.2]
      exact fun q => by
        have := (nI_eq (a := a_n a2) (b := 0) (by omega) (by decide)).1 q
        omega
    · rw [n3]; exact nI_pos' (by omega)
    · rw [n2, n3]
theorem f_count {s : NjS} {m : MdS} (h : Rel s m) {k : Nat} (hk : k ≤ 8) : ∃ v, mo_Nj_count s (nI k) = some v ∧ mo_Md_countOf m (nI k) = some v := by
  obtain ⟨a, n, K, Q, hdc, h0, hn⟩ := h.ak
  have R := K.1
  have hn6 := R.1.1
  have h6 := pow6 hn6
  have hb := Q.1.2.2.2.2
  have hb2 : a_b a < 64 := by omega
  have ha := p_ak_lt hn6 1
  have c1 : mo_Club_allOfKind (nj_club s) (1 : Int32) = some (nI (p_ak a 1)) := c_allOfKind R (by decide)
  rw [mo_Nj_count, mo_Md_countOf, R.1.2, R.2.2.2.2.2.1.1, R.2.2.2.2.2.2, hdc, Q.2.1, Q.inn, Q.tin, h0, c_votesOfSet R, r_votesOf Q (by omega), r_presidents Q, c1]
  simp only [Option.bind_some]
  rw [c_bits _ ha]
  simp only [Option.bind_some]
  rcases (by omega : k = 0 ∨ k = 1 ∨ k = 2 ∨ k = 3 ∨ k = 4 ∨ k = 5 ∨ k = 6 ∨ k = 7 ∨ k = 8) with rfl | rfl | rfl | rfl | rfl | rfl | rfl | rfl | rfl
  · exact ⟨_, rfl, rfl⟩
  · exact ⟨_, rfl, rfl⟩
  · exact ⟨_, rfl, rfl⟩
  · exact ⟨_, rfl, rfl⟩
  · exact ⟨_, rfl, rfl⟩
  · exact ⟨_, rfl, rfl⟩
  · have t1 : lo_Nj_rowsThere_4 s nj_fu 0 0 = _ := c_rowsThere s 6 0 nj_fu 0 (by omega) (pu_fu (by omega))
    have t2 : lo_Md_thereOf_4 m (nI 6) nj_fu 0 0 = _ := r_thereOf m (by decide) (by decide) 6 0 nj_fu 0 (by omega) (pu_fu (by omega))
    have t3 : q_ct (p_th m 6) 0 6 0 = q_ct (fun j => decide (0 ≤ ro_size (nj_rows s j))) 0 6 0 := q_ct_cong (fun j _ hj => by
      unfold p_th
      rw [if_pos rfl, (h.1 j (by omega)).1])
    refine ⟨q_ct (fun j => decide (0 ≤ ro_size (nj_rows s j))) 0 6 0, ?_, ?_⟩
    · show (mo_Nj_rowsThere s).bind _ = _
      rw [mo_Nj_rowsThere, t1]
      rfl
    · show (mo_Md_thereOf m (nI 6)).bind _ = _
      rw [mo_Md_thereOf, t2, t3]
      rfl
  · have t1 : lo_Nj_textsThere_4 s nj_fu 0 0 = _ := c_textsThere s 4 0 nj_fu 0 (by omega) (pu_fu (by omega))
    have t2 : lo_Md_thereOf_4 m (nI 7) nj_fu 0 0 = _ := r_thereOf m (by decide) (by decide) 6 0 nj_fu 0 (by omega) (pu_fu (by omega))
    have t3 : q_ct (p_th m 7) 0 4 0 = q_ct (fun j => decide (0 ≤ te_size (nj_texts s j))) 0 4 0 := q_ct_cong (fun j _ hj => by
      unfold p_th
      rw [if_neg (by decide), if_pos rfl, (h.2.1 j (by omega)).1]
      simp; omega)
    have t4 : q_ct (p_th m 7) 0 6 0 = q_ct (p_th m 7) 0 4 0 := by
      have z4 : p_th m 7 4 = false := by unfold p_th; rw [if_neg (by decide), if_pos rfl]; rfl
      have z5 : p_th m 7 5 = false := by unfold p_th; rw [if_neg (by decide), if_pos rfl]; rfl
      simp [q_ct, z4, z5]
    refine ⟨q_ct (fun j => decide (0 ≤ te_size (nj_texts s j))) 0 4 0, ?_, ?_⟩
    · show (mo_Nj_textsThere s).bind _ = _
      rw [mo_Nj_textsThere, t1]
      rfl
    · show (mo_Md_thereOf m (nI 7)).bind _ = _
      rw [mo_Md_thereOf, t2, t4, t3]
      rfl
  · have t1 : lo_Nj_clubsKept_4 s nj_fu 0 0 = _ := c_clubsKept s 3 0 nj_fu 0 (by omega) (pu_fu (by omega))
    have t2 : lo_Md_thereOf_4 m (nI 8) nj_fu 0 0 = _ := r_thereOf m (by decide) (by decide) 6 0 nj_fu 0 (by omega) (pu_fu (by omega))
    have t3 : q_ct (p_th m 8) 0 3 0 = q_ct (fun j => !decide (cl_children (nj_kept s j) = 0)) 0 3 0 := q_ct_cong (fun j _ hj => by
      unfold p_th
      rw [if_neg (by decide), if_neg (by decide)]
      have hj3 : j < 3 := by omega
      rcases f_kept h hj3 with ⟨g1, g2⟩ | ⟨g1, g2, _⟩
      · rw [g1, g2]
        simp
      · simp [g1, g2, hj3])
    have t4 : q_ct (p_th m 8) 0 6 0 = q_ct (p_th m 8) 0 3 0 := by
      have z3 : p_th m 8 3 = false := by unfold p_th; rw [if_neg (by decide), if_neg (by decide)]; rfl
      have z4 : p_th m 8 4 = false := by unfold p_th; rw [if_neg (by decide), if_neg (by decide)]; rfl
      have z5 : p_th m 8 5 = false := by unfold p_th; rw [if_neg (by decide), if_neg (by decide)]; rfl
      simp [q_ct, z3, z4, z5]
    refine ⟨q_ct (fun j => !decide (cl_children (nj_kept s j) = 0)) 0 3 0, ?_, ?_⟩
    · show (mo_Nj_clubsKept s).bind _ = _
      rw [mo_Nj_clubsKept, t1]
      rfl
    · show (mo_Md_thereOf m (nI 8)).bind _ = _
      rw [mo_Md_thereOf, t2, t4, t3]
      rfl
theorem op_count {s : NjS} {m : MdS} (h : Rel s m) (x : Int32) : ∃ v, mo_Nj_count s x = some v ∧ mo_Md_count m x = some v := by
  have hin : mo_Md_in (Int32.toInt64 x) (0 : Int64) (8 : Int64) = some (decide ((0 : Int32) ≤ x) && decide (x < nI 9)) := by
    have t : mo_Md_in (Int32.toInt64 x) (0 : Int64) (8 : Int64) = some (decide ((0 : Int32) ≤ x) && decide (x ≤ (8 : Int32))) := r_in x 0 8
    have e : (x ≤ (8 : Int32)) ↔ x < nI 9 := pu_lt1 x 8 (by decide)
    simp only [e] at t
    exact t
  rw [mo_Md_count, hin]
  simp only [Option.bind_some]
  rcases in_or x 9 (by decide) with ⟨k, hk, rfl, hb⟩ | hb
  · rw [hb]
    obtain ⟨v, v1, v2⟩ := f_count h (by omega : k ≤ 8)
    refine ⟨v, v1, ?_⟩
    simp only [cond_true, v2, Option.bind_some]
  · rw [hb]
    refine ⟨-1, ?_, rfl⟩
    have ne : ∀ j, j < 9 → ¬ x = nI j := by
      intro j hj q
      subst q
      simp [nI_pos' (by omega : j < 2 ^ 31), nI_lt hj (by decide)] at hb
    have n0 : ¬ x = (0 : Int32) := ne 0 (by decide)
    have n1 : ¬ x = (1 : Int32) := ne 1 (by decide)
    have n2 : ¬ x = (2 : Int32) := ne 2 (by decide)
    have n3 : ¬ x = (3 : Int32) := ne 3 (by decide)
    have n4 : ¬ x = (4 : Int32) := ne 4 (by decide)
    have n5 : ¬ x = (5 : Int32) := ne 5 (by decide)
    have n6 : ¬ x = (6 : Int32) := ne 6 (by decide)
    have n7 : ¬ x = (7 : Int32) := ne 7 (by decide)
    have n8 : ¬ x = (8 : Int32) := ne 8 (by decide)
    rw [mo_Nj_count, if_neg n0, if_neg n1, if_neg n2, if_neg n3, if_neg n4, if_neg n5, if_neg n6, if_neg n7, if_neg n8]
