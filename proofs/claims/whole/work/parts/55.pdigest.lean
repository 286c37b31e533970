/-! pure: digest -/
def q_dg (it : Nat → Int32) : Nat → Nat → Int64 → Int64
  | _, 0, v => v
  | k, d + 1, v => q_dg it (k + 1) d ((31 : Int64) * v + Int32.toInt64 (it k))
theorem q_dg_cong {f g : Nat → Int32} : ∀ {d k : Nat} {v : Int64}, (∀ j, k ≤ j → j < k + d → f j = g j) → q_dg f k d v = q_dg g k d v
  | 0, _, _, _ => rfl
  | d + 1, k, v, h => by
    rw [q_dg, q_dg, h k (by omega) (by omega), q_dg_cong (f := f) (g := g) (fun j h1 h2 => h j (by omega) (by omega))]
theorem dg_6 {s : NjS} {m : MdS} (h : Rel s m) : ∀ (d k f1 f2 : Nat) (v : Int64), k + d = 9 → d < f1 → d < f2 → ∃ w, lo_Nj_digest_6 s f1 v (nI k) = some w ∧ lo_Md_digest_6 m f2 v (nI k) = some w := by
  intro d
  induction d with
  | zero =>
    intro k f1 f2 v hk h1 h2
    obtain ⟨f1, rfl⟩ : ∃ z, f1 = z + 1 := ⟨f1 - 1, by omega⟩
    obtain ⟨f2, rfl⟩ : ∃ z, f2 = z + 1 := ⟨f2 - 1, by omega⟩
    have e : (9 : Int32) ≤ nI k := nI_le (a := 9) (by omega) (by omega)
    exact ⟨v, by rw [lo_Nj_digest_6, if_pos e], by rw [lo_Md_digest_6, if_pos e]⟩
  | succ d ih =>
    intro k f1 f2 v hk h1 h2
    obtain ⟨f1, rfl⟩ : ∃ z, f1 = z + 1 := ⟨f1 - 1, by omega⟩
    obtain ⟨f2, rfl⟩ : ∃ z, f2 = z + 1 := ⟨f2 - 1, by omega⟩
    have e : ¬ (9 : Int32) ≤ nI k := nI_ge (b := 9) (by omega) (by omega)
    obtain ⟨x, x1, x2⟩ := f_count h (by omega : k ≤ 8)
    obtain ⟨w, w1, w2⟩ := ih (k + 1) f1 f2 ((31 : Int64) * v + Int32.toInt64 x) (by omega) (by omega) (by omega)
    refine ⟨w, ?_, ?_⟩
    · rw [lo_Nj_digest_6, if_neg e, x1, nI_1]
      exact w1
    · rw [lo_Md_digest_6, if_neg e, x2, nI_1]
      exact w2
theorem dg_62 {s : NjS} {m : MdS} {a : AC} (R : RC (nj_club s) a) (Q : RM m a) {i : Nat} (hi : i < a_n a) : ∀ (d k f1 : Nat) (v : Int64), k + d = 6 → d < f1 → ∃ w, lo_Nj_digest_62 s (nI i) f1 v (nI k) = some w ∧ ∀ f2, lo_Md_digest_48 m (f2 + d) v (nI (6 * i + k)) = lo_Md_digest_48 m f2 w (nI (6 * (i + 1))) := by
  have hn := R.1.1
  intro d
  induction d with
  | zero =>
    intro k f1 v hk h1
    obtain ⟨f1, rfl⟩ : ∃ z, f1 = z + 1 := ⟨f1 - 1, by omega⟩
    have e : (6 : Int32) ≤ nI k := nI_le (a := 6) (by omega) (by omega)
    refine ⟨v, by rw [lo_Nj_digest_62, if_pos e], fun f2 => ?_⟩
    have : 6 * i + k = 6 * (i + 1) := by omega
    rw [this]
    rfl
  | succ d ih =>
    intro k f1 v hk h1
    obtain ⟨f1, rfl⟩ : ∃ z, f1 = z + 1 := ⟨f1 - 1, by omega⟩
    have e : ¬ (6 : Int32) ≤ nI k := nI_ge (b := 6) (by omega) (by omega)
    obtain ⟨x, x1, x2⟩ := f_value R Q hi (by omega : k < 6)
    obtain ⟨w, w1, w2⟩ := ih (k + 1) f1 ((31 : Int64) * v + Int32.toInt64 x) (by omega) (by omega)
    refine ⟨w, ?_, fun f2 => ?_⟩
    · rw [lo_Nj_digest_62, if_neg e, x1, nI_1]
      exact w1
    · have en : (6 : Int32) * nI (a_n a) = nI (6 * a_n a) := pk_mul 6 _
      have e1 : nI (6 * i + k) / (6 : Int32) = nI i := by
        have : nI (6 * i + k) / (6 : Int32) = nI ((6 * i + k) / 6) := pk_div (d := 6) (by omega) (by decide) (by decide)
        rw [this]
        congr 1
        omega
      have e2 : nj_rem (nI (6 * i + k)) (6 : Int32) = nI k := by
        have : nj_rem (nI (6 * i + k)) (6 : Int32) = nI ((6 * i + k) % 6) := pk_rem (d := 6) (by omega) (by decide) (by decide)
        rw [this]
        congr 1
        omega
      show lo_Md_digest_48 m (f2 + d + 1) v (nI (6 * i + k)) = _
      rw [lo_Md_digest_48, Q.2.1, en, if_neg (nI_ge (by omega) (by omega)), e1, e2, x2, nI_1]
      exact w2 f2
theorem dg_48 {s : NjS} {m : MdS} {a : AC} (R : RC (nj_club s) a) (Q : RM m a) : ∀ (d k f1 f2 : Nat) (v : Int64), k + d = a_n a → d < f1 → ∃ w, lo_Nj_digest_48 s f1 v (nI k) = some w ∧ lo_Md_digest_48 m (f2 + 1 + 6 * d) v (nI (6 * k)) = some w := by
  have hn := R.1.1
  have en : (6 : Int32) * nI (a_n a) = nI (6 * a_n a) := pk_mul 6 _
  intro d
  induction d with
  | zero =>
    intro k f1 f2 v hk h1
    obtain ⟨f1, rfl⟩ : ∃ z, f1 = z + 1 := ⟨f1 - 1, by omega⟩
    refine ⟨v, by rw [lo_Nj_digest_48, R.1.2, if_pos (nI_le (by omega) (by omega))], ?_⟩
    show lo_Md_digest_48 m (f2 + 1) v (nI (6 * k)) = _
    rw [lo_Md_digest_48, Q.2.1, en, if_pos (nI_le (by omega) (by omega))]
  | succ d ih =>
    intro k f1 f2 v hk h1
    obtain ⟨f1, rfl⟩ : ∃ z, f1 = z + 1 := ⟨f1 - 1, by omega⟩
    obtain ⟨x, x1, x2⟩ := dg_62 R Q (by omega : k < a_n a) 6 0 nj_fu v (by omega) (pu_fu (by omega))
    obtain ⟨w, w1, w2⟩ := ih (k + 1) f1 f2 x (by omega) (by omega)
    refine ⟨w, ?_, ?_⟩
    · have x1' : lo_Nj_digest_62 s (nI k) nj_fu v 0 = some x := x1
      rw [lo_Nj_digest_48, R.1.2, if_neg (nI_ge (by omega) (by omega)), x1', nI_1]
      exact w1
    · have := x2 (f2 + 1 + 6 * d)
      have z : 6 * k + 0 = 6 * k := rfl
      rw [z] at this
      have e : f2 + 1 + 6 * (d + 1) = f2 + 1 + 6 * d + 6 := by omega
      rw [e, this]
      exact w2
theorem dg_101 {s : NjS} {m : MdS} (h : Rel s m) : ∀ (d k f1 f2 : Nat) (v : Int64), k + d = 3 → d < f1 → d < f2 → ∃ w, lo_Nj_digest_101 s f1 v (nI k) = some w ∧ lo_Md_digest_87 m f2 v (nI (1 + k)) = some w := by
  intro d
  induction d with
  | zero =>
    intro k f1 f2 v hk h1 h2
    obtain ⟨f1, rfl⟩ : ∃ z, f1 = z + 1 := ⟨f1 - 1, by omega⟩
    obtain ⟨f2, rfl⟩ : ∃ z, f2 = z + 1 := ⟨f2 - 1, by omega⟩
    have e : (3 : Int32) ≤ nI k := nI_le (a := 3) (by omega) (by omega)
    have e' : (4 : Int32) ≤ nI (1 + k) := nI_le (a := 4) (by omega) (by omega)
    exact ⟨v, by rw [lo_Nj_digest_101, if_pos e], by rw [lo_Md_digest_87, if_pos e']⟩
  | succ d ih =>
    intro k f1 f2 v hk h1 h2
    obtain ⟨f1, rfl⟩ : ∃ z, f1 = z + 1 := ⟨f1 - 1, by omega⟩
    obtain ⟨f2, rfl⟩ : ∃ z, f2 = z + 1 := ⟨f2 - 1, by omega⟩
    have e : ¬ (3 : Int32) ≤ nI k := nI_ge (b := 3) (by omega) (by omega)
    have e' : ¬ (4 : Int32) ≤ nI (1 + k) := nI_ge (b := 4) (by omega) (by omega)
    have e5 : ((576 : Int32) * nI (1 + k)) + (0 : Int32) = nI (576 * (1 + k)) := by
      have : (576 : Int32) * nI (1 + k) = nI (576 * (1 + k)) := pk_mul 576 _
      rw [this]
      exact nI_add _ 0
    have e6 : nI (1 + k) + (1 : Int32) = nI (1 + (k + 1)) := nI_add (1 + k) 1
    obtain ⟨w, w1, w2⟩ := ih (k + 1) f1 f2 ((31 : Int64) * v + Int32.toInt64 (md_row m (576 * (1 + k)))) (by omega) (by omega) (by omega)
    refine ⟨w, ?_, ?_⟩
    · rw [lo_Nj_digest_101, if_neg e, pu_in_t (by omega : k < 3) (by decide), pu_n (by omega), nI_1]
      rcases f_kept h (by omega : k < 3) with ⟨g1, g2⟩ | ⟨g1, g2, g3⟩
      · rw [if_pos g1]
        rw [g2] at w1
        exact w1
      · rw [if_neg g1, g3]
        exact w1
    · rw [lo_Md_digest_87, if_neg e', e5, pu_in_t (by omega : 576 * (1 + k) < 2304) (by decide), pu_n (by omega), e6]
      exact w2
theorem c_dgRow {r : RowS} {n : Nat} (hn : n ≤ 40) (hs : ro_size r = nI n) : ∀ (d k f : Nat) (v : Int64), k + d = n → d < f → lo_Row_digestedInto_15 r f v (nI k) = some (q_dg (ro_places r) k d v) := by
  intro d
  induction d with
  | zero =>
    intro k f v hk hf
    obtain ⟨f, rfl⟩ : ∃ z, f = z + 1 := ⟨f - 1, by omega⟩
    rw [lo_Row_digestedInto_15, hs, if_pos (nI_le (by omega) (by omega))]
    rfl
  | succ d ih =>
    intro k f v hk hf
    obtain ⟨f, rfl⟩ : ∃ z, f = z + 1 := ⟨f - 1, by omega⟩
    rw [lo_Row_digestedInto_15, hs, if_neg (nI_ge (by omega) (by omega)), pu_in_t (by omega : k < 40) (by decide), pu_n (by omega), nI_1, q_dg]
    exact ih (k + 1) f _ (by omega) (by omega)
theorem c_dgText {r : TexS} {n : Nat} (hn : n ≤ 60) (hs : te_size r = nI n) : ∀ (d k f : Nat) (v : Int64), k + d = n → d < f → lo_Text_digestedInto_15 r f v (nI k) = some (q_dg (te_bytes r) k d v) := by
  intro d
  induction d with
  | zero =>
    intro k f v hk hf
    obtain ⟨f, rfl⟩ : ∃ z, f = z + 1 := ⟨f - 1, by omega⟩
    rw [lo_Text_digestedInto_15, hs, if_pos (nI_le (by omega) (by omega))]
    rfl
  | succ d ih =>
    intro k f v hk hf
    obtain ⟨f, rfl⟩ : ∃ z, f = z + 1 := ⟨f - 1, by omega⟩
    rw [lo_Text_digestedInto_15, hs, if_neg (nI_ge (by omega) (by omega)), pu_in_t (by omega : k < 60) (by decide), pu_n (by omega), nI_1, q_dg]
    exact ih (k + 1) f _ (by omega) (by omega)
theorem r_dgRow {m : MdS} {r n : Nat} (hr : r < 6) (hn : n ≤ 40) (hs : md_sizes m r = nI n) : ∀ (d k f : Nat) (v : Int64), k + d = n → d < f → lo_Md_digest_143 m (nI r) f v (nI k) = some (q_dg (fun j => md_items m (40 * r + j)) k d v) := by
  intro d
  induction d with
  | zero =>
    intro k f v hk hf
    obtain ⟨f, rfl⟩ : ∃ z, f = z + 1 := ⟨f - 1, by omega⟩
    rw [lo_Md_digest_143, pu_in_t hr (by decide), pu_n (by omega), hs, if_pos (nI_le (by omega) (by omega))]
    rfl
  | succ d ih =>
    intro k f v hk hf
    obtain ⟨f, rfl⟩ : ∃ z, f = z + 1 := ⟨f - 1, by omega⟩
    rw [lo_Md_digest_143, pu_in_t hr (by decide), pu_n (by omega), hs, if_neg (nI_ge (by omega) (by omega)), e40, pu_in_t (by omega : 40 * r + k < 240) (by decide), pu_n (by omega), nI_1, q_dg]
    exact ih (k + 1) f _ (by omega) (by omega)
theorem r_dgText {m : MdS} {r n : Nat} (hr : r < 4) (hn : n ≤ 60) (hs : md_lengths m r = nI n) : ∀ (d k f : Nat) (v : Int64), k + d = n → d < f → lo_Md_digest_210 m (nI r) f v (nI k) = some (q_dg (fun j => md_bytes m (60 * r + j)) k d v) := by
  intro d
  induction d with
  | zero =>
    intro k f v hk hf
    obtain ⟨f, rfl⟩ : ∃ z, f = z + 1 := ⟨f - 1, by omega⟩
    rw [lo_Md_digest_210, pu_in_t hr (by decide), pu_n (by omega), hs, if_pos (nI_le (by omega) (by omega))]
    rfl
  | succ d ih =>
    intro k f v hk hf
    obtain ⟨f, rfl⟩ : ∃ z, f = z + 1 := ⟨f - 1, by omega⟩
    rw [lo_Md_digest_210, pu_in_t hr (by decide), pu_n (by omega), hs, if_neg (nI_ge (by omega) (by omega)), e60, pu_in_t (by omega : 60 * r + k < 240) (by decide), pu_n (by omega), nI_1, q_dg]
    exact ih (k + 1) f _ (by omega) (by omega)
theorem fu_s : nj_fu = 999 + 1 := rfl
theorem dg_147 {s : NjS} {m : MdS} (h : Rel s m) : ∀ (d k f1 f2 : Nat) (v : Int64), k + d = 6 → d < f1 → d < f2 → ∃ w, lo_Nj_digest_147 s f1 v (nI k) = some w ∧ lo_Md_digest_120 m f2 v (nI k) = some w := by
  intro d
  induction d with
  | zero =>
    intro k f1 f2 v hk h1 h2
    obtain ⟨f1, rfl⟩ : ∃ z, f1 = z + 1 := ⟨f1 - 1, by omega⟩
    obtain ⟨f2, rfl⟩ : ∃ z, f2 = z + 1 := ⟨f2 - 1, by omega⟩
    have e : (6 : Int32) ≤ nI k := nI_le (a := 6) (by omega) (by omega)
    exact ⟨v, by rw [lo_Nj_digest_147, if_pos e], by rw [lo_Md_digest_120, if_pos e]⟩
  | succ d ih =>
    intro k f1 f2 v hk h1 h2
    obtain ⟨f1, rfl⟩ : ∃ z, f1 = z + 1 := ⟨f1 - 1, by omega⟩
    obtain ⟨f2, rfl⟩ : ∃ z, f2 = z + 1 := ⟨f2 - 1, by omega⟩
    have e : ¬ (6 : Int32) ≤ nI k := nI_ge (b := 6) (by omega) (by omega)
    have key : ∃ x, mo_Row_digestedInto (nj_rows s k) v = some x ∧ lo_Md_digest_143 m (nI k) nj_fu ((31 : Int64) * v + Int32.toInt64 (md_sizes m k)) 0 = some x := by
      rcases (h.1 k (by omega)).inv with ⟨q1, q2⟩ | ⟨n, hn, q1, q2, q3⟩
      · have z : (-1 : Int32) ≤ 0 := by decide
        refine ⟨(31 : Int64) * v + Int32.toInt64 (-1), ?_, ?_⟩
        · rw [mo_Row_digestedInto, q2, fu_s, lo_Row_digestedInto_15, q2, if_pos z]
          rfl
        · rw [fu_s, lo_Md_digest_143, pu_in_t (by omega : k < 6) (by decide), pu_n (by omega), q1, if_pos z]
          rfl
      · have t1 : lo_Row_digestedInto_15 (nj_rows s k) nj_fu ((31 : Int64) * v + Int32.toInt64 (nI n)) 0 = _ := c_dgRow hn q2 n 0 nj_fu ((31 : Int64) * v + Int32.toInt64 (nI n)) (by omega) (pu_fu (by omega))
        have t2 : lo_Md_digest_143 m (nI k) nj_fu ((31 : Int64) * v + Int32.toInt64 (nI n)) 0 = _ := r_dgRow (by omega : k < 6) hn q1 n 0 nj_fu ((31 : Int64) * v + Int32.toInt64 (nI n)) (by omega) (pu_fu (by omega))
        refine ⟨q_dg (ro_places (nj_rows s k)) 0 n ((31 : Int64) * v + Int32.toInt64 (nI n)), ?_, ?_⟩
        · rw [mo_Row_digestedInto, q2, t1]
          rfl
        · rw [q1, t2, q_dg_cong (fun j _ hj => (q3 j (by omega)).symm)]
    obtain ⟨x, x1, x2⟩ := key
    obtain ⟨w, w1, w2⟩ := ih (k + 1) f1 f2 x (by omega) (by omega) (by omega)
    refine ⟨w, ?_, ?_⟩
    · rw [lo_Nj_digest_147, if_neg e, pu_in_t (by omega : k < 6) (by decide), pu_n (by omega), nI_1, x1]
      exact w1
    · rw [lo_Md_digest_120, if_neg e, pu_in_t (by omega : k < 6) (by decide), pu_n (by omega), nI_1, x2]
      exact w2
theorem dg_172 {s : NjS} {m : MdS} (h : Rel s m) : ∀ (d k f1 f2 : Nat) (v : Int64), k + d = 4 → d < f1 → d < f2 → ∃ w, lo_Nj_digest_172 s f1 v (nI k) = some w ∧ lo_Md_digest_188 m f2 v (nI k) = some w := by
  intro d
  induction d with
  | zero =>
    intro k f1 f2 v hk h1 h2
    obtain ⟨f1, rfl⟩ : ∃ z, f1 = z + 1 := ⟨f1 - 1, by omega⟩
    obtain ⟨f2, rfl⟩ : ∃ z, f2 = z + 1 := ⟨f2 - 1, by omega⟩
    have e : (4 : Int32) ≤ nI k := nI_le (a := 4) (by omega) (by omega)
    exact ⟨v, by rw [lo_Nj_digest_172, if_pos e], by rw [lo_Md_digest_188, if_pos e]⟩
  | succ d ih =>
    intro k f1 f2 v hk h1 h2
    obtain ⟨f1, rfl⟩ : ∃ z, f1 = z + 1 := ⟨f1 - 1, by omega⟩
    obtain ⟨f2, rfl⟩ : ∃ z, f2 = z + 1 := ⟨f2 - 1, by omega⟩
    have e : ¬ (4 : Int32) ≤ nI k := nI_ge (b := 4) (by omega) (by omega)
    have key : ∃ x, mo_Text_digestedInto (nj_texts s k) v = some x ∧ lo_Md_digest_210 m (nI k) nj_fu ((31 : Int64) * v + Int32.toInt64 (md_lengths m k)) 0 = some x := by
      rcases (h.2.1 k (by omega)).inv with ⟨q1, q2⟩ | ⟨n, hn, q1, q2, q3⟩
      · have z : (-1 : Int32) ≤ 0 := by decide
        refine ⟨(31 : Int64) * v + Int32.toInt64 (-1), ?_, ?_⟩
        · rw [mo_Text_digestedInto, q2, fu_s, lo_Text_digestedInto_15, q2, if_pos z]
          rfl
        · rw [fu_s, lo_Md_digest_210, pu_in_t (by omega : k < 4) (by decide), pu_n (by omega), q1, if_pos z]
          rfl
      · have t1 : lo_Text_digestedInto_15 (nj_texts s k) nj_fu ((31 : Int64) * v + Int32.toInt64 (nI n)) 0 = _ := c_dgText hn q2 n 0 nj_fu ((31 : Int64) * v + Int32.toInt64 (nI n)) (by omega) (pu_fu (by omega))
        have t2 : lo_Md_digest_210 m (nI k) nj_fu ((31 : Int64) * v + Int32.toInt64 (nI n)) 0 = _ := r_dgText (by omega : k < 4) hn q1 n 0 nj_fu ((31 : Int64) * v + Int32.toInt64 (nI n)) (by omega) (pu_fu (by omega))
        refine ⟨q_dg (te_bytes (nj_texts s k)) 0 n ((31 : Int64) * v + Int32.toInt64 (nI n)), ?_, ?_⟩
        · rw [mo_Text_digestedInto, q2, t1]
          rfl
        · rw [q1, t2, q_dg_cong (fun j _ hj => (q3 j (by omega)).symm)]
    obtain ⟨x, x1, x2⟩ := key
    obtain ⟨w, w1, w2⟩ := ih (k + 1) f1 f2 x (by omega) (by omega) (by omega)
    refine ⟨w, ?_, ?_⟩
    · rw [lo_Nj_digest_172, if_neg e, pu_in_t (by omega : k < 4) (by decide), pu_n (by omega), nI_1, x1]
      exact w1
    · rw [lo_Md_digest_188, if_neg e, pu_in_t (by omega : k < 4) (by decide), pu_n (by omega), nI_1, x2]
      exact w2
theorem f_ob {α β : Type} {x : Option α} {v : α} {f : α → Option β} (h : x = some v) : x.bind f = f v := by
  rw [h]
  rfl
set_option maxHeartbeats 20000 in
theorem op_digest {s : NjS} {m : MdS} (h : Rel s m) : ∃ v, mo_Nj_digest s = some v ∧ mo_Md_digest m = some v := by
  obtain ⟨a, R, Q, W⟩ := h.ac
  have hn := R.1.1
  obtain ⟨x1, a1, b1⟩ := dg_6 h 9 0 nj_fu nj_fu 17 (by omega) (pu_fu (by omega)) (pu_fu (by omega))
  obtain ⟨x2, a2, b2⟩ := dg_48 R Q (a_n a) 0 nj_fu (999 - 6 * a_n a) ((31 : Int64) * x1 + Int32.toInt64 (nI (a_r a))) (by omega) (pu_fu (by omega))
  obtain ⟨x3, a3, b3⟩ := dg_101 h 3 0 nj_fu nj_fu x2 (by omega) (pu_fu (by omega)) (pu_fu (by omega))
  obtain ⟨x4, a4, b4⟩ := dg_147 h 6 0 nj_fu nj_fu x3 (by omega) (pu_fu (by omega)) (pu_fu (by omega))
  obtain ⟨x5, a5, b5⟩ := dg_172 h 4 0 nj_fu nj_fu x4 (by omega) (pu_fu (by omega)) (pu_fu (by omega))
  have ef : 999 - 6 * a_n a + 1 + 6 * a_n a = nj_fu := by unfold nj_fu; omega
  have z60 : nI (6 * 0) = (0 : Int32) := by decide
  have z10 : nI (1 + 0) = (1 : Int32) := by decide
  have z00 : nI 0 = (0 : Int32) := by decide
  rw [z60, ef] at b2
  rw [z10] at b3
  rw [z00] at a1 b1 a2 a3 a4 b4 a5 b5
  have a1' : lo_Nj_digest_6 s nj_fu 17 0 = some x1 := a1
  have b1' : lo_Md_digest_6 m nj_fu 17 0 = some x1 := b1
  have a2' : lo_Nj_digest_48 s nj_fu ((31 : Int64) * x1 + Int32.toInt64 (nI (a_r a))) 0 = some x2 := a2
  have b2' : lo_Md_digest_48 m nj_fu ((31 : Int64) * x1 + Int32.toInt64 (nI (a_r a))) 0 = some x2 := b2
  have a3' : lo_Nj_digest_101 s nj_fu x2 0 = some x3 := a3
  have b3' : lo_Md_digest_87 m nj_fu x2 1 = some x3 := b3
  have a4' : lo_Nj_digest_147 s nj_fu x3 0 = some x4 := a4
  have b4' : lo_Md_digest_120 m nj_fu x3 0 = some x4 := b4
  have a5' : lo_Nj_digest_172 s nj_fu x4 0 = some x5 := a5
  have b5' : lo_Md_digest_188 m nj_fu x4 0 = some x5 := b5
  refine ⟨x5, ?_, ?_⟩
  · rw [mo_Nj_digest, R.2.2.2.2.1.1, f_ob a1', f_ob a2', f_ob a3', f_ob a4', f_ob a5']
  · rw [mo_Md_digest, Q.rul, f_ob b1', f_ob b2', f_ob b3', f_ob b4', f_ob b5']
