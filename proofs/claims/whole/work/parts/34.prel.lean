/-! pure: the relation of the two states; rows and texts -/
def RR (x : RowS) (sz : Int32) (it : Nat → Int32) : Prop := ro_size x = sz ∧ (sz = -1 ∨ ∃ n, n ≤ 40 ∧ sz = nI n ∧ ∀ k, k < n → ro_places x k = it k)
def RT (x : TexS) (sz : Int32) (it : Nat → Int32) : Prop := te_size x = sz ∧ (sz = -1 ∨ ∃ n, n ≤ 60 ∧ sz = nI n ∧ ∀ k, k < n → te_bytes x k = it k)
def GR (rows : Nat → RowS) (sizes items : Nat → Int32) : Prop := ∀ r, r < 6 → RR (rows r) (sizes r) (fun k => items (40 * r + k))
def GT (texts : Nat → TexS) (lengths bytes : Nat → Int32) : Prop := ∀ t, t < 4 → RT (texts t) (lengths t) (fun k => bytes (60 * t + k))
/-- what one deed undone makes of a club -/
def p_undo1 (a : AC) (d : Nat) : AC :=
  if d / 64 = 0 then (a_n a, a_K a, a_P a, a_L a, a_r a, a_b a ||| 2 ^ (d % 64), a_t a)
  else if d / 64 = 1 then (a_n a, a_K a, a_P a, a_L a, a_r a, p_an (a_b a) (2 ^ (d % 64)), a_t a)
  else if d / 64 = 2 then (a_n a, a_K a, (fun i => if (d % 64).testBit i && decide (i < a_n a) then a_P a i + 1 else a_P a i), a_L a, a_r a, a_b a, a_t a - nI (p_sm (fun i => if (d % 64).testBit i then 1 else 0) (a_n a)))
  else (a_n a, a_K a, a_P a, (fun k => if k = d % 64 % 6 then a_L a k ^^^ 2 ^ (d % 64 / 6) else a_L a k), a_r a, a_b a, a_t a)
/-- the club before the last j of its deeds (ds: all deeds, n of them) -/
def p_back (a : AC) (ds : Nat → Nat) (n : Nat) : Nat → AC
  | 0 => a
  | j + 1 => p_undo1 (p_back a ds n j) (ds (n - 1 - j))
/-- a club as the programs hold it: its numbers in their bounds, nobody likes itself -/
def WB (a : AC) : Prop := WA a ∧ (∀ i, i < a_n a → 0 ≤ (a_P a i).toInt ∧ (a_P a i).toInt ≤ 9) ∧ ∀ i, i < a_n a → (a_L a i).testBit i = false
/-- a deed as a number: its kind, and whom it meets -/
def p_okd (n d : Nat) : Prop := d < 256 ∧ (d / 64 < 2 → d % 64 < n) ∧ (d / 64 = 3 → d % 64 / 6 < n ∧ d % 64 % 6 < n)
/-- the deeds: as the class notes them, and the pasts that the reference keeps at the base B -/
def RD (c : CluS) (row : Nat → Int32) (B : Nat) (a : AC) : Prop := ∃ (n : Nat) (ds : Nat → Nat), n ≤ 40 ∧ cl_dc c = nI n ∧ row B = nI n ∧ (∀ j, j < n → cl_deeds c j = nI (ds j) ∧ p_okd (a_n a) (ds j)) ∧ (∀ j, j < n → WB (p_back a ds n (j + 1)) ∧
    (let p := p_back a ds n (j + 1); let q := B + 16 + 14 * (n - 1 - j); row q = nI (a_b p) ∧ row (q + 1) = a_t p ∧ (∀ i, i < a_n a → row (q + 2 + i) = a_P p i) ∧ ∀ i, i < a_n a → row (q + 8 + i) = nI (p_lk p i)))
/-- a club with its deeds, in both -/
def RK (c : CluS) (row : Nat → Int32) (B : Nat) (a : AC) : Prop := RC c a ∧ RMr row B a ∧ WB a ∧ RD c row B a
def GC (club : CluS) (kept : Nat → CluS) (row kinds : Nat → Int32) (children : Int32) : Prop :=
  ∃ a : AC, RK club row 0 a ∧ children = nI (a_n a) ∧ (∀ i, i < a_n a → kinds i = nI (a_K a i)) ∧
    ∀ k, k < 3 → (cl_children (kept k) = 0 ∧ row (576 * (1 + k)) = -1) ∨ (0 < a_n a ∧ ∃ a2 : AC, a_n a2 = a_n a ∧ (∀ i, i < a_n a → a_K a2 i = a_K a i) ∧ RK (kept k) row (576 * (1 + k)) a2)
def GF (lf finding : Int32) (fc findings : Nat → Int32) : Prop := lf = finding ∧ ∀ j, j < 6 → fc j = findings j
def GA (an asked : Int32) (up upper lo lower : Int64) : Prop := an = asked ∧ up = upper ∧ lo = lower
def Rel (s : NjS) (m : MdS) : Prop := GR (nj_rows s) (md_sizes m) (md_items m) ∧ GT (nj_texts s) (md_lengths m) (md_bytes m) ∧ GC (nj_club s) (nj_kept s) (md_row m) (md_kinds m) (md_children m) ∧ GF (nj_lf s) (md_finding m) (nj_fc s) (md_findings m) ∧ GA (nj_an s) (md_asked m) (nj_up s) (md_upper m) (nj_lo s) (md_lower m)
def Same (x : Option (Int32 × NjS)) (y : Option (Int32 × MdS)) : Prop := ∃ v s m, x = some (v, s) ∧ y = some (v, m) ∧ Rel s m
theorem Same.of {s : NjS} {m : MdS} (h : Rel s m) (v : Int32) : Same (some (v, s)) (some (v, m)) := ⟨v, s, m, rfl, rfl, h⟩
theorem Same.b {x : Option (Int32 × NjS)} {y : Option (Int32 × MdS)} (h : Same x y) : Same (x.bind (fun w => some (w.1, w.2))) (y.bind (fun w => some (w.1, w.2))) := by
  obtain ⟨v, s, m, rfl, rfl, h⟩ := h
  exact ⟨v, s, m, rfl, rfl, h⟩
theorem f_found {s : NjS} {m : MdS} (h : Rel s m) (j : Nat) (hj : j < 6) : Same (mo_Nj_found s (nI j)) (mo_Md_find m (nI j)) := by
  rw [mo_Nj_found, mo_Md_find, pu_in_t hj (by decide), pu_n (by omega)]
  refine ⟨_, _, _, rfl, rfl, h.1, h.2.1, h.2.2.1, ⟨rfl, fun k hk => ?_⟩, h.2.2.2.2⟩
  show upd (nj_fc s) j _ k = upd (md_findings m) j _ k
  rw [h.2.2.2.1.2 j hj]
  unfold upd
  by_cases g : k = j
  · simp [g]
  · simp [g]; exact h.2.2.2.1.2 k hk
theorem r_in (x l u : Int32) : mo_Md_in (Int32.toInt64 x) (Int32.toInt64 l) (Int32.toInt64 u) = some (decide (l ≤ x) && decide (x ≤ u)) := by
  rw [mo_Md_in]
  simp only [fa_wide_lt]
  by_cases g1 : x < l
  · have : ¬ l ≤ x := (fa_of_lt g1).2.1
    simp [g1, this]
  · have h1 : l ≤ x := fa_of_nlt g1
    by_cases g2 : u < x
    · have : ¬ x ≤ u := (fa_of_lt g2).2.1
      simp [g1, g2, this]
    · have : x ≤ u := fa_of_nlt g2
      simp [g1, g2, h1, this]
theorem c_range (x : Int32) (n : Nat) (hn : n < 2 ^ 31) : (if x < 0 then some false else if nI n ≤ x then some false else some true) = some (decide (0 ≤ x) && decide (x < nI n)) := by
  by_cases g1 : x < 0
  · have : ¬ 0 ≤ x := (fa_of_lt g1).2.1
    simp [g1, this]
  · have h1 : 0 ≤ x := fa_of_nlt g1
    by_cases g2 : nI n ≤ x
    · have : ¬ x < nI n := fun q => (fa_of_lt q).2.1 g2
      simp [g1, g2, this]
    · have : x < nI n := fa_of_nle g2
      simp [g1, g2, h1, this]
theorem pu_lt1 (x : Int32) (n : Nat) (hn : n + 1 < 2 ^ 31) : (x ≤ nI n) ↔ x < nI (n + 1) := by
  rw [fa_le, fa_lt, nI_toInt (by omega), nI_toInt (by omega)]
  omega
/-- a number of 0 .. n-1, or none of them -/
theorem in_or (x : Int32) (n : Nat) (hn : n < 2 ^ 31) : (∃ k, k < n ∧ x = nI k ∧ (decide (0 ≤ x) && decide (x < nI n)) = true) ∨ (decide (0 ≤ x) && decide (x < nI n)) = false := by
  rcases pk_ix x hn with h | h | ⟨j, h1, h2⟩
  · right
    have : ¬ 0 ≤ x := (fa_of_lt h).2.1
    simp [this]
  · right
    have : ¬ x < nI n := fun q => (fa_of_lt q).2.1 h
    simp [this]
  · left
    refine ⟨j, h1, h2, ?_⟩
    subst h2
    simp [nI_pos' (by omega : j < 2 ^ 31), nI_lt h1 hn]
theorem c_isRow (x : Int32) : mo_Nj_isRow x = some (decide (0 ≤ x) && decide (x < nI 6)) := by
  rw [mo_Nj_isRow]; exact c_range x 6 (by decide)
theorem r_isRow (x : Int32) : mo_Md_isRow x = some (decide (0 ≤ x) && decide (x < nI 6)) := by
  have h : mo_Md_in (Int32.toInt64 x) (0 : Int64) (5 : Int64) = some (decide ((0 : Int32) ≤ x) && decide (x ≤ (5 : Int32))) := r_in x 0 5
  rw [mo_Md_isRow, h]
  have e : (x ≤ (5 : Int32)) ↔ x < nI 6 := pu_lt1 x 5 (by decide)
  simp only [e, Option.bind_some]
theorem c_isText (x : Int32) : mo_Nj_isText x = some (decide (0 ≤ x) && decide (x < nI 4)) := by
  rw [mo_Nj_isText]; exact c_range x 4 (by decide)
theorem r_isText (x : Int32) : mo_Md_isText x = some (decide (0 ≤ x) && decide (x < nI 4)) := by
  have h : mo_Md_in (Int32.toInt64 x) (0 : Int64) (3 : Int64) = some (decide ((0 : Int32) ≤ x) && decide (x ≤ (3 : Int32))) := r_in x 0 3
  rw [mo_Md_isText, h]
  have e : (x ≤ (3 : Int32)) ↔ x < nI 4 := pu_lt1 x 3 (by decide)
  simp only [e, Option.bind_some]
-- rows made anew
def p_zero (f : Nat → Int32) (a n : Nat) (v : Int32) : Nat → Int32 := fun k => if a ≤ k ∧ k < a + n then v else f k
theorem p_zero_s (f : Nat → Int32) (a n : Nat) (v : Int32) : upd (p_zero f a n v) (a + n) v = p_zero f a (n + 1) v := by
  funext k
  unfold upd p_zero
  by_cases g : k = a + n
  · subst g; simp
  · by_cases g2 : a ≤ k ∧ k < a + n
    · rw [if_neg g, if_pos g2, if_pos (by omega)]
    · rw [if_neg g, if_neg g2, if_neg (by omega)]
theorem p_zero_0 (f : Nat → Int32) (a : Nat) (v : Int32) : p_zero f a 0 v = f := by
  funext k; unfold p_zero; rw [if_neg (by omega)]
theorem c_renew (r : RowS) {n : Nat} (hn : n ≤ 40) : mo_Row_renew r (nI n) = some (nI n, p_zero (ro_places r) 0 n 0) := by
  have h := pu_loop (fun f (st : RowS) i => lo_Row_renew_7 (nI n) f st i) n (fun k => (nI n, p_zero (ro_places r) 0 k 0)) (some (nI n, p_zero (ro_places r) 0 n 0))
    (fun f => by rw [lo_Row_renew_7, if_pos (nI_le (Nat.le_refl _) (by omega))])
    (fun f k hk => by
      rw [lo_Row_renew_7, if_neg (nI_ge hk (by omega)), pu_in_t (by omega : k < 40) (by decide), pu_n (by omega), nI_1]
      show lo_Row_renew_7 (nI n) f (nI n, upd (p_zero (ro_places r) 0 k 0) k 0) (nI (k + 1)) = _
      have := p_zero_s (ro_places r) 0 k 0
      rw [Nat.zero_add] at this
      rw [this])
    n nj_fu 0 (by omega) (pu_fu (by omega))
  have h2 : lo_Row_renew_7 (nI n) nj_fu (rs_size r (nI n)) 0 = some (nI n, p_zero (ro_places r) 0 n 0) := by
    rw [p_zero_0] at h
    exact h
  rw [mo_Row_renew, h2]
  rfl
theorem r_makeRow (m : MdS) {r n : Nat} (hr : r < 6) : mo_Md_makeRow m (nI r) (nI n) = some (ms_items (ms_sizes m (upd (md_sizes m) r (nI n))) (p_zero (md_items m) (40 * r) 40 0)) := by
  have h := pu_loop (fun f (st : MdS) i => lo_Md_makeRow_9 (nI r) f st i) 40 (fun k => ms_items (ms_sizes m (upd (md_sizes m) r (nI n))) (p_zero (md_items m) (40 * r) k 0)) (some (ms_items (ms_sizes m (upd (md_sizes m) r (nI n))) (p_zero (md_items m) (40 * r) 40 0)))
    (fun f => by
      have e0 : (40 : Int32) ≤ nI 40 := nI_le (Nat.le_refl 40) (by decide)
      rw [lo_Md_makeRow_9, if_pos e0])
    (fun f k hk => by
      have e1 : ((40 : Int32) * nI r) + nI k = nI (40 * r + k) := by
        have : (40 : Int32) * nI r = nI (40 * r) := pk_mul 40 r
        rw [this, nI_add]
      have e2 : ¬ ((40 : Int32) ≤ nI k) := nI_ge hk (by decide)
      rw [lo_Md_makeRow_9, if_neg e2, e1, pu_in_t (by omega : 40 * r + k < 240) (by decide), pu_n (by omega), nI_1, ← p_zero_s]
      rfl)
    40 nj_fu 0 (by omega) (pu_fu (by omega))
  rw [p_zero_0] at h
  rw [mo_Md_makeRow, pu_in_t hr (by decide), pu_n (by omega)]
  have h2 : lo_Md_makeRow_9 (nI r) nj_fu (ms_sizes m (upd (md_sizes m) r (nI n))) 0 = some (ms_items (ms_sizes m (upd (md_sizes m) r (nI n))) (p_zero (md_items m) (40 * r) 40 0)) := h
  show (lo_Md_makeRow_9 (nI r) nj_fu (ms_sizes m (upd (md_sizes m) r (nI n))) 0).bind _ = _
  rw [h2]
  rfl
/-- a row that is laid anew: the others stay -/
theorem GR.set {rows : Nat → RowS} {sizes items : Nat → Int32} (h : GR rows sizes items) {r : Nat} (hr : r < 6) {x : RowS} {sz : Int32} {it : Nat → Int32} (ho : ∀ k, (k < 40 * r ∨ 40 * r + 40 ≤ k) → it k = items k) (hx : RR x sz (fun k => it (40 * r + k))) : GR (va_up rows r x) (upd sizes r sz) it := by
  intro q hq
  unfold va_up upd
  by_cases g : q = r
  · subst g; simp; exact hx
  · rw [if_neg g, if_neg g]
    obtain ⟨h1, h2⟩ := h q hq
    refine ⟨h1, ?_⟩
    rcases h2 with h2 | ⟨n, a1, a2, a3⟩
    · exact Or.inl h2
    · refine Or.inr ⟨n, a1, a2, fun k hk => ?_⟩
      rw [a3 k hk]
      exact (ho (40 * q + k) (by omega)).symm
theorem op_row {s : NjS} {m : MdS} (h : Rel s m) (x y : Int32) : Same (mo_Nj_row s x y) (mo_Md_row m x y) := by
  rw [mo_Nj_row, mo_Md_row, c_isRow, r_isRow]
  simp only [Option.bind_some]
  rcases in_or x 6 (by decide) with ⟨r, hr, rfl, hb⟩ | hb
  · rw [hb]
    simp only [cond_true]
    by_cases g1 : y ≤ 40
    · rw [if_pos g1, if_pos g1]
      by_cases g2 : 0 ≤ y
      · rw [if_pos g2, if_pos g2]
        obtain ⟨n, hn, rfl⟩ := nI_of2 (M := 40) (n := 40) (by decide) (fun q => (fa_of_lt q).2.1 g2) g1
        rw [pu_in_t hr (by decide), pu_n (by omega), c_renew _ hn, r_makeRow m hr]
        refine ⟨_, _, _, rfl, rfl, h.1.set hr (fun k hk => by
          show p_zero (md_items m) (40 * r) 40 0 k = md_items m k
          unfold p_zero
          rw [if_neg (by omega)]) ⟨rfl, Or.inr ⟨n, hn, rfl, fun k hk => ?_⟩⟩, h.2⟩
        show p_zero _ 0 n 0 k = p_zero _ (40 * r) 40 0 (40 * r + k)
        unfold p_zero
        rw [if_pos (by omega), if_pos (by omega)]
      · rw [if_neg g2, if_neg g2]
        exact (f_found h 5 (by decide)).b
    · rw [if_neg g1, if_neg g1]
      exact Same.of h _
  · rw [hb]
    exact Same.of h _
