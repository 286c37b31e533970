/-! pure: minutes -/
theorem c_names2 {s : NjS} {a : AC} (R : RC (nj_club s) a) {r h : Nat} (hh : h ≤ 20) (hs : ro_size (nj_rows s r) = nI (2 * h)) : ∀ (d k f : Nat), k + d = h → d < f → lo_Nj_namesChildren_2 s r (2 : Int32) f (nI (2 * k)) = some (q_all (fun j => p_ch a (ro_places (nj_rows s r) (2 * j))) k d) := by
  intro d
  induction d with
  | zero =>
    intro k f hk hf
    obtain ⟨f, rfl⟩ : ∃ z, f = z + 1 := ⟨f - 1, by omega⟩
    rw [lo_Nj_namesChildren_2, hs, if_pos (nI_le (by omega) (by omega))]
    rfl
  | succ d ih =>
    intro k f hk hf
    obtain ⟨f, rfl⟩ : ∃ z, f = z + 1 := ⟨f - 1, by omega⟩
    have e2 : nI (2 * k) + (2 : Int32) = nI (2 * (k + 1)) := nI_add (2 * k) 2
    rw [lo_Nj_namesChildren_2, hs, if_neg (nI_ge (by omega) (by omega)), pu_in_t (by omega : 2 * k < 40) (by decide), pu_n (by omega), c_isChild R, e2, ih (k + 1) f (by omega) (by omega), q_all]
    simp only [cond_true, Option.bind_some]
    show (bif p_ch a (ro_places (nj_rows s r) (2 * k)) then _ else _) = some (p_ch a (ro_places (nj_rows s r) (2 * k)) && _)
    cases p_ch a (ro_places (nj_rows s r) (2 * k)) <;> rfl
theorem r_names2 {m : MdS} {a : AC} (Q : RM m a) {r h : Nat} (hr : r < 6) (hh : h ≤ 20) (hs : md_sizes m r = nI (2 * h)) : ∀ (d k f : Nat) (b : Bool), k + d = h → d < f → lo_Md_minutes_48 m (nI r) f (nj_b b) (nI (40 * r + 2 * k)) = some (nj_b (b && q_all (fun j => p_ch a (md_items m (40 * r + 2 * j))) k d)) := by
  have em : (40 : Int32) * nI r = nI (40 * r) := pk_mul 40 r
  intro d
  induction d with
  | zero =>
    intro k f b hk hf
    obtain ⟨f, rfl⟩ : ∃ z, f = z + 1 := ⟨f - 1, by omega⟩
    rw [lo_Md_minutes_48, pu_in_t hr (by decide), pu_n (by omega), hs, em, nI_add, if_pos (nI_le (by omega) (by omega)), q_all, Bool.and_true]
    rfl
  | succ d ih =>
    intro k f b hk hf
    obtain ⟨f, rfl⟩ : ∃ z, f = z + 1 := ⟨f - 1, by omega⟩
    have ih0 := ih (k + 1) f false (by omega) (by omega)
    have ih1 := ih (k + 1) f true (by omega) (by omega)
    have z0 : nj_b false = 0 := rfl
    have z1 : nj_b true = 1 := rfl
    have z2 : ¬ (1 : Int32) = 0 := by decide
    have e2 : nI (40 * r + 2 * k) + (2 : Int32) = nI (40 * r + 2 * (k + 1)) := nI_add (40 * r + 2 * k) 2
    rw [z0] at ih0
    rw [z1] at ih1
    rw [lo_Md_minutes_48, pu_in_t hr (by decide), pu_n (by omega), hs, em, nI_add (40 * r) (2 * h), if_neg (nI_ge (by omega) (by omega)), e2, pu_in_t (by omega : 40 * r + 2 * k < 240) (by decide), pu_n (by omega), r_isChild Q, q_all]
    simp only [cond_true, Option.bind_some]
    cases b
    · rw [z0, if_pos rfl]
      simp only [Option.bind_some]
      rw [ih0]
      simp
    · rw [z1, if_neg z2]
      show ((bif p_ch a (md_items m (40 * r + 2 * k)) then some (1 : Int32) else some (0 : Int32)).bind _) = some (nj_b (true && (p_ch a (md_items m (40 * r + 2 * k)) && _)))
      cases p_ch a (md_items m (40 * r + 2 * k))
      · simp only [cond_false, Option.bind_some]
        rw [ih0]
        simp
      · simp only [cond_true, Option.bind_some]
        rw [ih1]
        simp
def q_nm (it : Nat → Int32) (x : Int32) : Nat → Nat → Bool
  | _, 0 => false
  | k, d + 1 => decide (it (2 * k) = x) || q_nm it x (k + 1) d
def q_sy (it : Nat → Int32) (x w : Int32) : Nat → Nat → Bool
  | _, 0 => true
  | k, d + 1 => (!decide (it (2 * k) = x) || decide (it (2 * k + 1) = w)) && q_sy it x w (k + 1) d
theorem c_isNamed {r : RowS} {h : Nat} (hh : h ≤ 20) (hs : ro_size r = nI (2 * h)) (x : Int32) : ∀ (d k f : Nat), k + d = h → d < f → lo_Sums_isNamed_2 r x f (nI (2 * k)) = some (q_nm (ro_places r) x k d) := by
  intro d
  induction d with
  | zero =>
    intro k f hk hf
    obtain ⟨f, rfl⟩ : ∃ z, f = z + 1 := ⟨f - 1, by omega⟩
    rw [lo_Sums_isNamed_2, hs, if_pos (nI_le (by omega) (by omega))]
    rfl
  | succ d ih =>
    intro k f hk hf
    obtain ⟨f, rfl⟩ : ∃ z, f = z + 1 := ⟨f - 1, by omega⟩
    have e2 : nI (2 * k) + (2 : Int32) = nI (2 * (k + 1)) := nI_add (2 * k) 2
    rw [lo_Sums_isNamed_2, hs, if_neg (nI_ge (by omega) (by omega)), pu_in_t (by omega : 2 * k < 40) (by decide), pu_n (by omega), e2, ih (k + 1) f (by omega) (by omega), q_nm]
    by_cases g : ro_places r (2 * k) = x
    · simp [g]
    · simp [g]
theorem c_allSay {r : RowS} {h : Nat} (hh : h ≤ 20) (hs : ro_size r = nI (2 * h)) (x w : Int32) : ∀ (d k f : Nat), k + d = h → d < f → lo_Sums_allSay_2 r x w f (nI (2 * k)) = some (q_sy (ro_places r) x w k d) := by
  intro d
  induction d with
  | zero =>
    intro k f hk hf
    obtain ⟨f, rfl⟩ : ∃ z, f = z + 1 := ⟨f - 1, by omega⟩
    rw [lo_Sums_allSay_2, hs, nI_1, if_pos (nI_le (by omega) (by omega))]
    rfl
  | succ d ih =>
    intro k f hk hf
    obtain ⟨f, rfl⟩ : ∃ z, f = z + 1 := ⟨f - 1, by omega⟩
    have e2 : nI (2 * k) + (2 : Int32) = nI (2 * (k + 1)) := nI_add (2 * k) 2
    rw [lo_Sums_allSay_2, hs, nI_1 (2 * k), if_neg (nI_ge (by omega) (by omega)), pu_in_t (by omega : 2 * k < 40) (by decide), pu_n (by omega : 2 * k < 2 ^ 31), pu_in_t (by omega : 2 * k + 1 < 40) (by decide), pu_n (by omega : 2 * k + 1 < 2 ^ 31), e2, ih (k + 1) f (by omega) (by omega), q_sy]
    by_cases g : ro_places r (2 * k) = x
    · by_cases g2 : ro_places r (2 * k + 1) = w
      · simp [g, g2]
      · simp [g, g2]
    · simp [g]
/-- how many sets of likers fit -/
def p_lf (a : AC) (i : Nat) (P : Int32 → Bool) (S : Nat) : Nat := if (!S.testBit i && P (nI (p_vs a (p_an (p_an (2 ^ a_n a - 1) S) (2 ^ i))))) = true then 1 else 0
def p_cf (a : AC) (i : Nat) (P : Int32 → Bool) : Nat := p_sm (p_lf a i P) (2 ^ a_n a)
theorem p_cf_false (a : AC) (i : Nat) : p_cf a i (fun _ => false) = 0 := by
  unfold p_cf
  have : p_sm (p_lf a i (fun _ => false)) (2 ^ a_n a) = p_sm (fun _ => 0) (2 ^ a_n a) := p_sm_cong (fun k _ => by unfold p_lf; simp)
  rw [this, p_sm_const]
  rfl
theorem c_likers {r : RowS} {c : CluS} {a : AC} (R : RC c a) {h i : Nat} (hh : h ≤ 20) (hs : ro_size r = nI (2 * h)) (hi : i < a_n a) : mo_Sums_likersThatFit r c (nI i) = some (nI (p_cf a i (fun w => q_sy (ro_places r) (nI i) w 0 h))) := by
  have hn := R.1.1
  have h6 := pow6 hn
  have p1 : 1 ≤ 2 ^ a_n a := Nat.one_le_two_pow
  have hL := pu_loop (fun f (st : Int32) j => lo_Sums_likersThatFit_15 r c (nI i) (nI (2 ^ a_n a - 1)) f st j) (2 ^ a_n a) (fun k => nI (p_sm (p_lf a i (fun w => q_sy (ro_places r) (nI i) w 0 h)) k)) (some (nI (p_sm (p_lf a i (fun w => q_sy (ro_places r) (nI i) w 0 h)) (2 ^ a_n a))))
    (fun f => by rw [lo_Sums_likersThatFit_15, if_pos (nI_lt (by omega) (by omega))])
    (fun f k hk => by
      have e1 : ¬ nI (2 ^ a_n a - 1) < nI k := fun q => (fa_of_lt q).2.1 (nI_le (by omega) (by omega))
      have e := pu_and k i (by omega)
      have z2 : ¬ (1 : Int32) = 0 := by decide
      have z0 : (0 : Int32) = 0 := rfl
      rw [lo_Sums_likersThatFit_15, if_neg e1, nI_1 k, p_sm]
      cases hb : k.testBit i
      · have t : ∀ w, mo_Sums_allSay r (nI i) w = some (q_sy (ro_places r) (nI i) w 0 h) := fun w => c_allSay hh hs (nI i) w h 0 nj_fu (by omega) (pu_fu (by omega))
        rw [if_pos (e.2 hb), c_votesAgainst R (by omega)]
        simp only [Option.bind_some, if_neg z2, t]
        have hl : p_lf a i (fun w => q_sy (ro_places r) (nI i) w 0 h) k = if q_sy (ro_places r) (nI i) (nI (p_vs a (p_an (p_an (2 ^ a_n a - 1) k) (2 ^ i)))) 0 h = true then 1 else 0 := by
          unfold p_lf
          rw [hb]
          rfl
        rw [hl]
        cases q_sy (ro_places r) (nI i) (nI (p_vs a (p_an (p_an (2 ^ a_n a - 1) k) (2 ^ i)))) 0 h
        · rfl
        · simp only [cond_true, Option.bind_some, nI_1, if_true]
      · rw [if_neg (fun q => by have := e.1 q; rw [hb] at this; cases this)]
        have hl : p_lf a i (fun w => q_sy (ro_places r) (nI i) w 0 h) k = 0 := by
          unfold p_lf
          rw [hb]
          rfl
        rw [hl]
        simp only [Option.bind_some, if_true, Nat.add_zero])
    (2 ^ a_n a) nj_fu 0 (by omega) (pu_fu (by omega))
  have h2 : lo_Sums_likersThatFit_15 r c (nI i) (nI (2 ^ a_n a - 1)) nj_fu 0 0 = some (nI (p_cf a i (fun w => q_sy (ro_places r) (nI i) w 0 h))) := hL
  rw [mo_Sums_likersThatFit, R.1.2, pu_full hn, h2]
  rfl
theorem r_likings {m : MdS} {a : AC} (Q : RM m a) {i : Nat} (hi : i < a_n a) (w : Int32) : mo_Md_likings m (nI i) w = some (nI (p_cf a i (fun x => decide (x = w)))) := by
  have hn := Q.1.1
  have h6 := pow6 hn
  have hF : 2 ^ a_n a - 1 < 2 ^ 6 := by have : (1 : Nat) ≤ 2 ^ a_n a := Nat.one_le_two_pow; omega
  have hf3 : p_an (2 ^ a_n a - 1) (2 ^ i) < 2 ^ 6 := p_an_le _ _ hF
  have h := pu_loop (fun f (st : Int32) j => lo_Md_likings_21 m w (nI (p_an (2 ^ a_n a - 1) (2 ^ i))) f st j) 64 (fun k => nI (p_sm (fun S => if p_an S (p_an (2 ^ a_n a - 1) (2 ^ i)) = 0 then (if nI (p_vs a (p_an (p_an (2 ^ a_n a - 1) (2 ^ i)) S)) = w then 1 else 0) else 0) k)) (some (nI (p_sm (fun S => if p_an S (p_an (2 ^ a_n a - 1) (2 ^ i)) = 0 then (if nI (p_vs a (p_an (p_an (2 ^ a_n a - 1) (2 ^ i)) S)) = w then 1 else 0) else 0) 64)))
    (fun f => by
      have e0 : (64 : Int32) ≤ nI 64 := nI_le (Nat.le_refl 64) (by decide)
      rw [lo_Md_likings_21, if_pos e0])
    (fun f k hk => by
      have e0 : ¬ (64 : Int32) ≤ nI k := nI_ge (b := 64) hk (by omega)
      have e1 := an0 (x := k) (y := p_an (2 ^ a_n a - 1) (2 ^ i)) hk
      have hl : p_an (p_an (2 ^ a_n a - 1) (2 ^ i)) k < 2 ^ 6 := p_an_le _ _ hf3
      rw [lo_Md_likings_21, if_neg e0, nI_1 k, p_sm, p_an_nI (p_an (2 ^ a_n a - 1) (2 ^ i)) k, r_votesOf Q (by omega)]
      simp only [e1, Option.bind_some]
      by_cases g : p_an k (p_an (2 ^ a_n a - 1) (2 ^ i)) = 0
      · rw [if_pos g, if_pos g]
        by_cases g2 : nI (p_vs a (p_an (p_an (2 ^ a_n a - 1) (2 ^ i)) k)) = w
        · rw [if_pos g2, if_pos g2]
          simp only [Option.bind_some]
          rw [nI_1]
        · rw [if_neg g2, if_neg g2]
          simp only [Option.bind_some]
          have : ∀ z : Nat, nI z + (0 : Int32) = nI (z + 0) := fun z => nI_add z 0
          rw [this]
      · rw [if_neg g, if_neg g]
        simp only [Option.bind_some]
        have : ∀ z : Nat, nI z + (0 : Int32) = nI (z + 0) := fun z => nI_add z 0
        rw [this])
    64 nj_fu 0 (by omega) (pu_fu (by omega))
  have h2 : lo_Md_likings_21 m w (nI (p_an (2 ^ a_n a - 1) (2 ^ i))) nj_fu 0 0 = _ := h
  rw [mo_Md_likings, Q.2.1, pu_full hn, pu_sh i (by omega), p_an_nI, h2, p_sm_ext (n := 2 ^ a_n a) h6 (fun k hk1 hk2 => ?_)]
  · show some (nI _) = some (nI _)
    congr 2
    refine p_sm_cong (fun S hS => ?_)
    unfold p_lf
    have ev : p_an (p_an (2 ^ a_n a - 1) (2 ^ i)) S = p_an (p_an (2 ^ a_n a - 1) S) (2 ^ i) := p_bit_ext (fun j => by
      simp only [p_an_bit]
      cases (2 ^ a_n a - 1 : Nat).testBit j <;> cases (2 ^ i : Nat).testBit j <;> cases S.testBit j <;> rfl)
    rw [ev]
    by_cases g : p_an S (p_an (2 ^ a_n a - 1) (2 ^ i)) = 0
    · have hb : S.testBit i = false := by
        have := congrArg (fun z => z.testBit i) g
        simp only [p_an_bit, Nat.testBit_two_pow_self, Nat.zero_testBit] at this
        simpa using this
      rw [if_pos g, hb]
      simp
    · have hb : S.testBit i = true := by
        cases hb : S.testBit i
        · exfalso
          apply g
          refine p_bit_ext (fun j => ?_)
          rw [p_an_bit, p_an_bit, full_bit, Nat.zero_testBit]
          by_cases gj : j = i
          · rw [gj, hb]; rfl
          · rw [Nat.testBit_two_pow_of_ne (fun q => gj q.symm)]
            by_cases gn : j < a_n a
            · simp [gn]
            · have : S.testBit j = false := Nat.testBit_lt_two_pow (Nat.lt_of_lt_of_le hS (Nat.pow_le_pow_right (by decide) (by omega)))
              rw [this]; rfl
        · rfl
      rw [if_neg g, hb]
      simp
  · show (if p_an k (p_an (2 ^ a_n a - 1) (2 ^ i)) = 0 then _ else 0) = 0
    rw [if_neg]
    intro q
    have := p_an_zero_le q
    have p1 : (1 : Nat) ≤ 2 ^ a_n a := Nat.one_le_two_pow
    have h3 : p_an (2 ^ a_n a - 1) (2 ^ i) < 2 ^ a_n a := p_an_le _ _ (by omega)
    omega
def q_rf (it : Nat → Int32) (x : Int32) : Nat → Nat → Int64 × Bool × Int32 → Int64 × Bool × Int32
  | _, 0, st => st
  | k, d + 1, st => q_rf it x (k + 1) d (if it (2 * k) = x then (st.1 * (if (!st.2.1 || decide (it (2 * k + 1) = st.2.2)) = true then 1 else 0), true, it (2 * k + 1)) else st)
theorem q_rf_cong {f g : Nat → Int32} {x : Int32} : ∀ {d k : Nat} {st : Int64 × Bool × Int32}, (∀ j, 2 * k ≤ j → j < 2 * k + 2 * d → f j = g j) → q_rf f x k d st = q_rf g x k d st
  | 0, _, _, _ => rfl
  | d + 1, k, v, h => by
    rw [q_rf, q_rf, h (2 * k) (by omega) (by omega), h (2 * k + 1) (by omega) (by omega), q_rf_cong (f := f) (g := g) (fun j h1 h2 => h j (by omega) (by omega))]
theorem r_m131 {m : MdS} {r h : Nat} (hr : r < 6) (hh : h ≤ 20) (hs : md_sizes m r = nI (2 * h)) (x : Int32) : ∀ (d k f : Nat) (v : Int64) (b : Bool) (w : Int32), k + d = h → d < f → lo_Md_minutes_131 m (nI r) x f v (nj_b b) w (nI (40 * r + 2 * k)) = some (let q := q_rf (fun j => md_items m (40 * r + j)) x k d (v, b, w); (q.1, nj_b q.2.1, q.2.2)) := by
  have em : (40 : Int32) * nI r = nI (40 * r) := pk_mul 40 r
  intro d
  induction d with
  | zero =>
    intro k f v b w hk hf
    obtain ⟨f, rfl⟩ : ∃ z, f = z + 1 := ⟨f - 1, by omega⟩
    rw [lo_Md_minutes_131, pu_in_t hr (by decide), pu_n (by omega), hs, em, nI_add, if_pos (nI_le (by omega) (by omega))]
    rfl
  | succ d ih =>
    intro k f v b w hk hf
    obtain ⟨f, rfl⟩ : ∃ z, f = z + 1 := ⟨f - 1, by omega⟩
    have z2 : ¬ (1 : Int32) = 0 := by decide
    have e2 : nI (40 * r + 2 * k) + (2 : Int32) = nI (40 * r + 2 * (k + 1)) := nI_add (40 * r + 2 * k) 2
    have e1 : nI (40 * r + 2 * k) + (1 : Int32) = nI (40 * r + (2 * k + 1)) := nI_add (40 * r + 2 * k) 1
    rw [lo_Md_minutes_131, pu_in_t hr (by decide), pu_n (by omega : r < 2 ^ 31), hs, em, nI_add (40 * r) (2 * h), if_neg (nI_ge (by omega) (by omega)), e2, e1, pu_in_t (by omega : 40 * r + 2 * k < 240) (by decide), pu_n (by omega : 40 * r + 2 * k < 2 ^ 31), pu_in_t (by omega : 40 * r + (2 * k + 1) < 240) (by decide), pu_n (by omega : 40 * r + (2 * k + 1) < 2 ^ 31), q_rf]
    simp only [cond_true]
    by_cases g : md_items m (40 * r + 2 * k) = x
    · rw [if_pos g, if_pos g]
      cases b
      · have z0 : nj_b false = 0 := rfl
        rw [if_pos z0]
        simp only [Option.bind_some]
        exact ih (k + 1) f _ true _ (by omega) (by omega)
      · have z1 : ¬ nj_b true = 0 := by decide
        rw [if_neg z1]
        by_cases g2 : md_items m (40 * r + (2 * k + 1)) = w
        · rw [if_pos g2]
          simp only [Option.bind_some]
          have := ih (k + 1) f (v * 1) true (md_items m (40 * r + (2 * k + 1))) (by omega) (by omega)
          simp only [g2, decide_true, Bool.or_true, if_true]
          rw [g2] at this
          exact this
        · rw [if_neg g2]
          simp only [Option.bind_some]
          have := ih (k + 1) f (v * 0) true (md_items m (40 * r + (2 * k + 1))) (by omega) (by omega)
          simp only [g2, decide_false, Bool.not_true, Bool.or_false]
          exact this
    · rw [if_neg g, if_neg g]
      simp only [Option.bind_some]
      exact ih (k + 1) f v b w (by omega) (by omega)
def p_c6 (a : AC) (i : Nat) (P : Int32 → Bool) : Int64 := Int32.toInt64 (nI (p_cf a i P))
theorem q_rf_val (a : AC) (i : Nat) (it : Nat → Int32) (x : Int32) : ∀ (d k : Nat) (v : Int64) (b : Bool) (w : Int32), (let q := q_rf it x k d (v, b, w); q.1 * (if q.2.1 = true then p_c6 a i (fun y => decide (y = q.2.2)) else 1)) = if b = true then v * p_c6 a i (fun y => decide (y = w) && q_sy it x y k d) else if q_nm it x k d = true then v * p_c6 a i (fun y => q_sy it x y k d) else v := by
  intro d
  induction d with
  | zero =>
    intro k v b w
    cases b
    · simp [q_rf, q_nm]
    · simp only [q_rf, q_sy, Bool.and_true, if_true]
      rfl
  | succ d ih =>
    intro k v b w
    by_cases g : it (2 * k) = x
    · have hq : ∀ y, q_sy it x y k (d + 1) = (decide (it (2 * k + 1) = y) && q_sy it x y (k + 1) d) := by
        intro y
        rw [q_sy]
        simp [g]
      simp only [q_rf, if_pos g, hq]
      have hn : q_nm it x k (d + 1) = true := by rw [q_nm]; simp [g]
      rw [hn]
      cases b
      · have := ih (k + 1) (v * 1) true (it (2 * k + 1))
        simp only [Bool.not_false, Bool.true_or, if_true] at this ⊢
        rw [this]
        rw [Int64.mul_one]
        simp only [Bool.false_eq_true, if_false]
        congr 2
        funext y
        by_cases gy : y = it (2 * k + 1)
        · simp [gy]
        · have : ¬ it (2 * k + 1) = y := fun q => gy q.symm
          simp [gy, this]
      · by_cases g2 : it (2 * k + 1) = w
        · have := ih (k + 1) (v * 1) true (it (2 * k + 1))
          simp only [g2, decide_true, Bool.or_true, if_true] at this ⊢
          rw [this, Int64.mul_one]
          congr 2
          funext y
          by_cases gy : y = w
          · simp [gy]
          · have : ¬ w = y := fun q => gy q.symm
            simp [gy]
        · have := ih (k + 1) (v * 0) true (it (2 * k + 1))
          simp only [g2, decide_false, Bool.not_true, Bool.or_false, Bool.false_eq_true, if_false, if_true] at this ⊢
          rw [this]
          have ef : (fun y => decide (y = w) && (decide (it (2 * k + 1) = y) && q_sy it x y (k + 1) d)) = fun _ => false := by
            funext y
            by_cases gy : y = w
            · have : ¬ it (2 * k + 1) = y := fun q => g2 (q.trans gy)
              simp [this]
            · simp [gy]
          rw [ef]
          have ez : p_c6 a i (fun _ => false) = 0 := by
            unfold p_c6
            rw [p_cf_false]
            rfl
          rw [ez, Int64.mul_zero, Int64.zero_mul]
    · have hq : ∀ y, q_sy it x y k (d + 1) = q_sy it x y (k + 1) d := by
        intro y
        rw [q_sy]
        simp [g]
      have hn : q_nm it x k (d + 1) = q_nm it x (k + 1) d := by rw [q_nm]; simp [g]
      simp only [q_rf, if_neg g, hq, hn]
      exact ih (k + 1) v b w
theorem f_minutes {s : NjS} {m : MdS} {a : AC} (R : RC (nj_club s) a) (Q : RM m a) {r h : Nat} (hr : r < 6) (hh : h ≤ 20) (e1 : md_sizes m r = nI (2 * h)) (e2 : ro_size (nj_rows s r) = nI (2 * h)) (e3 : ∀ k, k < 2 * h → ro_places (nj_rows s r) k = md_items m (40 * r + k)) : ∀ (d k f1 f2 : Nat) (v : Int64), k + d = a_n a → d < f1 → d < f2 → ∃ w, lo_Sums_likingsOf_5 (nj_rows s r) (nj_club s) f1 v (nI k) = some w ∧ lo_Md_minutes_110 m (nI r) f2 v (nI k) = some w := by
  have hn := R.1.1
  have em : (40 : Int32) * nI r = nI (40 * r) := pk_mul 40 r
  intro d
  induction d with
  | zero =>
    intro k f1 f2 v hk h1 h2
    obtain ⟨f1, rfl⟩ : ∃ z, f1 = z + 1 := ⟨f1 - 1, by omega⟩
    obtain ⟨f2, rfl⟩ : ∃ z, f2 = z + 1 := ⟨f2 - 1, by omega⟩
    exact ⟨v, by rw [lo_Sums_likingsOf_5, R.1.2, if_pos (nI_le (by omega) (by omega))], by rw [lo_Md_minutes_110, Q.2.1, if_pos (nI_le (by omega) (by omega))]⟩
  | succ d ih =>
    intro k f1 f2 v hk h1 h2
    obtain ⟨f1, rfl⟩ : ∃ z, f1 = z + 1 := ⟨f1 - 1, by omega⟩
    obtain ⟨f2, rfl⟩ : ∃ z, f2 = z + 1 := ⟨f2 - 1, by omega⟩
    have hi : k < a_n a := by omega
    have t1 : mo_Sums_isNamed (nj_rows s r) (nI k) = some (q_nm (ro_places (nj_rows s r)) (nI k) 0 h) := c_isNamed hh e2 (nI k) h 0 nj_fu (by omega) (pu_fu (by omega))
    have t2 : lo_Md_minutes_131 m (nI r) (nI k) nj_fu v 0 0 (nI (40 * r)) = _ := r_m131 hr hh e1 (nI k) h 0 nj_fu v false 0 (by omega) (pu_fu (by omega))
    have hcg : q_rf (fun j => md_items m (40 * r + j)) (nI k) 0 h (v, false, 0) = q_rf (ro_places (nj_rows s r)) (nI k) 0 h (v, false, 0) := q_rf_cong (fun j _ hj => (e3 j (by omega)).symm)
    rw [hcg] at t2
    have hv := q_rf_val a k (ro_places (nj_rows s r)) (nI k) h 0 v false 0
    simp only at t2 hv
    simp only [Bool.false_eq_true, if_false] at hv
    obtain ⟨w, w1, w2⟩ := ih (k + 1) f1 f2 (if q_nm (ro_places (nj_rows s r)) (nI k) 0 h = true then v * p_c6 a k (fun y => q_sy (ro_places (nj_rows s r)) (nI k) y 0 h) else v) (by omega) (by omega) (by omega)
    refine ⟨w, ?_, ?_⟩
    · rw [lo_Sums_likingsOf_5, R.1.2, if_neg (nI_ge (by omega) (by omega)), t1, nI_1 k, c_likers R hh e2 hi]
      simp only [Option.bind_some]
      cases hq : q_nm (ro_places (nj_rows s r)) (nI k) 0 h
      · rw [hq] at w1
        exact w1
      · rw [hq] at w1
        exact w1
    · rw [lo_Md_minutes_110, Q.2.1, if_neg (nI_ge (by omega) (by omega)), em, t2, nI_1 k]
      simp only [Option.bind_some]
      rw [r_likings Q hi]
      rw [← hv] at w2
      cases hq : (q_rf (ro_places (nj_rows s r)) (nI k) 0 h (v, false, 0)).2.1
      · rw [hq] at w2
        exact w2
      · rw [hq] at w2
        exact w2
theorem Rel.up {s : NjS} {m : MdS} (h : Rel s m) (v w : Int64) : Rel (ns_lo (ns_up s v) w) (ms_lower (ms_upper m v) w) := ⟨h.1, h.2.1, h.2.2.1, h.2.2.2.1, h.2.2.2.2.1, rfl, rfl⟩
theorem op_minutes {s : NjS} {m : MdS} (h : Rel s m) (x : Int32) : Same (mo_Nj_minutes s x) (mo_Md_minutes m x) := by
  obtain ⟨a, R, Q, W⟩ := h.ac
  have hn6 := R.1.1
  rw [mo_Nj_minutes, mo_Md_minutes]
  rcases f_cr h R Q x with ⟨r, n, hr, hn, rfl, e1, e2, e3, hne, q1, q2, q3⟩ | ⟨v, s2, m2, hv, q1, q2, q3, q4⟩ | ⟨q1, q2⟩
  · have g40 : nI n ≤ (40 : Int32) := nI_le (b := 40) hn (by decide)
    rw [q1, q2, q3, if_pos g40]
    simp only [Option.bind_some, cond_true, if_true]
    rw [pu_in_t hr (by decide), pu_n (by omega), e2, e1]
    simp only [cond_true]
    by_cases g : nj_rem (nI n) 2 = 0
    · rw [if_pos g, if_pos g]
      have hev := (f_even hn).1 g
      obtain ⟨k, rfl⟩ : ∃ k, n = 2 * k := ⟨n / 2, by omega⟩
      have hc : mo_Nj_namesChildren s r (2 : Int32) = some (q_all (fun j => p_ch a (ro_places (nj_rows s r) (2 * j))) 0 k) := c_names2 R (by omega) e2 k 0 nj_fu (by omega) (pu_fu (by omega))
      have hr1 : lo_Md_minutes_48 m (nI r) nj_fu 1 (nI (40 * r)) = _ := r_names2 Q hr (by omega) e1 k 0 nj_fu true (by omega) (pu_fu (by omega))
      have hcg : q_all (fun j => p_ch a (md_items m (40 * r + 2 * j))) 0 k = q_all (fun j => p_ch a (ro_places (nj_rows s r) (2 * j))) 0 k := q_all_cong (fun j hj => by
        rw [Nat.zero_add, e3 (2 * j) (by omega)])
      have em : (40 : Int32) * nI r = nI (40 * r) := pk_mul 40 r
      rw [hcg] at hr1
      rw [hc, em, hr1]
      simp only [Option.bind_some, Bool.true_and]
      cases hq : q_all (fun j => p_ch a (ro_places (nj_rows s r) (2 * j))) 0 k
      · exact (f_found h 3 (by decide)).b
      · have hz : ¬ nj_b true = 0 := by decide
        rw [if_neg hz]
        simp only [cond_true]
        obtain ⟨w, w1, w2⟩ := f_minutes R Q hr (by omega) e1 e2 e3 (a_n a) 0 nj_fu nj_fu 1 (by omega) (pu_fu (by omega)) (pu_fu (by omega))
        have w1' : lo_Sums_likingsOf_5 (nj_rows s r) (nj_club s) nj_fu 1 0 = some w := w1
        have w2' : lo_Md_minutes_110 m (nI r) nj_fu 1 0 = some w := w2
        rw [mo_Sums_likingsOf, w1', w2']
        exact Same.of (h.up w 1) 1
    · rw [if_neg g, if_neg g]
      exact (f_found h 5 (by decide)).b
  · rw [q1, q2, q3]
    simp only [Option.bind_some, cond_true, if_neg hv]
    exact Same.of q4 _
  · have n1 : ¬ (-1 : Int32) = 0 := by decide
    rw [q1, q2]
    simp only [Option.bind_some, cond_false, if_neg n1]
    exact Same.of h _
