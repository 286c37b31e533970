/-! pure: the club of the reference, by numbers -/
def WA (a : AC) : Prop := a_n a ≤ 6 ∧ (∀ i, i < a_n a → a_K a i < 6) ∧ (∀ i, i < a_n a → a_L a i < 2 ^ a_n a) ∧ a_r a < 4 ∧ a_b a < 2 ^ a_n a
theorem RC.wa {c : CluS} {a : AC} (R : RC c a) : WA a := ⟨R.1.1, fun i h => (R.2.1 i h).2, fun i h => (R.2.2.2.1 i h).2, R.2.2.2.2.1.2, R.2.2.2.2.2.1.2⟩
/-- whom child i likes -/
def p_lk (a : AC) (i : Nat) : Nat := p_mk (fun k => (a_L a k).testBit i) (a_n a)
theorem p_lk_bit (a : AC) (i k : Nat) : (p_lk a i).testBit k = (decide (k < a_n a) && (a_L a k).testBit i) := p_mk_bit _ _ _
theorem p_lk_lt {a : AC} (i : Nat) : p_lk a i < 2 ^ a_n a := p_mk_lt _ _
def RMr (row : Nat → Int32) (B : Nat) (a : AC) : Prop := row (B + 1) = nI (a_b a) ∧ row (B + 2) = a_t a ∧ (∀ i, i < a_n a → row (B + 3 + i) = a_P a i) ∧ (∀ i, i < a_n a → row (B + 9 + i) = nI (p_lk a i)) ∧ row (B + 15) = nI (a_r a)
def RM (m : MdS) (a : AC) : Prop := WA a ∧ md_children m = nI (a_n a) ∧ (∀ i, i < a_n a → md_kinds m i = nI (a_K a i)) ∧ RMr (md_row m) 0 a
theorem RM.inn {m : MdS} {a : AC} (R : RM m a) : md_row m 1 = nI (a_b a) := R.2.2.2.1
theorem RM.tin {m : MdS} {a : AC} (R : RM m a) : md_row m 2 = a_t a := R.2.2.2.2.1
theorem RM.pen {m : MdS} {a : AC} (R : RM m a) {i : Nat} (hi : i < a_n a) : md_row m (3 + i) = a_P a i := by
  have := R.2.2.2.2.2.1 i hi
  rwa [Nat.zero_add] at this
theorem RM.lik {m : MdS} {a : AC} (R : RM m a) {i : Nat} (hi : i < a_n a) : md_row m (9 + i) = nI (p_lk a i) := by
  have := R.2.2.2.2.2.2.1 i hi
  rwa [Nat.zero_add] at this
theorem RM.rul {m : MdS} {a : AC} (R : RM m a) : md_row m 15 = nI (a_r a) := R.2.2.2.2.2.2.2
theorem r_has {S j : Nat} (hS : S < 2 ^ 31) (hj : j < 31) : mo_Md_has (nI S) (nI j) = some (S.testBit j) := by
  rw [mo_Md_has, pu_shr hS hj]
  cases S.testBit j
  · rfl
  · rfl
theorem pu_le4 (q : Int32) : (q ≤ 4) ↔ q < 5 := by
  rw [fa_le, fa_lt]
  show q.toInt ≤ 4 ↔ q.toInt < 5
  omega
theorem r_votes {m : MdS} {a : AC} (R : RM m a) {i : Nat} (hi : i < a_n a) : mo_Md_votes m (nI i) = some (nI (p_vt a i)) := by
  have hn := R.1.1
  have h1 := R.2.2.1 i hi
  have h2 := R.1.2.1 i hi
  have h3 := R.pen hi
  have e1 : (3 : Int32) + nI i = nI (3 + i) := nI_add 3 i
  rw [mo_Md_votes, pu_in_t (by omega : i < 6) (by decide), pu_n (by omega), h1, e1, pu_in_t (by omega : 3 + i < 2304) (by decide), pu_n (by omega), h3]
  unfold p_vt
  simp only [pu_le4]
  generalize a_P a i = q at *
  generalize a_K a i = k at *
  match k, h2 with
  | 0, _ => rfl
  | 1, _ => rfl
  | 2, _ => rfl
  | 3, _ =>
    by_cases hq : q < 5
    · simp only [hq, if_true]; rfl
    · simp only [hq, if_false]; rfl
  | 4, _ => rfl
  | 5, _ => rfl
theorem r_votesOf {m : MdS} {a : AC} (R : RM m a) {S : Nat} (hS : S < 2 ^ 31) : mo_Md_votesOf m (nI S) = some (nI (p_vs a S)) := by
  have hn := R.1.1
  have hc := R.2.1
  have h := pu_loop (fun n v i => lo_Md_votesOf_4 m (nI S) n v i) (a_n a) (fun k => nI (p_sm (p_vf a S) k)) (some (nI (p_vs a S)))
    (fun n => by
      rw [lo_Md_votesOf_4, hc, if_pos (nI_le (Nat.le_refl _) (by omega))]
      rfl)
    (fun n k hk => by
      rw [lo_Md_votesOf_4, hc, if_neg (nI_ge hk (by omega)), r_has hS (by omega), nI_1]
      simp only [Option.bind_some]
      cases hb : S.testBit k
      · simp only [cond_false, Option.bind_some]
        rw [p_sm, p_vf, hb]
        show lo_Md_votesOf_4 m (nI S) n (nI (p_sm (p_vf a S) k) + nI 0) (nI (k + 1)) = _
        rw [nI_add]
        rfl
      · simp only [cond_true, Option.bind_some, r_votes R hk]
        rw [p_sm, p_vf, hb, nI_add]
        rfl)
    (a_n a) nj_fu 0 (by omega) (pu_fu (by omega))
  have h2 : lo_Md_votesOf_4 m (nI S) nj_fu 0 0 = some (nI (p_vs a S)) := h
  rw [mo_Md_votesOf, h2]
  rfl
theorem r_likes {m : MdS} {a : AC} (R : RM m a) {i k : Nat} (hi : i < a_n a) (hk : k < a_n a) : mo_Md_likes m (nI i) (nI k) = some ((a_L a k).testBit i) := by
  have hn := R.1.1
  have h6 := pow6 hn
  have e1 : (9 : Int32) + nI i = nI (9 + i) := nI_add 9 i
  have hl := p_lk_lt (a := a) i
  rw [mo_Md_likes, e1, pu_in_t (by omega : 9 + i < 2304) (by decide), pu_n (by omega), R.lik hi, r_has (by omega) (by omega), p_lk_bit]
  simp [hk]
theorem p_or0 (f : Nat → Bool) (k : Nat) (hk : k < 31) : nI (p_mk f k) ||| (if f k then (1 : Int32) <<< (nI k &&& 31) else 0) = nI (p_mk f (k + 1)) := by
  rw [p_mk]
  cases f k
  · show nI (p_mk f k) ||| nI 0 = nI (p_mk f k)
    rw [fa_or, Nat.or_zero]
  · show nI (p_mk f k) ||| (1 : Int32) <<< (nI k &&& 31) = nI (p_mk f k ||| 2 ^ k)
    rw [pu_sh k hk, fa_or]
theorem r_liking {m : MdS} {a : AC} (R : RM m a) {k0 S : Nat} (hk0 : k0 < a_n a) (hS : S < 2 ^ 31) : mo_Md_liking m (nI k0) (nI S) = some (nI (S &&& a_L a k0)) := by
  have hn := R.1.1
  have hc := R.2.1
  have hLk := R.1.2.2.1 k0 hk0
  have h := pu_loop (fun n v i => lo_Md_liking_5 m (nI k0) (nI S) n v i) (a_n a) (fun k => nI (p_mk (fun i => S.testBit i && (a_L a k0).testBit i) k)) (some (nI (p_mk (fun i => S.testBit i && (a_L a k0).testBit i) (a_n a))))
    (fun n => by
      rw [lo_Md_liking_5, hc, if_pos (nI_le (Nat.le_refl _) (by omega))])
    (fun n k hk => by
      rw [lo_Md_liking_5, hc, if_neg (nI_ge hk (by omega)), r_has hS (by omega), nI_1, ← p_or0 _ k (by omega)]
      simp only [Option.bind_some]
      cases hb : S.testBit k
      · rfl
      · simp only [cond_true, r_likes R hk hk0, Option.bind_some, Bool.true_and]
        cases (a_L a k0).testBit k <;> rfl)
    (a_n a) nj_fu 0 (by omega) (pu_fu (by omega))
  have h2 : lo_Md_liking_5 m (nI k0) (nI S) nj_fu 0 0 = some (nI (p_mk (fun i => S.testBit i && (a_L a k0).testBit i) (a_n a))) := h
  have h3 : p_mk (fun i => S.testBit i && (a_L a k0).testBit i) (a_n a) = S &&& a_L a k0 := by
    apply p_bit_ext
    intro i
    rw [p_mk_bit, Nat.testBit_and]
    by_cases hi : i < a_n a
    · simp [hi]
    · have : (a_L a k0).testBit i = false := Nat.testBit_lt_two_pow (Nat.lt_of_lt_of_le hLk (Nat.pow_le_pow_right (by decide) (by omega)))
      simp [this]
  rw [mo_Md_liking, h2, h3]
  rfl
theorem r_ofKind {m : MdS} {a : AC} (R : RM m a) {k0 S : Nat} (hk0 : k0 < 6) (h1 : k0 ≠ 1) (hS : S < 2 ^ 31) : mo_Md_ofKind m (nI k0) (nI S) = some (nI (S &&& p_ak a k0)) := by
  have hn := R.1.1
  have hc := R.2.1
  have hik : ∀ i, p_ik a i k0 = decide (a_K a i = k0) := fun i => by unfold p_ik; simp [h1]
  have h := pu_loop (fun n v i => lo_Md_ofKind_5 m (nI k0) (nI S) n v i) (a_n a) (fun k => nI (p_mk (fun i => S.testBit i && p_ik a i k0) k)) (some (nI (p_mk (fun i => S.testBit i && p_ik a i k0) (a_n a))))
    (fun n => by
      rw [lo_Md_ofKind_5, hc, if_pos (nI_le (Nat.le_refl _) (by omega))])
    (fun n k hk => by
      have hK := R.1.2.1 k hk
      have e1 : (nI (a_K a k) = nI k0) ↔ a_K a k = k0 := nI_eq (by omega) (by omega)
      rw [lo_Md_ofKind_5, hc, if_neg (nI_ge hk (by omega)), r_has hS (by omega), nI_1, ← p_or0 _ k (by omega), pu_in_t (by omega : k < 6) (by decide), pu_n (by omega), R.2.2.1 k hk]
      simp only [Option.bind_some, e1, hik]
      cases hb : S.testBit k
      · rfl
      · by_cases g : a_K a k = k0
        · simp [g]
        · simp [g])
    (a_n a) nj_fu 0 (by omega) (pu_fu (by omega))
  have h2 : lo_Md_ofKind_5 m (nI k0) (nI S) nj_fu 0 0 = some (nI (p_mk (fun i => S.testBit i && p_ik a i k0) (a_n a))) := h
  have h3 : p_mk (fun i => S.testBit i && p_ik a i k0) (a_n a) = S &&& p_ak a k0 := by
    apply p_bit_ext
    intro i
    rw [p_mk_bit, Nat.testBit_and, p_ak, p_mk_bit]
    cases S.testBit i <;> cases decide (i < a_n a) <;> rfl
  rw [mo_Md_ofKind, h2, h3]
  rfl
theorem r_yesFor {m : MdS} {a : AC} (R : RM m a) {i S : Nat} (hi : i < a_n a) (hS : S < 64) : mo_Md_yesFor m (nI i) (nI S) = some (nI (p_ye a i S (a_L a i))) := by
  have hn := R.1.1
  have e1 : p_an S ((S &&& a_L a i) ||| 2 ^ i) = p_an (p_an S (a_L a i)) (2 ^ i) := by
    apply p_bit_ext
    intro j
    rw [p_an_bit, p_an_bit, p_an_bit, Nat.testBit_or, Nat.testBit_and]
    cases S.testBit j <;> cases (a_L a i).testBit j <;> cases (2 ^ i : Nat).testBit j <;> rfl
  have h2 : p_an S ((S &&& a_L a i) ||| 2 ^ i) < 2 ^ 6 := p_an_le _ _ (by omega)
  rw [mo_Md_yesFor, r_liking R hi (by omega)]
  simp only [Option.bind_some]
  rw [pu_sh i (by omega), fa_or, p_an_nI, r_votesOf R (by omega), e1]
  rfl
theorem r_isAgainst {m : MdS} {a : AC} (R : RM m a) {i S r : Nat} (hi : i < a_n a) (hS : S < 64) (hr : r < 4) : mo_Md_isAgainst m (nI r) (nI i) (nI S) = some (p_car a i (p_ye a i S (a_L a i)) (p_no a i S (a_L a i)) r) := by
  have hn := R.1.1
  have hle := p_ye_le a i S (a_L a i)
  have hvs := p_vs_le hn S
  have hno : nI (p_vs a S) - nI (p_ye a i S (a_L a i)) = nI (p_no a i S (a_L a i)) := pk_sub hle
  have hnb : p_no a i S (a_L a i) < 100 := by unfold p_no; omega
  have hv := p_vt_le a i
  rw [mo_Md_isAgainst, r_yesFor R hi hS]
  simp only [Option.bind_some, r_votesOf R (by omega : S < 2 ^ 31), hno, r_votes R hi]
  generalize p_no a i S (a_L a i) = no at *
  generalize p_ye a i S (a_L a i) = y at *
  have e1 : (nI r = (1 : Int32)) ↔ r = 1 := nI_eq (b := 1) (by omega) (by decide)
  have e2 : (nI r = (2 : Int32)) ↔ r = 2 := nI_eq (b := 2) (by omega) (by decide)
  have e3 : ((2 : Int32) * nI no) = nI (2 * no) := pk_mul 2 no
  have e4 : (nI y < nI (2 * no)) ↔ y < 2 * no := nI_ltI (by omega) (by omega)
  have e5 : (nI y ≤ (0 : Int32)) ↔ y ≤ 0 := nI_leI (b := 0) (by omega) (by decide)
  have e6 : (nI no = nI (p_vt a i)) ↔ no = p_vt a i := nI_eq (by omega) (by omega)
  have e7 : (nI y ≤ nI no) ↔ y ≤ no := nI_leI (by omega) (by omega)
  simp only [e1, e2, e3, e4, e5, e6, e7, p_car]
  by_cases g1 : r = 1
  · simp only [g1, if_true]
    by_cases g3 : y ≤ 0
    · have : ¬ 0 < y := by omega
      simp [g3, this]
    · have h0 : 0 < y := by omega
      by_cases g2 : y < 2 * no
      · have : ¬ 2 * no ≤ y := by omega
        simp [g2, g3, this]
      · have : 2 * no ≤ y := by omega
        simp [g2, g3, this, h0]
  · by_cases g2 : r = 2
    · simp only [g2, if_true, if_false, show ¬ (2 : Nat) = 1 by decide]
      by_cases g4 : y ≤ 0
      · have : ¬ 0 < y := by omega
        simp [g4, this]
      · have : 0 < y := by omega
        by_cases g3 : no = p_vt a i
        · simp [g3, g4, this]
        · simp [g3, g4]
    · simp only [g1, g2, if_false]
      by_cases g3 : y ≤ no
      · have : ¬ no < y := by omega
        simp [g3, this]
      · have : no < y := by omega
        simp [g3, this]
theorem r_isOut {m : MdS} {a : AC} (R : RM m a) {i S r : Nat} (hi : i < a_n a) (hS : S < 64) (hr : r < 4) : mo_Md_isOut m (nI r) (nI i) (nI S) = some (p_po a i S (a_L a i) r) := by
  have hn := R.1.1
  have hK := R.1.2.1 i hi
  have h5 : mo_Md_ofKind m (5 : Int32) (nI S) = some (nI (S &&& p_ak a 5)) := r_ofKind R (k0 := 5) (by decide) (by decide) (by omega)
  have h2 : mo_Md_ofKind m (2 : Int32) (nI S) = some (nI (S &&& p_ak a 2)) := r_ofKind R (k0 := 2) (by decide) (by decide) (by omega)
  have hA2 : mo_Md_isAgainst m (2 : Int32) (nI i) (nI S) = some (p_car a i (p_ye a i S (a_L a i)) (p_no a i S (a_L a i)) 2) := r_isAgainst R hi hS (r := 2) (by decide)
  have hA0 : mo_Md_isAgainst m (0 : Int32) (nI i) (nI S) = some (p_car a i (p_ye a i S (a_L a i)) (p_no a i S (a_L a i)) 0) := r_isAgainst R hi hS (r := 0) (by decide)
  have e1 : (nI r = (3 : Int32)) ↔ r = 3 := nI_eq (b := 3) (by omega) (by decide)
  have e2 : (nI (a_K a i) = (4 : Int32)) ↔ a_K a i = 4 := nI_eq (b := 4) (by omega) (by decide)
  -- the sets
  have s1 : p_an (S &&& p_ak a 5) (2 ^ i) = p_an S (2 ^ i) &&& p_ak a 5 := by
    apply p_bit_ext; intro j
    rw [p_an_bit, Nat.testBit_and, Nat.testBit_and, p_an_bit]
    cases S.testBit j <;> cases (p_ak a 5).testBit j <;> cases (2 ^ i : Nat).testBit j <;> rfl
  have s2 : p_an (p_an S (2 ^ i) &&& p_ak a 5) (S &&& a_L a i) = p_an (p_an S (2 ^ i) &&& p_ak a 5) (a_L a i) := by
    apply p_bit_ext; intro j
    rw [p_an_bit, p_an_bit, Nat.testBit_and, p_an_bit, Nat.testBit_and]
    cases S.testBit j <;> cases (p_ak a 5).testBit j <;> cases (2 ^ i : Nat).testBit j <;> cases (a_L a i).testBit j <;> rfl
  have s3 : p_an ((S &&& p_ak a 2) &&& (S &&& a_L a i)) (2 ^ i) = (p_an S (2 ^ i) &&& a_L a i) &&& p_ak a 2 := by
    apply p_bit_ext; intro j
    rw [p_an_bit, Nat.testBit_and, Nat.testBit_and, Nat.testBit_and, Nat.testBit_and, Nat.testBit_and, p_an_bit]
    cases S.testBit j <;> cases (p_ak a 2).testBit j <;> cases (2 ^ i : Nat).testBit j <;> cases (a_L a i).testBit j <;> rfl
  have b5 := p_and_lt (x := p_an S (2 ^ i)) (p_ak_lt hn 5)
  have b6 : p_an (p_an S (2 ^ i) &&& p_ak a 5) (a_L a i) < 2 ^ 6 := p_an_le _ _ b5
  have b2 := p_and_lt (x := p_an S (2 ^ i) &&& a_L a i) (p_ak_lt hn 2)
  have q1 : (nI (p_an S (2 ^ i) &&& p_ak a 5) = (0 : Int32)) ↔ p_an S (2 ^ i) &&& p_ak a 5 = 0 := nI_eq (b := 0) (by omega) (by decide)
  have q2 : (nI (p_an (p_an S (2 ^ i) &&& p_ak a 5) (a_L a i)) = (0 : Int32)) ↔ p_an (p_an S (2 ^ i) &&& p_ak a 5) (a_L a i) = 0 := nI_eq (b := 0) (by omega) (by decide)
  have q3 : (nI ((p_an S (2 ^ i) &&& a_L a i) &&& p_ak a 2) = (0 : Int32)) ↔ (p_an S (2 ^ i) &&& a_L a i) &&& p_ak a 2 = 0 := nI_eq (b := 0) (by omega) (by decide)
  rw [mo_Md_isOut, r_liking R hi (by omega)]
  simp only [Option.bind_some, h5, h2, pu_sh i (by omega), p_an_nI, fa_and, s1, s2, s3, q1, q2, q3, e1, hA2, pu_in_t (by omega : i < 6) (by decide), pu_n (by omega : i < 2 ^ 31), R.2.2.1 i hi, e2, cond_true]
  have hcar : ∀ p : Int32, (if r = 3 then some (0 : Int32) else some (nI r)) = some p → mo_Md_isAgainst m p (nI i) (nI S) = some (p_car a i (p_ye a i S (a_L a i)) (p_no a i S (a_L a i)) r) := by
    intro p hp
    by_cases g : r = 3
    · rw [if_pos g] at hp
      cases hp
      rw [hA0, g]
      rfl
    · rw [if_neg g] at hp
      cases hp
      exact r_isAgainst R hi hS hr
  obtain ⟨p, hp⟩ : ∃ p, (if r = 3 then some (0 : Int32) else some (nI r)) = some p := by
    by_cases g : r = 3
    · exact ⟨_, if_pos g⟩
    · exact ⟨_, if_neg g⟩
  rw [hp]
  simp only [Option.bind_some, hcar p hp]
  unfold p_po p_sis
  cases p_car a i (p_ye a i S (a_L a i)) (p_no a i S (a_L a i)) r
  · by_cases g3 : (p_an S (2 ^ i) &&& a_L a i) &&& p_ak a 2 = 0 <;> simp [g3]
  · by_cases g1 : r = 3
    · by_cases g4 : p_an S (2 ^ i) &&& p_ak a 5 = 0
      · by_cases g3 : (p_an S (2 ^ i) &&& a_L a i) &&& p_ak a 2 = 0
        · by_cases g2 : a_K a i = 4
          · cases p_car a i (p_ye a i S (a_L a i)) (p_no a i S (a_L a i)) 2 <;> simp [g1, g2, g3, g4]
          · simp [g1, g2, g3, g4]
        · simp [g1, g3, g4]
      · by_cases g5 : p_an (p_an S (2 ^ i) &&& p_ak a 5) (a_L a i) = 0
        · by_cases g3 : (p_an S (2 ^ i) &&& a_L a i) &&& p_ak a 2 = 0 <;> simp [g1, g3, g4, g5]
        · by_cases g3 : (p_an S (2 ^ i) &&& a_L a i) &&& p_ak a 2 = 0
          · by_cases g2 : a_K a i = 4
            · cases p_car a i (p_ye a i S (a_L a i)) (p_no a i S (a_L a i)) 2 <;> simp [g1, g2, g3, g4, g5]
            · simp [g1, g2, g3, g4, g5]
          · simp [g1, g3, g4, g5]
    · by_cases g3 : (p_an S (2 ^ i) &&& a_L a i) &&& p_ak a 2 = 0
      · by_cases g2 : a_K a i = 4
        · cases p_car a i (p_ye a i S (a_L a i)) (p_no a i S (a_L a i)) 2 <;> simp [g1, g2, g3]
        · simp [g1, g2, g3]
      · simp [g1, g3]
theorem r_outs {m : MdS} {a : AC} (R : RM m a) {S : Nat} (hS : S < 64) : mo_Md_outs m (nI S) = some (nI (p_out a S)) := by
  have hn := R.1.1
  have hc := R.2.1
  have h := pu_loop (fun n v i => lo_Md_outs_4 m (nI S) n v i) (a_n a) (fun k => nI (p_mk (p_of a S) k)) (some (nI (p_out a S)))
    (fun n => by
      rw [lo_Md_outs_4, hc, if_pos (nI_le (Nat.le_refl _) (by omega))]
      rfl)
    (fun n k hk => by
      rw [lo_Md_outs_4, hc, if_neg (nI_ge hk (by omega)), r_has (by omega) (by omega), nI_1, ← p_or0 _ k (by omega), R.rul, r_isOut R hk hS R.1.2.2.2.1]
      simp only [Option.bind_some]
      cases hb : S.testBit k
      · have h3 : p_of a S k = false := by unfold p_of; simp [hb]
        simp [h3]
      · have h3 : p_of a S k = p_po a k S (a_L a k) (a_r a) := by unfold p_of; rw [hb]; rfl
        simp only [cond_true, h3]
        cases p_po a k S (a_L a k) (a_r a) <;> simp)
    (a_n a) nj_fu 0 (by omega) (pu_fu (by omega))
  have h2 : lo_Md_outs_4 m (nI S) nj_fu 0 0 = some (nI (p_out a S)) := h
  rw [mo_Md_outs, h2]
  rfl
theorem r_isIn {m : MdS} {a : AC} (R : RM m a) {i : Nat} (hi : i < 31) : mo_Md_isIn m (nI i) = some ((a_b a).testBit i) := by
  have h6 := pow6 R.1.1
  have hb := R.1.2.2.2.2
  rw [mo_Md_isIn, R.inn, r_has (by omega) hi]
  rfl
theorem r_mayJoin {m : MdS} {a : AC} (R : RM m a) {i : Nat} (hi : i < a_n a) : mo_Md_mayJoin m (nI i) = some (p_mj a i) := by
  have hn := R.1.1
  have h6 := pow6 hn
  have hb := R.1.2.2.2.2
  have hle : a_b a &&& a_L a i ≤ a_b a := Nat.and_le_left
  have e1 : (nI (a_b a &&& a_L a i) = nI (a_b a)) ↔ a_b a &&& a_L a i = a_b a := nI_eq (by omega) (by omega)
  have e2 : (a_b a &&& a_L a i = a_b a) ↔ p_an (a_b a) (a_L a i) = 0 := by
    unfold p_an
    constructor
    · intro h; rw [h, Nat.xor_self]
    · intro h
      apply p_bit_ext
      intro j
      have h1 : (a_b a ^^^ (a_b a &&& a_L a i)).testBit j = false := by rw [h]; simp
      rw [Nat.testBit_xor, Nat.testBit_and] at h1
      rw [Nat.testBit_and]
      cases h2 : (a_b a).testBit j <;> cases h3 : (a_L a i).testBit j <;> simp_all
  rw [mo_Md_mayJoin, r_isIn R (by omega)]
  simp only [Option.bind_some, p_mj]
  cases (a_b a).testBit i
  · rw [R.inn, r_liking R hi (by omega)]
    simp only [cond_false, Option.bind_some, e1, e2]
    by_cases g : p_an (a_b a) (a_L a i) = 0 <;> simp [g]
  · rfl
