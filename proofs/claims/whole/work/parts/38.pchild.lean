/-! pure: child, mark, rule -/
theorem Rel.ac {s : NjS} {m : MdS} (h : Rel s m) : ∃ a, RC (nj_club s) a ∧ RM m a ∧ WB a := by
  obtain ⟨a, ⟨h1, h2, h3, h4⟩, h5, h6, h7⟩ := h.2.2.1
  exact ⟨a, h1, ⟨h1.wa, h5, h6, h2⟩, h3⟩
def p_bc (S : Nat) : Nat := p_sm (fun i => if S.testBit i then 1 else 0) 6
theorem p_bc_le (S : Nat) : p_bc S ≤ 6 := by
  have := p_sm_bound (f := fun i => if S.testBit i then 1 else 0) (c := 1) (n := 6) (fun k _ => by
    show (if S.testBit k then 1 else 0) ≤ 1
    split <;> omega)
  unfold p_bc
  omega
theorem c_bits : ∀ S, S < 64 → mo_Integer_bitCount (nI S) = some (nI (p_bc S)) := by decide +kernel
theorem r_bits {S : Nat} (hS : S < 64) : mo_Md_bits (nI S) = some (nI (p_bc S)) := by
  have h := pu_loop (fun f v i => lo_Md_bits_4 (nI S) f v i) 6 (fun k => nI (p_sm (fun i => if S.testBit i then 1 else 0) k)) (some (nI (p_bc S)))
    (fun f => by
      have e0 : (6 : Int32) ≤ nI 6 := nI_le (Nat.le_refl 6) (by decide)
      rw [lo_Md_bits_4, if_pos e0]
      rfl)
    (fun f k hk => by
      have e2 : ¬ ((6 : Int32) ≤ nI k) := nI_ge hk (by decide)
      rw [lo_Md_bits_4, if_neg e2, pu_shr (by omega) (by omega), nI_add, nI_1]
      rfl)
    6 nj_fu 0 (by omega) (pu_fu (by omega))
  have h2 : lo_Md_bits_4 (nI S) nj_fu 0 0 = some (nI (p_bc S)) := h
  rw [mo_Md_bits, h2]
  rfl
theorem c_isChild {s : NjS} {a : AC} (R : RC (nj_club s) a) (x : Int32) : mo_Nj_isChild s x = some (decide (0 ≤ x) && decide (x < nI (a_n a))) := by
  have hn := R.1.1
  rw [mo_Nj_isChild, R.1.2]
  exact c_range x (a_n a) (by omega)
theorem r_isChild {m : MdS} {a : AC} (R : RM m a) (x : Int32) : mo_Md_isChild m x = some (decide (0 ≤ x) && decide (x < nI (a_n a))) := by
  have hn := R.1.1
  rw [mo_Md_isChild, R.2.1, r_inN x (by omega)]
  rfl
theorem pu_sh0 : ∀ j, j < 31 → (0 : Int32) <<< (nI j &&& 31) = 0 := by decide +kernel
theorem c_likingsOf {c : CluS} {a : AC} (R : RC c a) {i : Nat} (hi : i < 31) : mo_Club_likingsOf c (nI i) = some (nI (p_lk a i)) := by
  have hn := R.1.1
  have hc := R.1.2
  have h6 := pow6 hn
  have h := pu_loop (fun f v j => lo_Club_likingsOf_4 c (nI i) f v j) (a_n a) (fun k => nI (p_mk (fun k => (a_L a k).testBit i) k)) (some (nI (p_lk a i)))
    (fun f => by rw [lo_Club_likingsOf_4, hc, if_pos (nI_le (Nat.le_refl _) (by omega))]; rfl)
    (fun f k hk => by
      have hL := R.2.2.2.1 k hk
      rw [lo_Club_likingsOf_4, hc, if_neg (nI_ge hk (by omega)), pu_in_t (by omega : k < 6) (by decide), pu_n (by omega), hL.1, pu_shr (by omega) hi, nI_1, ← p_or0 _ k (by omega)]
      cases (a_L a k).testBit i
      · have := pu_sh0 k (by omega)
        simp only [cond_true]
        show lo_Club_likingsOf_4 c (nI i) f (_ ||| (0 : Int32) <<< (nI k &&& 31)) _ = _
        rw [this]
        rfl
      · rfl)
    (a_n a) nj_fu 0 (by omega) (pu_fu (by omega))
  have h2 : lo_Club_likingsOf_4 c (nI i) nj_fu 0 0 = some (nI (p_lk a i)) := h
  rw [mo_Club_likingsOf, h2]
  rfl
theorem pu_full {n : Nat} (hn : n ≤ 6) : ((1 : Int32) <<< (nI n &&& 31)) - 1 = nI (2 ^ n - 1) := by
  rw [pu_sh n (by omega)]
  exact pk_sub (b := 1) (Nat.one_le_two_pow)
theorem full_bit (n i : Nat) : (2 ^ n - 1 : Nat).testBit i = decide (i < n) := Nat.testBit_two_pow_sub_one n i
theorem full_and {n L : Nat} (hL : L < 2 ^ n) : (2 ^ n - 1) &&& L = L := by
  apply p_bit_ext
  intro i
  rw [Nat.testBit_and, full_bit]
  by_cases g : i < n
  · simp [g]
  · have : L.testBit i = false := Nat.testBit_lt_two_pow (Nat.lt_of_lt_of_le hL (Nat.pow_le_pow_right (by decide) (by omega)))
    simp [this]
theorem r_likedBy {m : MdS} {a : AC} (R : RM m a) {i : Nat} (hi : i < a_n a) : mo_Md_likedBy m (nI i) = some (nI (a_L a i)) := by
  have hn := R.1.1
  have h6 := pow6 hn
  rw [mo_Md_likedBy, R.2.1, pu_full hn, r_liking R hi (by omega), full_and (R.1.2.2.1 i hi)]
  rfl
theorem e9 (i : Nat) : (9 : Int32) + nI i = nI (9 + i) := nI_add 9 i
theorem e3 (i : Nat) : (3 : Int32) + nI i = nI (3 + i) := nI_add 3 i
theorem f_value {c : CluS} {m : MdS} {a : AC} (R : RC c a) (Q : RM m a) {i k : Nat} (hi : i < a_n a) (hk : k < 6) : ∃ v, mo_Club_valueOf c (nI i) (nI k) = some v ∧ mo_Md_toldOf m (nI i) (nI k) = some v := by
  have hn := R.1.1
  rw [mo_Club_valueOf, mo_Md_toldOf, c_votesOf R hi, r_votes Q hi, c_likingsOf R (by omega : i < 31), r_likedBy Q hi, e9, e3, pu_in_t (by omega : i < 6) (by decide), pu_in_t (by omega : 9 + i < 2304) (by decide), pu_in_t (by omega : 3 + i < 2304) (by decide), pu_n (by omega), pu_n (by omega), pu_n (by omega), (R.2.1 i hi).1, R.2.2.1 i hi, (R.2.2.2.1 i hi).1, R.2.2.2.2.2.1.1, Q.2.2.1 i hi, Q.pen hi, Q.lik hi, Q.inn]
  match k, hk with
  | 0, _ => exact ⟨_, rfl, rfl⟩
  | 1, _ => exact ⟨_, rfl, rfl⟩
  | 2, _ => exact ⟨_, rfl, rfl⟩
  | 3, _ => exact ⟨_, rfl, rfl⟩
  | 4, _ => exact ⟨_, rfl, rfl⟩
  | 5, _ => exact ⟨_, rfl, rfl⟩
theorem Rel.an {s : NjS} {m : MdS} (h : Rel s m) (v : Int32) : Rel (ns_an s v) (ms_asked m v) := ⟨h.1, h.2.1, h.2.2.1, h.2.2.2.1, rfl, h.2.2.2.2.2⟩
theorem c_range2 {α : Type} (x : Int32) (n : Nat) (hn : n < 2 ^ 31) (A B : α) : (if x < 0 then A else if x < nI n then B else A) = if (decide (0 ≤ x) && decide (x < nI n)) = true then B else A := by
  by_cases g1 : x < 0
  · have : ¬ 0 ≤ x := (fa_of_lt g1).2.1
    simp [g1, this]
  · have h1 : 0 ≤ x := fa_of_nlt g1
    by_cases g2 : x < nI n
    · simp [g1, g2, h1]
    · simp [g1, g2]
theorem op_child {s : NjS} {m : MdS} (h : Rel s m) (x y : Int32) : Same (mo_Nj_child s x y) (mo_Md_child m x y) := by
  obtain ⟨a, R, Q, W⟩ := h.ac
  have hn := R.1.1
  have h6 : mo_Md_in (Int32.toInt64 y) (0 : Int64) (5 : Int64) = some (decide ((0 : Int32) ≤ y) && decide (y < nI 6)) := by
    have h : mo_Md_in (Int32.toInt64 y) (0 : Int64) (5 : Int64) = some (decide ((0 : Int32) ≤ y) && decide (y ≤ (5 : Int32))) := r_in y 0 5
    rw [h]
    have e : (y ≤ (5 : Int32)) ↔ y < nI 6 := pu_lt1 y 5 (by decide)
    simp only [e]
  rw [mo_Nj_child, mo_Md_child, c_isChild R, r_isChild Q, h6]
  simp only [Option.bind_some]
  rcases in_or x (a_n a) (by omega) with ⟨i, hi, rfl, hb⟩ | hb
  · rw [hb]
    simp only [cond_true]
    have h7 := c_range2 y 6 (by decide) (some ((-1 : Int32), s)) ((mo_Club_valueOf (nj_club s) (nI i) y).bind (fun w3 => (some ((1 : Int32), (ns_an s w3)))))
    have h8 : (if y < 0 then (some ((-1 : Int32), s)) else (if y < (6 : Int32) then ((mo_Club_valueOf (nj_club s) (nI i) y).bind (fun w3 => (some ((1 : Int32), (ns_an s w3))))) else (some ((-1 : Int32), s)))) = _ := h7
    rw [h8]
    rcases in_or y 6 (by decide) with ⟨k, hk, rfl, hb2⟩ | hb2
    · rw [hb2]
      obtain ⟨v, w1, w2⟩ := f_value R Q hi hk
      rw [w1, w2]
      exact Same.of (h.an v) 1
    · rw [hb2]
      exact Same.of h _
  · rw [hb]
    exact Same.of h _
theorem r_isOf {m : MdS} {a : AC} (R : RM m a) {i k : Nat} (hi : i < a_n a) (hk : k < 6) : mo_Md_isOf m (nI i) (nI k) = some (p_ik a i k) := by
  have hn := R.1.1
  have h1 := R.2.2.1 i hi
  have h2 := R.1.2.1 i hi
  have hi6 : i < 6 := by omega
  rw [mo_Md_isOf, pu_in_t hi6 (by decide), pu_n (by omega), h1]
  simp only [cond_true, p_ik]
  have e1 : (nI (a_K a i) = nI k) ↔ a_K a i = k := nI_eq (by omega) (by omega)
  have e2 : (nI k = (1 : Int32)) ↔ k = 1 := nI_eq (b := 1) (by omega) (by decide)
  have e3 : (nI (a_K a i) = (4 : Int32)) ↔ a_K a i = 4 := nI_eq (b := 4) (by omega) (by decide)
  simp only [e1, e2, e3]
  by_cases g1 : a_K a i = k
  · simp [g1]
  · by_cases g2 : k = 1
    · by_cases g3 : a_K a i = 4
      · simp [g1, g2, g3]
      · subst g2
        simp [g1, g3]
    · simp [g1, g2]
theorem f_mark3 (q : Int32) (h0 : 0 ≤ q.toInt) (h9 : q.toInt ≤ 9) : (if (0 : Int32) < (5 : Int32) - q then (5 : Int32) - q else 0) = if q ≤ 5 then (5 : Int32) - q else 0 := by
  obtain ⟨k, hk, rfl⟩ := nI_of2 (x := q) (M := 9) (n := 9) (by decide) (fun w => by have := (fa_lt q 0).1 w; have e : (0 : Int32).toInt = 0 := rfl; omega) (by rw [fa_le]; exact h9)
  exact (by decide +kernel : ∀ k, k < 10 → (if (0 : Int32) < (5 : Int32) - nI k then (5 : Int32) - nI k else 0) = if nI k ≤ 5 then (5 : Int32) - nI k else 0) k (by omega)
theorem f_mark {c : CluS} {m : MdS} {a : AC} (R : RC c a) (Q : RM m a) (W : WB a) {i k : Nat} (hi : i < a_n a) (hk1 : 1 ≤ k) (hk : k < 6) : ∃ v, mo_Club_markOf c (nI i) (nI k) = some v ∧ (if (nI k) = (1 : Int32) then ((mo_Md_votes m (nI i)).bind (fun w7 => (some ((w7 - (1 : Int32)), m)))) else (if (nI k) = (2 : Int32) then (bif nj_in ((9 : Int32) + (nI i)) 2304 then ((mo_Md_bits (((md_row m) (nj_n ((9 : Int32) + (nI i)))) &&& (((md_row m) 1) &&& (((1 : Int32) <<< ((nI i) &&& 31)) ^^^ (-1 : Int32))))).bind (fun w11 => (some (w11, m)))) else none) else (if (nI k) = (3 : Int32) then (bif nj_in ((3 : Int32) + (nI i)) 2304 then (if ((md_row m) (nj_n ((3 : Int32) + (nI i)))) ≤ (5 : Int32) then (bif nj_in ((3 : Int32) + (nI i)) 2304 then (some (((5 : Int32) - ((md_row m) (nj_n ((3 : Int32) + (nI i))))), m)) else none) else (some ((0 : Int32), m))) else none) else (if (nI k) = (4 : Int32) then ((mo_Md_likedBy m (nI i)).bind (fun w17 => ((mo_Md_bits ((((md_row m) 1) &&& (((1 : Int32) <<< ((nI i) &&& 31)) ^^^ (-1 : Int32))) &&& (w17 ^^^ (-1 : Int32)))).bind (fun w19 => (some (w19, m)))))) else ((mo_Md_liking m (nI i) ((md_row m) 1)).bind (fun w22 => ((mo_Md_bits w22).bind (fun w24 => (some (w24, m)))))))))) = some (v, m) := by
  have hn := R.1.1
  have h6 := pow6 hn
  have hb := Q.1.2.2.2.2
  have hL := Q.1.2.2.1 i hi
  have s2 : p_lk a i &&& p_an (a_b a) (2 ^ i) = a_b a &&& p_lk a i := by
    apply p_bit_ext
    intro j
    rw [Nat.testBit_and, Nat.testBit_and, p_an_bit, p_lk_bit]
    by_cases g : j = i
    · subst g
      have := W.2.2 j hi
      simp [this]
    · have : (2 ^ i : Nat).testBit j = false := by rw [Nat.testBit_two_pow]; simp; omega
      rw [this, Bool.not_false, Bool.and_true, Bool.and_comm]
  have s4 : p_an (p_an (a_b a) (2 ^ i)) (a_L a i) = p_an (p_an (a_b a) (a_L a i)) (2 ^ i) := by
    apply p_bit_ext
    intro j
    rw [p_an_bit, p_an_bit, p_an_bit, p_an_bit]
    cases (a_b a).testBit j <;> cases (a_L a i).testBit j <;> cases (2 ^ i : Nat).testBit j <;> rfl
  have b1 : a_b a &&& p_lk a i < 64 := Nat.lt_of_le_of_lt Nat.and_le_left (by omega)
  have b2 : a_b a &&& a_L a i < 64 := Nat.lt_of_le_of_lt Nat.and_le_left (by omega)
  have b3 : p_an (p_an (a_b a) (a_L a i)) (2 ^ i) < 2 ^ 6 := p_an_le _ _ (p_an_le _ _ (by omega))
  rw [mo_Club_markOf, c_votesOf R hi, r_votes Q hi, c_likingsOf R (by omega : i < 31), r_likedBy Q hi, e9, e3, pu_in_t (by omega : i < 6) (by decide), pu_in_t (by omega : 9 + i < 2304) (by decide), pu_in_t (by omega : 3 + i < 2304) (by decide), pu_n (by omega), pu_n (by omega), pu_n (by omega), R.2.2.1 i hi, (R.2.2.2.1 i hi).1, R.2.2.2.2.2.1.1, Q.pen hi, Q.lik hi, Q.inn, r_liking Q hi (by omega)]
  simp only [Option.bind_some, cond_true]
  rw [pu_sh i (by omega), p_an_nI, p_an_nI, p_an_nI, p_an_nI, fa_and, fa_and, fa_and, s2, s4, c_bits _ b1, c_bits _ b2, c_bits _ b3, r_bits b1, r_bits b2, r_bits b3, f_mark3 _ (W.2.1 i hi).1 (W.2.1 i hi).2]
  match k, hk1, hk with
  | 1, _, _ => exact ⟨_, rfl, rfl⟩
  | 2, _, _ => exact ⟨_, rfl, rfl⟩
  | 3, _, _ =>
    by_cases g : a_P a i ≤ 5
    · rw [if_pos g, if_pos g]; exact ⟨_, rfl, rfl⟩
    · rw [if_neg g, if_neg g]; exact ⟨_, rfl, rfl⟩
  | 4, _, _ => exact ⟨_, rfl, rfl⟩
  | 5, _, _ => exact ⟨_, rfl, rfl⟩
theorem op_mark {s : NjS} {m : MdS} (h : Rel s m) (x y : Int32) : Same (mo_Nj_mark s x y) (mo_Md_mark m x y) := by
  obtain ⟨a, R, Q, W⟩ := h.ac
  have hn := R.1.1
  have h6 : mo_Md_in (Int32.toInt64 y) (1 : Int64) (5 : Int64) = some (decide ((1 : Int32) ≤ y) && decide (y ≤ (5 : Int32))) := r_in y 1 5
  rw [mo_Nj_mark, mo_Md_mark, c_isChild R, r_isChild Q, h6]
  simp only [Option.bind_some]
  rcases in_or x (a_n a) (by omega) with ⟨i, hi, rfl, hb⟩ | hb
  · rw [hb]
    simp only [cond_true]
    by_cases g1 : y < 1
    · have : ¬ (1 : Int32) ≤ y := (fa_of_lt g1).2.1
      rw [if_pos g1, decide_eq_false this]
      exact Same.of h _
    · have g1' : (1 : Int32) ≤ y := fa_of_nlt g1
      rw [if_neg g1, decide_eq_true g1']
      by_cases g2 : y ≤ 5
      · rw [if_pos g2, decide_eq_true g2]
        simp only [Bool.and_self, cond_true]
        obtain ⟨k, hk, rfl⟩ := nI_of2 (x := y) (M := 5) (n := 5) (by decide) (fun w => by
          have h1 := (fa_lt y 0).1 w
          have h2 := (fa_le 1 y).1 g1'
          have e : (0 : Int32).toInt = 0 := rfl
          have e' : (1 : Int32).toInt = 1 := rfl
          omega) g2
        have hk1 : 1 ≤ k := (nI_leI (a := 1) (by decide) (by omega)).1 g1'
        rw [c_isOfKind R hi (by omega), r_isOf Q hi (by omega)]
        simp only [Option.bind_some]
        cases p_ik a i k
        · exact (f_found h 3 (by decide)).b
        · obtain ⟨v, w1, w2⟩ := f_mark R Q W hi hk1 (by omega)
          simp only [cond_true]
          rw [w1, w2]
          exact Same.of h v
      · rw [if_neg g2, decide_eq_false g2]
        exact Same.of h _
  · rw [hb]
    exact Same.of h _
