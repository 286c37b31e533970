/-! pure: the ways, as the reference counts them -/
theorem or_gt : ∀ S, S < 64 → ∀ i, i < 6 → S.testBit i = false → S < S ||| 2 ^ i := by decide +kernel
theorem bc_or : ∀ S, S < 64 → ∀ i, i < 6 → S.testBit i = false → p_bc (S ||| 2 ^ i) = p_bc S + 1 := by decide +kernel
theorem or_lt {n S i : Nat} (hS : S < 2 ^ n) (hi : i < n) : S ||| 2 ^ i < 2 ^ n := Nat.or_lt_two_pow hS (Nat.pow_lt_pow_right (by decide) hi)
def p_fw (a : AC) (S i : Nat) : Bool := !S.testBit i && (p_out a (S ||| 2 ^ i)).testBit i
def p_wt (a : AC) : Nat → Nat → Nat
  | 0, _ => 0
  | k + 1, S => if S + k + 1 = 2 ^ a_n a then (if S = a_b a then 1 else 0) + p_sm (fun i => if p_fw a S i = true then p_wt a k (S ||| 2 ^ i) else 0) (a_n a) else p_wt a k S
/-- in how many orders it comes to S -/
def p_W (a : AC) (S : Nat) : Nat := p_wt a (2 ^ a_n a - S) S
theorem p_wt_W (a : AC) : ∀ k S, S < 2 ^ a_n a → 2 ^ a_n a - S ≤ k → p_wt a k S = p_W a S
  | 0, S, h1, h2 => by omega
  | k + 1, S, h1, h2 => by
    by_cases g : S + k + 1 = 2 ^ a_n a
    · unfold p_W
      have : 2 ^ a_n a - S = k + 1 := by omega
      rw [this]
    · rw [p_wt, if_neg g]
      exact p_wt_W a k S h1 (by omega)
def p_tw (a : AC) (S i : Nat) : Nat := if p_fw a S i = true then p_W a (S ||| 2 ^ i) else 0
theorem p_W_rec {a : AC} (hn : a_n a ≤ 6) {S : Nat} (hS : S < 2 ^ a_n a) : p_W a S = (if S = a_b a then 1 else 0) + p_sm (p_tw a S) (a_n a) := by
  have h6 := pow6 hn
  obtain ⟨k, hk⟩ : ∃ k, 2 ^ a_n a - S = k + 1 := ⟨2 ^ a_n a - S - 1, by omega⟩
  have e : p_W a S = p_wt a (k + 1) S := by unfold p_W; rw [hk]
  rw [e, p_wt, if_pos (by omega)]
  congr 1
  refine p_sm_cong (fun i hi => ?_)
  unfold p_tw
  by_cases g : p_fw a S i = true
  · have hb : S.testBit i = false := by
      unfold p_fw at g
      simp only [Bool.and_eq_true] at g
      simpa using g.1
    have := or_gt S (by omega) i (by omega) hb
    rw [if_pos g, if_pos g, p_wt_W a k _ (or_lt hS hi) (by omega)]
  · rw [if_neg g, if_neg g]
theorem an_or {S x b : Nat} (h : p_an (S ||| x) b = 0) : p_an S b = 0 := by
  refine p_bit_ext (fun j => ?_)
  have := congrArg (fun z => z.testBit j) h
  simp only [p_an_bit, Nat.zero_testBit, Nat.testBit_or] at this ⊢
  cases h1 : S.testBit j
  · simp
  · rw [h1] at this
    simpa using this
theorem p_an_self (x : Nat) : p_an x x = 0 := p_bit_ext (fun j => by rw [p_an_bit, Nat.zero_testBit]; cases x.testBit j <;> rfl)
theorem p_W_0 {a : AC} (hn : a_n a ≤ 6) : ∀ k S, 2 ^ a_n a - S ≤ k → S < 2 ^ a_n a → p_an S (a_b a) ≠ 0 → p_W a S = 0
  | 0, S, h1, h2, _ => by omega
  | k + 1, S, h1, h2, h3 => by
    have h6 := pow6 hn
    rw [p_W_rec hn h2, if_neg (fun q => h3 (by rw [q]; exact p_an_self _))]
    have : p_sm (p_tw a S) (a_n a) = p_sm (fun _ => 0) (a_n a) := p_sm_cong (fun i hi => by
      unfold p_tw
      by_cases g : p_fw a S i = true
      · have hb : S.testBit i = false := by
          unfold p_fw at g
          simp only [Bool.and_eq_true] at g
          simpa using g.1
        have := or_gt S (by omega) i (by omega) hb
        have hl := or_lt h2 hi
        rw [if_pos g, p_W_0 hn k (S ||| 2 ^ i) (by omega) hl (fun q => h3 (an_or q))]
      · rw [if_neg g])
    rw [this, p_sm_const]
    rfl
theorem p_W_le {a : AC} (hn : a_n a ≤ 6) (hb : a_b a < 2 ^ a_n a) : ∀ k S, 2 ^ a_n a - S ≤ k → S < 2 ^ a_n a → p_W a S ≤ 6 ^ (6 - p_bc S)
  | 0, S, h1, h2 => by omega
  | k + 1, S, h1, h2 => by
    have h6 := pow6 hn
    have hbc := p_bc_le S
    have hp : 0 < 6 ^ (6 - p_bc S) := Nat.pow_pos (by decide)
    rw [p_W_rec hn h2]
    by_cases gb : S = a_b a
    · have : p_sm (p_tw a S) (a_n a) = p_sm (fun _ => 0) (a_n a) := p_sm_cong (fun i hi => by
        unfold p_tw
        by_cases g : p_fw a S i = true
        · have hbi : S.testBit i = false := by
            unfold p_fw at g
            simp only [Bool.and_eq_true] at g
            simpa using g.1
          have hl := or_lt h2 hi
          rw [if_pos g, p_W_0 hn _ (S ||| 2 ^ i) (Nat.le_refl _) hl (fun q => by
            have := congrArg (fun z => z.testBit i) q
            rw [← gb] at this
            simp only [p_an_bit, Nat.testBit_or, Nat.testBit_two_pow_self, hbi, Nat.zero_testBit] at this
            simp at this)]
        · rw [if_neg g])
      rw [this, p_sm_const, if_pos gb]
      omega
    · rw [if_neg gb, Nat.zero_add]
      by_cases g5 : p_bc S ≤ 5
      · have h3 : p_sm (p_tw a S) (a_n a) ≤ a_n a * 6 ^ (5 - p_bc S) := p_sm_bound (fun i hi => by
          unfold p_tw
          by_cases g : p_fw a S i = true
          · have hbi : S.testBit i = false := by
              unfold p_fw at g
              simp only [Bool.and_eq_true] at g
              simpa using g.1
            have h4 := or_gt S (by omega) i (by omega) hbi
            have h5 := bc_or S (by omega) i (by omega) hbi
            have hl := or_lt h2 hi
            have := p_W_le hn hb k (S ||| 2 ^ i) (by omega) hl
            rw [h5] at this
            rw [if_pos g]
            have e : 6 - (p_bc S + 1) = 5 - p_bc S := by omega
            rw [e] at this
            exact this
          · rw [if_neg g]
            exact Nat.zero_le _)
        have h4 : a_n a * 6 ^ (5 - p_bc S) ≤ 6 * 6 ^ (5 - p_bc S) := Nat.mul_le_mul_right _ hn
        have e : 6 - p_bc S = (5 - p_bc S) + 1 := by omega
        rw [e, Nat.pow_succ]
        omega
      · have : p_sm (p_tw a S) (a_n a) = p_sm (fun _ => 0) (a_n a) := p_sm_cong (fun i hi => by
          unfold p_tw
          by_cases g : p_fw a S i = true
          · have hbi : S.testBit i = false := by
              unfold p_fw at g
              simp only [Bool.and_eq_true] at g
              simpa using g.1
            have h5 := bc_or S (by omega) i (by omega) hbi
            have := p_bc_le (S ||| 2 ^ i)
            omega
          · rw [if_neg g])
        rw [this, p_sm_const]
        omega
theorem p_W_b {a : AC} (hn : a_n a ≤ 6) (hb : a_b a < 2 ^ a_n a) {S : Nat} (hS : S < 2 ^ a_n a) : p_W a S ≤ 46656 := by
  have h1 := p_W_le hn hb _ S (Nat.le_refl _) hS
  have h2 : 6 ^ (6 - p_bc S) ≤ 6 ^ 6 := Nat.pow_le_pow_right (by decide) (by omega)
  have h3 : (6 : Nat) ^ 6 = 46656 := by decide
  omega
theorem updL_s (f : Nat → Int64) (k : Nat) (x : Int64) : vp_updL f k x k = x := by
  unfold vp_updL
  simp
theorem updL_n (f : Nat → Int64) {k j : Nat} (x : Int64) (h : j ≠ k) : vp_updL f k x j = f j := by
  unfold vp_updL
  simp [h]
theorem updL_updL (f : Nat → Int64) (k : Nat) (x y : Int64) : vp_updL (vp_updL f k x) k y = vp_updL f k y := by
  funext j
  by_cases g : j = k
  · rw [g, updL_s, updL_s]
  · rw [updL_n _ _ g, updL_n _ _ g, updL_n _ _ g]
theorem sc_wy (m : MdS) (o l : Nat → Int32) (w : Nat → Int64) (k : Nat) (x : Int64) : ms_ways (md_sc m o l w) (vp_updL (md_ways (md_sc m o l w)) k x) = md_sc m o l (vp_updL w k x) := rfl
theorem r_w146 {m : MdS} {a : AC} (Q : RM m a) {k : Nat} (hk : k < 2 ^ a_n a) (o l : Nat → Int32) (w : Nat → Int64) (x : Nat) (hx : x = if k = a_b a then 1 else 0) (ho : ∀ T, T < 2 ^ a_n a → o T = nI (p_out a T)) (hw : ∀ T, k < T → T < 2 ^ a_n a → w T = lN (p_W a T)) : lo_Md_layOuts_146 (nI k) nj_fu (md_sc m o l (vp_updL w k (lN x))) 0 = some (md_sc m o l (vp_updL w k (lN (p_W a k)))) := by
  have hn := Q.1.1
  have h6 := pow6 hn
  rw [p_W_rec hn hk, ← hx]
  have h := pu_loop (fun f (st : MdS) i => lo_Md_layOuts_146 (nI k) f st i) (a_n a) (fun j => md_sc m o l (vp_updL w k (lN (x + p_sm (p_tw a k) j)))) (some (md_sc m o l (vp_updL w k (lN (x + p_sm (p_tw a k) (a_n a))))))
    (fun f => by
      rw [lo_Md_layOuts_146, sc_c, Q.2.1, if_pos (nI_le (Nat.le_refl _) (by omega))])
    (fun f j hj => by
      have hl := or_lt hk hj
      have hol := p_out_lt hn (k ||| 2 ^ j)
      rw [lo_Md_layOuts_146, sc_c, sc_o, sc_w, Q.2.1, if_neg (nI_ge hj (by omega)), pu_in_t (by omega : k < 64) (by decide), pu_n (by omega : k < 2 ^ 31), r_has (by omega) (by omega), pu_sh j (by omega), fa_or, pu_in_t (by omega : k ||| 2 ^ j < 64) (by decide), pu_n (by omega : k ||| 2 ^ j < 2 ^ 31), ho _ hl, r_has (by omega) (by omega), nI_1 j, updL_s]
      simp only [cond_true, Option.bind_some]
      have key : (bif k.testBit j then some (0 : Int64) else (bif (p_out a (k ||| 2 ^ j)).testBit j then some (vp_updL w k (lN (x + p_sm (p_tw a k) j)) (k ||| 2 ^ j)) else some (0 : Int64))) = some (lN (p_tw a k j)) := by
        unfold p_tw p_fw
        cases hb : k.testBit j
        · have hgt := or_gt k (by omega) j (by omega) hb
          cases (p_out a (k ||| 2 ^ j)).testBit j
          · rfl
          · rw [updL_n _ _ (by omega), hw _ hgt hl]
            rfl
        · rfl
      rw [key]
      simp only [Option.bind_some]
      rw [lN_add, sc_way, updL_updL, p_sm, Nat.add_assoc])
    (a_n a) nj_fu 0 (by omega) (pu_fu (by omega))
  exact h
theorem i_m1 (x : Int32) : x + (-1) = x - 1 := by
  rw [Int32.sub_eq_add_neg]
theorem r_w119 {m : MdS} {a : AC} (Q : RM m a) (o l : Nat → Int32) (ho : ∀ T, T < 2 ^ a_n a → o T = nI (p_out a T)) : ∀ (k f : Nat) (w : Nat → Int64), k < f → k ≤ 2 ^ a_n a → (∀ T, k ≤ T → T < 2 ^ a_n a → w T = lN (p_W a T)) → ∃ w2, lo_Md_layOuts_119 f (md_sc m o l w) (nI k - 1) = some (md_sc m o l w2) ∧ ∀ T, T < 2 ^ a_n a → w2 T = lN (p_W a T) := by
  have hn := Q.1.1
  have h6 := pow6 hn
  have hb := Q.1.2.2.2.2
  intro k
  induction k with
  | zero =>
    intro f w hf hk hw
    obtain ⟨f, rfl⟩ : ∃ z, f = z + 1 := ⟨f - 1, by omega⟩
    have e : nI 0 - 1 < (0 : Int32) := by decide
    exact ⟨w, by rw [lo_Md_layOuts_119, if_pos e], fun T hT => hw T (by omega) hT⟩
  | succ k ih =>
    intro f w hf hk hw
    obtain ⟨f, rfl⟩ : ∃ z, f = z + 1 := ⟨f - 1, by omega⟩
    have e1 : nI (k + 1) - (1 : Int32) = nI k := pk_sub (b := 1) (by omega)
    have e2 : ¬ nI k < 0 := fun q => (fa_of_lt q).2.1 (nI_pos' (by omega))
    have e3 : (nI k = nI (a_b a)) ↔ k = a_b a := nI_eq (by omega) (by omega)
    have h3 := r_w146 Q (by omega : k < 2 ^ a_n a) o l w (if k = a_b a then 1 else 0) rfl ho (fun T h1 h2 => hw T (by omega) h2)
    obtain ⟨w2, t1, t2⟩ := ih f (vp_updL w k (lN (p_W a k))) (by omega) (by omega) (fun T h1 h2 => by
      by_cases g : T = k
      · rw [g, updL_s]
      · rw [updL_n _ _ g]
        exact hw T (by omega) h2)
    refine ⟨w2, ?_, t2⟩
    have key : (if nI k = nI (a_b a) then some (1 : Int64) else some (0 : Int64)) = some (lN (if k = a_b a then 1 else 0)) := by
      by_cases g : k = a_b a
      · rw [if_pos (e3.2 g), if_pos g]; rfl
      · rw [if_neg (fun q => g (e3.1 q)), if_neg g]; rfl
    rw [e1, lo_Md_layOuts_119, if_neg e2, sc_r, Q.inn, key, pu_in_t (by omega : k < 64) (by decide), pu_n (by omega : k < 2 ^ 31), i_m1]
    simp only [cond_true, Option.bind_some]
    rw [sc_wy, f_ob h3]
    exact t1
theorem r_layOuts {m : MdS} {a : AC} (Q : RM m a) : ∃ o l w, mo_Md_layOuts m = some (md_sc m o l w) ∧ ∀ T, T < 2 ^ a_n a → o T = nI (p_out a T) ∧ l T = nI (p_L a T) ∧ w T = lN (p_W a T) := by
  have hn := Q.1.1
  have h6 := pow6 hn
  obtain ⟨w2, t1, t2⟩ := r_w119 Q (q_set (fun S => nI (p_out a S)) (md_outOf m) (2 ^ a_n a)) (q_set (fun S => nI (p_L a S)) (md_longer m) (2 ^ a_n a)) (fun T hT => q_set_lt (fun S => nI (p_out a S)) (md_outOf m) hT) (2 ^ a_n a) nj_fu (md_ways m) (pu_fu (by omega)) (Nat.le_refl _) (fun T h1 h2 => by omega)
  refine ⟨_, _, w2, ?_, fun T hT => ⟨q_set_lt (fun S => nI (p_out a S)) (md_outOf m) hT, q_set_lt (fun S => nI (p_L a S)) (md_longer m) hT, t2 T hT⟩⟩
  rw [mo_Md_layOuts, f_ob (r_lay2 Q), sc_c, Q.2.1, pu_sh2 hn, f_ob t1]
