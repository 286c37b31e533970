/-! pure: the ways, as the class counts them -/
theorem or_an : ∀ S, S < 64 → ∀ i, i < 6 → S.testBit i = false → p_an (S ||| 2 ^ i) (2 ^ i) = S := by decide +kernel
theorem an_or2 : ∀ k, k < 64 → ∀ i, i < 6 → k.testBit i = true → p_an k (2 ^ i) ||| 2 ^ i = k ∧ (p_an k (2 ^ i)).testBit i = false := by decide +kernel
def p_tk (a : AC) (k S i : Nat) : Nat := if (p_fw a S i && decide (k < S ||| 2 ^ i)) = true then p_W a (S ||| 2 ^ i) else 0
/-- what the class holds of S before it goes on from k -/
def p_P (a : AC) (k S : Nat) : Nat := (if S = a_b a then 1 else 0) + p_sm (p_tk a k S) (a_n a)
theorem fw_out {a : AC} {S i : Nat} (g : p_fw a S i = true) : S.testBit i = false := by
  unfold p_fw at g
  simp only [Bool.and_eq_true] at g
  simpa using g.1
theorem p_P_0 {a : AC} (hn : a_n a ≤ 6) {S : Nat} (hS : S < 2 ^ a_n a) : p_P a 0 S = p_W a S := by
  have h6 := pow6 hn
  rw [p_W_rec hn hS]
  unfold p_P
  congr 1
  refine p_sm_cong (fun i hi => ?_)
  unfold p_tk p_tw
  cases g : p_fw a S i
  · rfl
  · have := or_gt S (by omega) i (by omega) (fw_out g)
    have h1 : decide (0 < S ||| 2 ^ i) = true := by simp only [decide_eq_true_eq]; omega
    rw [h1]
    rfl
theorem p_P_k {a : AC} (hn : a_n a ≤ 6) {k : Nat} (hk : k < 2 ^ a_n a) : p_P a k k = p_W a k := by
  have h6 := pow6 hn
  rw [p_W_rec hn hk]
  unfold p_P
  congr 1
  refine p_sm_cong (fun i hi => ?_)
  unfold p_tk p_tw
  cases g : p_fw a k i
  · rfl
  · have := or_gt k (by omega) i (by omega) (fw_out g)
    have h1 : decide (k < k ||| 2 ^ i) = true := by simp only [decide_eq_true_eq]; omega
    rw [h1]
    rfl
theorem p_P_b {a : AC} (hn : a_n a ≤ 6) {S : Nat} (hS : S < 2 ^ a_n a) : p_P a (a_b a) S = if S = a_b a then 1 else 0 := by
  have h6 := pow6 hn
  unfold p_P
  have : p_sm (p_tk a (a_b a) S) (a_n a) = p_sm (fun _ => 0) (a_n a) := p_sm_cong (fun i hi => by
    unfold p_tk
    by_cases g : (p_fw a S i && decide (a_b a < S ||| 2 ^ i)) = true
    · rw [if_pos g]
      simp only [Bool.and_eq_true, decide_eq_true_eq] at g
      exact p_W_0 hn _ _ (Nat.le_refl _) (or_lt hS hi) (fun q => by
        have := p_an_zero_le q
        omega)
    · rw [if_neg g])
  rw [this, p_sm_const]
  rfl
theorem p_P_le {a : AC} (hn : a_n a ≤ 6) (hb : a_b a < 2 ^ a_n a) (k : Nat) {S : Nat} (hS : S < 2 ^ a_n a) : p_P a k S ≤ 46656 := by
  refine Nat.le_trans ?_ (p_W_b hn hb hS)
  rw [p_W_rec hn hS]
  unfold p_P
  refine Nat.add_le_add_left (p_sm_le (fun i hi => ?_)) _
  unfold p_tk p_tw
  cases p_fw a S i
  · exact Nat.le_refl _
  · by_cases g : k < S ||| 2 ^ i
    · simp [g]
    · simp [g]
theorem p_sm_add (f g : Nat → Nat) : ∀ n, p_sm f n + p_sm g n = p_sm (fun i => f i + g i) n
  | 0 => rfl
  | n + 1 => by
    rw [p_sm, p_sm, p_sm, ← p_sm_add f g n]
    omega
def p_cx (a : AC) (k X S i : Nat) : Nat := if (X.testBit i && decide (S = p_an k (2 ^ i))) = true then p_W a k else 0
theorem p_P_s {a : AC} (hn : a_n a ≤ 6) {k X S : Nat} (hk : k + 1 < 2 ^ a_n a) (hS : S < 2 ^ a_n a) (hX : X = p_out a (k + 1) ∨ p_W a (k + 1) = 0) : p_P a (k + 1) S + p_sm (p_cx a (k + 1) X S) (a_n a) = p_P a k S := by
  have h6 := pow6 hn
  unfold p_P
  rw [Nat.add_assoc, p_sm_add]
  congr 1
  refine p_sm_cong (fun i hi => ?_)
  unfold p_tk p_cx
  by_cases gw : p_W a (k + 1) = 0
  · rw [gw]
    have e0 : (if (X.testBit i && decide (S = p_an (k + 1) (2 ^ i))) = true then 0 else 0) = 0 := by split <;> rfl
    rw [e0, Nat.add_zero]
    cases p_fw a S i
    · rfl
    · by_cases g : k + 1 < S ||| 2 ^ i
      · have g2 : k < S ||| 2 ^ i := by omega
        simp [g, g2]
      · by_cases g2 : k < S ||| 2 ^ i
        · have e : S ||| 2 ^ i = k + 1 := by omega
          simp [g2, e, gw]
        · simp [g, g2]
  · have hX2 : X = p_out a (k + 1) := by
      rcases hX with h | h
      · exact h
      · exact absurd h gw
    subst hX2
    by_cases gT : S ||| 2 ^ i = k + 1
    · have ht : ¬ (k + 1 < S ||| 2 ^ i) := by omega
      have ht2 : k < S ||| 2 ^ i := by omega
      rw [gT]
      have hfw : p_fw a S i = (!S.testBit i && (p_out a (k + 1)).testBit i) := by unfold p_fw; rw [gT]
      rw [hfw]
      cases hs : S.testBit i
      · have e := or_an S (by omega) i (by omega) hs
        rw [gT] at e
        cases (p_out a (k + 1)).testBit i
        · simp
        · simp [e]
      · cases ho : (p_out a (k + 1)).testBit i
        · simp
        · have e2 := (an_or2 (k + 1) (by omega) i (by omega) (p_out_in ho).2).2
          have : ¬ S = p_an (k + 1) (2 ^ i) := fun q => by
            rw [q, e2] at hs
            cases hs
          simp [this]
    · have e0 : (if ((p_out a (k + 1)).testBit i && decide (S = p_an (k + 1) (2 ^ i))) = true then p_W a (k + 1) else 0) = 0 := by
        cases ho : (p_out a (k + 1)).testBit i
        · rfl
        · have e2 := (an_or2 (k + 1) (by omega) i (by omega) (p_out_in ho).2).1
          have : ¬ S = p_an (k + 1) (2 ^ i) := fun q => by
            rw [← q] at e2
            exact gT e2
          simp [this]
      rw [e0, Nat.add_zero]
      have e3 : decide (k + 1 < S ||| 2 ^ i) = decide (k < S ||| 2 ^ i) := by
        by_cases g : k < S ||| 2 ^ i
        · have g2 : k + 1 < S ||| 2 ^ i := by omega
          simp [g, g2]
        · have g2 : ¬ k + 1 < S ||| 2 ^ i := by omega
          simp [g, g2]
      rw [e3]
theorem c_zero64 (c : CluS) (o : Nat → Int32) : lo_Orders_countPaths_2 c nj_fu o 0 = some (q_set (fun _ => 0) o 64) := by
  have h := pu_loop (fun f (st : Nat → Int32) i => lo_Orders_countPaths_2 c f st i) 64 (fun k => q_set (fun _ => 0) o k) (some (q_set (fun _ => 0) o 64))
    (fun f => by
      have e0 : (64 : Int32) ≤ nI 64 := nI_le (Nat.le_refl 64) (by decide)
      rw [lo_Orders_countPaths_2, if_pos e0])
    (fun f k hk => by
      have e0 : ¬ (64 : Int32) ≤ nI k := nI_ge (b := 64) hk (by omega)
      rw [lo_Orders_countPaths_2, if_neg e0, pu_in_t hk (by decide), pu_n (by omega), nI_1, ← q_set_s]
      rfl)
    64 nj_fu 0 (by omega) (pu_fu (by omega))
  rw [q_set_0] at h
  exact h
theorem c_push {c : CluS} {a : AC} (R : RC c a) {k X : Nat} (hk : k < 2 ^ a_n a) (hX : X < 64) (hx : ∀ i, X.testBit i = true → k.testBit i = true) : ∀ (d j f : Nat) (o : Nat → Int32), j + d = a_n a → d < f → (∀ S, S < 2 ^ a_n a → o S = nI (p_P a k S + p_sm (p_cx a k X S) j)) → ∃ o2, lo_Orders_countPaths_62 c (nI k) (nI X) f o (nI j) = some o2 ∧ ∀ S, S < 2 ^ a_n a → o2 S = nI (p_P a k S + p_sm (p_cx a k X S) (a_n a)) := by
  have hn := R.1.1
  have h6 := pow6 hn
  intro d
  induction d with
  | zero =>
    intro j f o hj hf ho
    obtain ⟨f, rfl⟩ : ∃ z, f = z + 1 := ⟨f - 1, by omega⟩
    have : j = a_n a := by omega
    subst this
    exact ⟨o, by rw [lo_Orders_countPaths_62, R.1.2, if_pos (nI_le (by omega) (by omega))], ho⟩
  | succ d ih =>
    intro j f o hj hf ho
    obtain ⟨f, rfl⟩ : ∃ z, f = z + 1 := ⟨f - 1, by omega⟩
    have e := pu_and X j (by omega)
    have hl2 : p_an k (2 ^ j) < 2 ^ a_n a := p_an_le _ _ hk
    rw [lo_Orders_countPaths_62, R.1.2, if_neg (nI_ge (by omega) (by omega)), nI_1 j]
    cases hb : X.testBit j
    · rw [if_pos (e.2 hb)]
      simp only [Option.bind_some]
      refine ih (j + 1) f o (by omega) (by omega) (fun S hS => ?_)
      rw [ho S hS, p_sm]
      have : p_cx a k X S j = 0 := by unfold p_cx; rw [hb]; rfl
      rw [this, Nat.add_zero]
    · rw [if_neg (fun q => by have := e.1 q; rw [hb] at this; cases this), pu_sh j (by omega), p_an_nI, pu_in_t (by omega : p_an k (2 ^ j) < 64) (by decide), pu_n (by omega : p_an k (2 ^ j) < 2 ^ 31), pu_in_t (by omega : k < 64) (by decide), pu_n (by omega : k < 2 ^ 31)]
      simp only [cond_true, Option.bind_some]
      have hkz : p_sm (p_cx a k X k) j = 0 := by
        have : p_sm (p_cx a k X k) j = p_sm (fun _ => 0) j := p_sm_cong (fun i hi => by
          unfold p_cx
          cases hbi : X.testBit i
          · rfl
          · have := an_lt k (by omega) i (by omega) (hx i hbi)
            have h2 : ¬ k = p_an k (2 ^ i) := by omega
            simp [h2])
        rw [this, p_sm_const]
        rfl
      have hok : o k = nI (p_W a k) := by
        rw [ho k hk, hkz, Nat.add_zero, p_P_k hn hk]
      refine ih (j + 1) f _ (by omega) (by omega) (fun S hS => ?_)
      by_cases g : S = p_an k (2 ^ j)
      · have : p_cx a k X S j = p_W a k := by unfold p_cx; rw [hb]; simp [g]
        rw [p_sm, this, ← Nat.add_assoc, ← nI_add, ← ho S hS, g, pk_us, hok]
      · have : p_cx a k X S j = 0 := by unfold p_cx; rw [hb]; simp [g]
        rw [p_sm, this, Nat.add_zero, ← ho S hS]
        exact pk_un g
theorem c_down {c : CluS} {a : AC} (R : RC c a) : ∀ (k f : Nat) (o : Nat → Int32), k < f → k < 2 ^ a_n a → (∀ S, S < 2 ^ a_n a → o S = nI (p_P a k S)) → ∃ o2, lo_Orders_countPaths_36 c f o (nI k) = some o2 ∧ ∀ S, S < 2 ^ a_n a → o2 S = nI (p_W a S) := by
  have hn := R.1.1
  have h6 := pow6 hn
  have hb := R.2.2.2.2.2.1.2
  intro k
  induction k with
  | zero =>
    intro f o hf hk ho
    obtain ⟨f, rfl⟩ : ∃ z, f = z + 1 := ⟨f - 1, by omega⟩
    have e : nI 0 ≤ (0 : Int32) := by decide
    exact ⟨o, by rw [lo_Orders_countPaths_36, if_pos e], fun S hS => by rw [ho S hS, p_P_0 hn hS]⟩
  | succ k ih =>
    intro f o hf hk ho
    obtain ⟨f, rfl⟩ : ∃ z, f = z + 1 := ⟨f - 1, by omega⟩
    have e1 : ¬ nI (k + 1) ≤ (0 : Int32) := nI_ge (b := k + 1) (a := 0) (by omega) (by omega)
    have e2 : nI (k + 1) - (1 : Int32) = nI k := pk_sub (b := 1) (by omega)
    have hok : o (k + 1) = nI (p_W a (k + 1)) := by rw [ho _ hk, p_P_k hn hk]
    have hWb := p_W_b hn hb hk
    obtain ⟨X, hX1, hX2, hX3, hX4⟩ : ∃ X, X < 64 ∧ (∀ i, X.testBit i = true → (k + 1).testBit i = true) ∧ (X = p_out a (k + 1) ∨ p_W a (k + 1) = 0) ∧ (if nI (p_W a (k + 1)) ≤ 0 then some (0 : Int32) else ((mo_Club_putOutOf c (nI (k + 1))).bind (fun w7 => (some w7)))) = some (nI X) := by
      by_cases g : p_W a (k + 1) = 0
      · refine ⟨0, by decide, fun i hi => ?_, Or.inr g, ?_⟩
        · rw [Nat.zero_testBit] at hi; cases hi
        · have : nI (p_W a (k + 1)) ≤ 0 := by rw [g]; decide
          rw [if_pos this]
          rfl
      · refine ⟨p_out a (k + 1), p_out_lt hn _, fun i hi => (p_out_in hi).2, Or.inl rfl, ?_⟩
        have : ¬ nI (p_W a (k + 1)) ≤ (0 : Int32) := nI_ge (a := 0) (by omega) (by omega)
        rw [if_neg this, c_putOutOf R]
        rfl
    obtain ⟨o2, t1, t2⟩ := c_push R hk hX1 hX2 (a_n a) 0 nj_fu o (by omega) (pu_fu (by omega)) (fun S hS => by rw [ho S hS]; rfl)
    obtain ⟨o3, u1, u2⟩ := ih f o2 (by omega) (by omega) (fun S hS => by rw [t2 S hS, p_P_s hn hk hS hX3])
    refine ⟨o3, ?_, u2⟩
    have t1' : lo_Orders_countPaths_62 c (nI (k + 1)) (nI X) nj_fu o 0 = some o2 := t1
    rw [lo_Orders_countPaths_36, if_neg e1, pu_in_t (by omega : k + 1 < 64) (by decide), pu_n (by omega : k + 1 < 2 ^ 31), hok, hX4]
    simp only [cond_true, Option.bind_some]
    rw [f_ob t1', i_m1, e2]
    exact u1
theorem c_paths {c : CluS} {a : AC} (R : RC c a) (o : Nat → Int32) : ∃ o2, mo_Orders_countPaths o c = some o2 ∧ ∀ S, S < 2 ^ a_n a → o2 S = nI (p_W a S) := by
  have hn := R.1.1
  have h6 := pow6 hn
  have hb := R.2.2.2.2.2.1.2
  obtain ⟨o2, t1, t2⟩ := c_down R (a_b a) nj_fu (upd (q_set (fun _ => 0) o 64) (a_b a) 1) (pu_fu (by omega)) hb (fun S hS => by
    rw [p_P_b hn hS]
    by_cases g : S = a_b a
    · rw [if_pos g, g, pk_us]
      rfl
    · rw [if_neg g, pk_un g, q_set_lt (fun _ => (0 : Int32)) o (by omega)]
      rfl)
  refine ⟨o2, ?_, t2⟩
  rw [mo_Orders_countPaths, f_ob (c_zero64 c o), R.2.2.2.2.2.1.1, pu_in_t (by omega : a_b a < 64) (by decide), pu_n (by omega : a_b a < 2 ^ 31)]
  simp only [cond_true]
  rw [f_ob t1]
theorem op_alone {s : NjS} {m : MdS} (h : Rel s m) : Same (mo_Nj_alone s) (mo_Md_alone m) := by
  obtain ⟨a, R, Q, W⟩ := h.ac
  have hn := R.1.1
  have h6 := pow6 hn
  have hb := Q.1.2.2.2.2
  obtain ⟨o2, t1, t2⟩ := c_paths R (nj_os s)
  obtain ⟨o, l, w, u1, u2⟩ := r_layOuts Q
  have hpw : ∀ i, i < a_n a → 2 ^ i < 2 ^ a_n a := fun i hi => Nat.pow_lt_pow_right (by decide) hi
  have hc := pu_loop (fun f (st : Int32) i => lo_Orders_lastOnes_9 o2 (nj_club s) f st i) (a_n a) (fun k => nI (p_mk (fun i => decide (0 < p_W a (2 ^ i))) k)) (some (nI (p_mk (fun i => decide (0 < p_W a (2 ^ i))) (a_n a))))
    (fun f => by rw [lo_Orders_lastOnes_9, R.1.2, if_pos (nI_le (Nat.le_refl _) (by omega))])
    (fun f k hk => by
      have hp := hpw k hk
      have hWb := p_W_b hn hb hp
      rw [lo_Orders_lastOnes_9, R.1.2, if_neg (nI_ge hk (by omega)), nI_1 k, pu_sh k (by omega), pu_in_t (by omega : 2 ^ k < 64) (by decide), pu_n (by omega : 2 ^ k < 2 ^ 31), t2 _ hp, p_mk]
      simp only [cond_true]
      by_cases g : p_W a (2 ^ k) = 0
      · have e : nI (p_W a (2 ^ k)) ≤ 0 := by rw [g]; decide
        rw [if_pos e, g]
        rfl
      · have e : ¬ nI (p_W a (2 ^ k)) ≤ (0 : Int32) := nI_ge (a := 0) (by omega) (by omega)
        have e2 : decide (0 < p_W a (2 ^ k)) = true := by simp only [decide_eq_true_eq]; omega
        rw [if_neg e, e2, fa_or]
        rfl)
    (a_n a) nj_fu 0 (by omega) (pu_fu (by omega))
  have hr := pu_loop (fun f (st : Int32) i => lo_Md_alone_8 (md_sc m o l w) f st i) (a_n a) (fun k => nI (p_mk (fun i => decide (0 < p_W a (2 ^ i))) k)) (some (nI (p_mk (fun i => decide (0 < p_W a (2 ^ i))) (a_n a))))
    (fun f => by rw [lo_Md_alone_8, sc_c, Q.2.1, if_pos (nI_le (Nat.le_refl _) (by omega))])
    (fun f k hk => by
      have hp := hpw k hk
      have hWb := p_W_b hn hb hp
      rw [lo_Md_alone_8, sc_c, Q.2.1, if_neg (nI_ge hk (by omega)), nI_1 k, pu_sh k (by omega), pu_in_t (by omega : 2 ^ k < 64) (by decide), pu_n (by omega : 2 ^ k < 2 ^ 31), sc_w, (u2 _ hp).2.2, p_mk]
      simp only [cond_true]
      by_cases g : p_W a (2 ^ k) = 0
      · have e : lN (p_W a (2 ^ k)) ≤ 0 := by rw [g]; decide
        have e0 : nI (p_mk (fun i => decide (0 < p_W a (2 ^ i))) k) ||| (0 : Int32) = nI (p_mk (fun i => decide (0 < p_W a (2 ^ i))) k ||| 0) := fa_or _ 0
        rw [if_pos e, g]
        simp only [Option.bind_some]
        rw [e0, Nat.or_zero]
        rfl
      · have e : ¬ lN (p_W a (2 ^ k)) ≤ (0 : Int64) := fun q => by
          have := (pk_lLE (a := p_W a (2 ^ k)) (b := 0) (by omega) (by decide)).1 q
          omega
        have e2 : decide (0 < p_W a (2 ^ k)) = true := by simp only [decide_eq_true_eq]; omega
        rw [if_neg e, e2]
        simp only [Option.bind_some]
        rw [fa_or]
        rfl)
    (a_n a) nj_fu 0 (by omega) (pu_fu (by omega))
  have hc2 : lo_Orders_lastOnes_9 o2 (nj_club s) nj_fu 0 0 = _ := hc
  have hr2 : lo_Md_alone_8 (md_sc m o l w) nj_fu 0 0 = _ := hr
  rw [mo_Nj_alone, mo_Md_alone, mo_Orders_lastOnes, f_ob t1, f_ob hc2, f_ob u1, f_ob hr2]
  exact ⟨_, _, _, rfl, rfl, h.1, h.2⟩
