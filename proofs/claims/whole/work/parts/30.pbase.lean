/-! pure: numbers, bits, loops -/
theorem pu_in {k : Nat} (hk : k < 2 ^ 31) (n : Nat) : nj_in (nI k) n = decide (k < n) := by
  have h1 : ¬ nI k < 0 := nI_pos hk
  have h2 := nI_clamp hk
  by_cases h : k < n
  · have h3 : ¬ n ≤ k := by omega
    simp [nj_in, h1, h2, h, h3]
  · have h3 : n ≤ k := by omega
    simp [nj_in, h2, h, h3]
theorem pu_in_t {k n : Nat} (h : k < n) (hn : n < 2 ^ 31) : nj_in (nI k) n = true := by
  rw [pu_in (by omega)]; simp [h]
theorem pu_n {k : Nat} (hk : k < 2 ^ 31) : nj_n (nI k) = k := nI_clamp hk
theorem pu_sh : ∀ j, j < 31 → (1 : Int32) <<< (nI j &&& 31) = nI (2 ^ j) := by decide +kernel
/-- a loop that counts up: its state at each turn is F -/
theorem pu_loop {σ α : Type} (lo : Nat → σ → Int32 → α) (N : Nat) (F : Nat → σ) (r : α) (hx : ∀ n, lo (n + 1) (F N) (nI N) = r) (hs : ∀ n k, k < N → lo (n + 1) (F k) (nI k) = lo n (F (k + 1)) (nI (k + 1))) :
    ∀ (d n k : Nat), k + d = N → d < n → lo n (F k) (nI k) = r := by
  intro d
  induction d with
  | zero =>
    intro n k hk hn
    obtain ⟨n, rfl⟩ : ∃ z, n = z + 1 := ⟨n - 1, by omega⟩
    have : k = N := by omega
    subst this
    exact hx n
  | succ d ih =>
    intro n k hk hn
    obtain ⟨n, rfl⟩ : ∃ z, n = z + 1 := ⟨n - 1, by omega⟩
    rw [hs n k (by omega)]
    exact ih n (k + 1) (by omega) (by omega)
theorem pu_fu {d : Nat} (h : d ≤ 600) : d < nj_fu := by unfold nj_fu; omega
-- sets as numbers
def p_an (x y : Nat) : Nat := x ^^^ (x &&& y)
theorem p_an_bit (x y i : Nat) : (p_an x y).testBit i = (x.testBit i && !y.testBit i) := by
  simp only [p_an, Nat.testBit_xor, Nat.testBit_and]
  cases x.testBit i <;> cases y.testBit i <;> rfl
theorem p_an_nI (x y : Nat) : nI x &&& (nI y ^^^ (-1)) = nI (p_an x y) := by
  apply Int32.toBitVec_inj.1
  show BitVec.ofNat 32 x &&& (BitVec.ofNat 32 y ^^^ (-1 : Int32).toBitVec) = BitVec.ofNat 32 (p_an x y)
  apply BitVec.eq_of_getLsbD_eq
  intro i hi
  have h1 : (-1 : Int32).toBitVec = BitVec.allOnes 32 := by decide
  rw [h1, BitVec.getLsbD_and, BitVec.getLsbD_xor, BitVec.getLsbD_allOnes, BitVec.getLsbD_ofNat, BitVec.getLsbD_ofNat, BitVec.getLsbD_ofNat, p_an_bit]
  simp only [hi, decide_true, Bool.true_and, Bool.xor_true]
theorem p_an_le (x y : Nat) {n : Nat} (h : x < 2 ^ n) : p_an x y < 2 ^ n := by
  apply Nat.lt_pow_two_of_testBit
  intro i hi
  rw [p_an_bit, Nat.testBit_lt_two_pow (Nat.lt_of_lt_of_le h (Nat.pow_le_pow_right (by decide) hi))]
  rfl
def p_mk (f : Nat → Bool) : Nat → Nat
  | 0 => 0
  | k + 1 => if f k then p_mk f k ||| 2 ^ k else p_mk f k
theorem p_mk_bit (f : Nat → Bool) (n i : Nat) : (p_mk f n).testBit i = (decide (i < n) && f i) := by
  induction n with
  | zero => simp [p_mk]
  | succ n ih =>
    rw [p_mk]
    by_cases hf : f n = true
    · rw [if_pos hf, fb_bit_set, ih]
      by_cases h1 : i = n
      · subst h1; simp [hf]
      · have h2 : (i < n + 1) ↔ i < n := by omega
        simp [h1, h2]
    · rw [if_neg hf, ih]
      by_cases h1 : i = n
      · subst h1; simp [hf]
      · have h2 : (i < n + 1) ↔ i < n := by omega
        simp [h2]
theorem p_mk_lt (f : Nat → Bool) (n : Nat) : p_mk f n < 2 ^ n := by
  apply Nat.lt_pow_two_of_testBit
  intro i hi
  rw [p_mk_bit]
  have : ¬ i < n := by omega
  simp [this]
theorem p_bit_ext {x y : Nat} (h : ∀ i, x.testBit i = y.testBit i) : x = y := Nat.eq_of_testBit_eq h
/-- one bit, as the two programs ask for it -/
theorem pu_and (S j : Nat) (hj : j < 31) : (nI S &&& ((1 : Int32) <<< (nI j &&& 31)) = 0) ↔ S.testBit j = false := by
  rw [pu_sh j hj]; exact fa_bit hj
theorem pu_shr {S j : Nat} (hS : S < 2 ^ 31) (hj : j < 31) : (nI S >>> (nI j &&& 31)) &&& 1 = nI (if S.testBit j then 1 else 0) := by
  have h1 : ((nI j &&& 31 : Int32).toBitVec.smod 32).toNat = j := (by decide +kernel : ∀ j, j < 31 → ((nI j &&& 31 : Int32).toBitVec.smod 32).toNat = j) j hj
  rw [pk_shrN hS (nI j &&& 31) j h1]
  show nI (S / 2 ^ j) &&& nI 1 = _
  rw [fa_and]
  congr 1
  rw [Nat.and_one_is_mod, Nat.testBit_eq_decide_div_mod_eq]
  have : S / 2 ^ j % 2 < 2 := Nat.mod_lt _ (by decide)
  by_cases h : S / 2 ^ j % 2 = 1
  · simp [h]
  · have : S / 2 ^ j % 2 = 0 := by omega
    simp [this]
-- sums
def p_sm (f : Nat → Nat) : Nat → Nat
  | 0 => 0
  | n + 1 => p_sm f n + f n
theorem p_sm_cong {f g : Nat → Nat} : ∀ {n : Nat}, (∀ k, k < n → f k = g k) → p_sm f n = p_sm g n
  | 0, _ => rfl
  | n + 1, h => by rw [p_sm, p_sm, p_sm_cong (fun k hk => h k (by omega)), h n (by omega)]
theorem p_sm_le {f g : Nat → Nat} : ∀ {n : Nat}, (∀ k, k < n → f k ≤ g k) → p_sm f n ≤ p_sm g n
  | 0, _ => Nat.le_refl _
  | n + 1, h => by
    have h1 := p_sm_le (n := n) (fun k hk => h k (by omega))
    have h2 := h n (by omega)
    rw [p_sm, p_sm]; omega
theorem p_sm_const (c n : Nat) : p_sm (fun _ => c) n = n * c := by
  induction n with
  | zero => simp [p_sm]
  | succ n ih => rw [p_sm, ih, Nat.succ_mul]
theorem p_sm_bound {f : Nat → Nat} {c n : Nat} (h : ∀ k, k < n → f k ≤ c) : p_sm f n ≤ n * c := by
  rw [← p_sm_const]; exact p_sm_le h
