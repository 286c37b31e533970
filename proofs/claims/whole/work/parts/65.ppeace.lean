/-! pure: peace -/
theorem po_cong (a : AC) (i S L L2 r : Nat) (h : ∀ j, S.testBit j = true → L.testBit j = L2.testBit j) : p_po a i S L r = p_po a i S L2 r := by
  have e1 : p_an S L = p_an S L2 := p_bit_ext (fun j => by
    rw [p_an_bit, p_an_bit]
    cases hs : S.testBit j
    · rfl
    · rw [h j hs])
  have e2 : p_an (p_an S (2 ^ i) &&& p_ak a 5) L = p_an (p_an S (2 ^ i) &&& p_ak a 5) L2 := p_bit_ext (fun j => by
    rw [p_an_bit, p_an_bit, Nat.testBit_and, p_an_bit]
    cases hs : S.testBit j
    · rfl
    · rw [h j hs])
  have e3 : p_an S (2 ^ i) &&& L = p_an S (2 ^ i) &&& L2 := p_bit_ext (fun j => by
    rw [Nat.testBit_and, Nat.testBit_and, p_an_bit]
    cases hs : S.testBit j
    · rfl
    · rw [h j hs])
  unfold p_po p_sis p_no p_ye
  rw [e1, e2, e3]
theorem tog_L (a : AC) (i k j t : Nat) : (a_L (a_tog a i k) j).testBit t = ((a_L a j).testBit t ^^ (decide (j = k) && decide (t = i))) := by
  show (if j = k then a_L a j ^^^ 2 ^ i else a_L a j).testBit t = _
  by_cases g : j = k
  · rw [if_pos g, Nat.testBit_xor]
    by_cases g2 : t = i
    · rw [g2, Nat.testBit_two_pow_self]
      simp [g]
    · rw [Nat.testBit_two_pow_of_ne (fun q => g2 q.symm)]
      simp [g2]
  · rw [if_neg g]
    simp [g]
def a_wL (a : AC) (L : Nat → Nat) : AC := (a_n a, a_K a, a_P a, L, a_r a, a_b a, a_t a)
theorem out_cong (a : AC) (L L2 : Nat → Nat) (h : ∀ j t, (a_b a).testBit j = true → (a_b a).testBit t = true → (L j).testBit t = (L2 j).testBit t) : p_out (a_wL a L) (a_b a) = p_out (a_wL a L2) (a_b a) := by
  refine p_bit_ext (fun j => ?_)
  rw [p_out_bit, p_out_bit]
  show (decide (j < a_n a) && ((a_b a).testBit j && p_po a j (a_b a) (L j) (a_r a))) = (decide (j < a_n a) && ((a_b a).testBit j && p_po a j (a_b a) (L2 j) (a_r a)))
  cases hj : (a_b a).testBit j
  · rfl
  · rw [po_cong a j (a_b a) (L j) (L2 j) (a_r a) (fun t ht => h j t hj ht)]
def a_tp (a : AC) (p : Nat) : AC := a_tog a (p / 6) (p % 6)
/-- a pair of two that are in -/
def p_ki (a : AC) (p : Nat) : Bool := !decide (p / 6 = p % 6) && ((a_b a).testBit (p / 6) && (a_b a).testBit (p % 6))
/-- a pair of two children -/
def p_kc (a : AC) (p : Nat) : Bool := (decide (p / 6 < a_n a) && decide (p % 6 < a_n a)) && !decide (p / 6 = p % 6)
theorem ki_kc {a : AC} (W : WA a) {p : Nat} (h : p_ki a p = true) : p_kc a p = true := by
  unfold p_ki at h
  unfold p_kc
  simp only [Bool.and_eq_true] at h ⊢
  have hb := W.2.2.2.2
  have lt : ∀ i, (a_b a).testBit i = true → i < a_n a := fun i hi => by
    rcases Nat.lt_or_ge i (a_n a) with q | q
    · exact q
    · have : (a_b a).testBit i = false := Nat.testBit_lt_two_pow (Nat.lt_of_lt_of_le hb (Nat.pow_le_pow_right (by decide) q))
      rw [this] at hi
      cases hi
  exact ⟨⟨decide_eq_true (lt _ h.2.1), decide_eq_true (lt _ h.2.2)⟩, h.1⟩
theorem ki_f {a : AC} {p j t : Nat} (h : p_ki a p = false) (hc : p_kc a p = true) (hj : (a_b a).testBit j = true) (ht : (a_b a).testBit t = true) : (decide (j = p % 6) && decide (t = p / 6)) = false := by
  by_cases g : j = p % 6
  · by_cases g2 : t = p / 6
    · exfalso
      unfold p_ki at h
      unfold p_kc at hc
      simp only [Bool.and_eq_true] at hc
      rw [← g, ← g2, hj, ht] at h
      rw [← g, ← g2] at hc
      rw [hc.2] at h
      cases h
    · simp [g2]
  · simp [g]
theorem irr1 {a : AC} {p : Nat} (h : p_ki a p = false) (hc : p_kc a p = true) : p_out (a_tp a p) (a_b a) = p_out a (a_b a) :=
  out_cong a (a_L (a_tp a p)) (a_L a) (fun j t hj ht => by
    show (a_L (a_tog a (p / 6) (p % 6)) j).testBit t = _
    rw [tog_L, ki_f h hc hj ht, Bool.xor_false])
theorem irr2 {a : AC} {p : Nat} (q : Nat) (h : p_ki a p = false) (hc : p_kc a p = true) : p_out (a_tp (a_tp a p) q) (a_b a) = p_out (a_tp a q) (a_b a) :=
  out_cong a (a_L (a_tp (a_tp a p) q)) (a_L (a_tp a q)) (fun j t hj ht => by
    show (a_L (a_tog (a_tog a (p / 6) (p % 6)) (q / 6) (q % 6)) j).testBit t = (a_L (a_tog a (q / 6) (q % 6)) j).testBit t
    rw [tog_L, tog_L, tog_L, ki_f h hc hj ht, Bool.xor_false])
theorem two_bits : ∀ X, X < 64 → 2 ≤ p_bc X → ∀ k, k < 6 → ∃ j, j < 6 ∧ j ≠ k ∧ X.testBit j = true := by decide +kernel
theorem prune {a : AC} (hn : a_n a ≤ 6) (h : 2 ≤ p_bc (p_out a (a_b a))) (q : Nat) : p_out (a_tp a q) (a_b a) ≠ 0 := by
  obtain ⟨j, h1, h2, h3⟩ := two_bits _ (p_out_lt hn (a_b a)) h (q % 6) (by omega)
  intro z
  have hb : (p_out (a_tp a q) (a_b a)).testBit j = true := by
    rw [p_out_bit] at h3 ⊢
    rw [← h3]
    show (decide (j < a_n a) && ((a_b a).testBit j && p_po a j (a_b a) (if j = q % 6 then a_L a j ^^^ 2 ^ (q / 6) else a_L a j) (a_r a))) = _
    rw [if_neg h2]
    rfl
  rw [z, Nat.zero_testBit] at hb
  cases hb
def p_g (ok : Nat → Bool) (a : AC) (q : Nat) : Bool := ok q && decide (p_out (a_tp a q) (a_b a) = 0)
def q_ff (g : Nat → Bool) : Nat → Nat → Option Nat
  | _, 0 => none
  | k, d + 1 => if g k = true then some k else q_ff g (k + 1) d
def q_fo (g : Nat → Option Nat) : Nat → Nat → Option Nat
  | _, 0 => none
  | k, d + 1 => match g k with
    | some x => some x
    | none => q_fo g (k + 1) d
def q_i (x : Option Nat) : Int32 := match x with
  | some q => nI q
  | none => -9
theorem q_ff_none {g : Nat → Bool} : ∀ {d k : Nat}, (∀ j, k ≤ j → j < k + d → g j = false) → q_ff g k d = none
  | 0, _, _ => rfl
  | d + 1, k, h => by
    rw [q_ff, h k (by omega) (by omega), if_neg (by decide)]
    exact q_ff_none (fun j h1 h2 => h j (by omega) (by omega))
theorem q_ff_some {g : Nat → Bool} : ∀ {d k q : Nat}, q_ff g k d = some q → k ≤ q ∧ q < k + d ∧ g q = true
  | 0, _, _, h => by cases h
  | d + 1, k, q, h => by
    rw [q_ff] at h
    by_cases g1 : g k = true
    · rw [if_pos g1] at h
      cases h
      exact ⟨Nat.le_refl _, by omega, g1⟩
    · rw [if_neg g1] at h
      obtain ⟨a1, a2, a3⟩ := q_ff_some h
      exact ⟨by omega, by omega, a3⟩
theorem q_ff_all {g : Nat → Bool} : ∀ {d k : Nat}, q_ff g k d = none → ∀ j, k ≤ j → j < k + d → g j = false
  | 0, _, _, j, h1, h2 => by omega
  | d + 1, k, h, j, h1, h2 => by
    rw [q_ff] at h
    by_cases g1 : g k = true
    · rw [if_pos g1] at h
      cases h
    · rw [if_neg g1] at h
      by_cases e : j = k
      · rw [e]; simpa using g1
      · exact q_ff_all h j (by omega) (by omega)
theorem q_ff_cong {f g : Nat → Bool} : ∀ {d k : Nat}, (∀ j, k ≤ j → j < k + d → f j = g j) → q_ff f k d = q_ff g k d
  | 0, _, _ => rfl
  | d + 1, k, h => by
    rw [q_ff, q_ff, h k (by omega) (by omega), q_ff_cong (f := f) (g := g) (fun j h1 h2 => h j (by omega) (by omega))]
theorem q_fo_cong {f g : Nat → Option Nat} : ∀ {d k : Nat}, (∀ j, k ≤ j → j < k + d → f j = g j) → q_fo f k d = q_fo g k d
  | 0, _, _ => rfl
  | d + 1, k, h => by
    rw [q_fo, q_fo, h k (by omega) (by omega), q_fo_cong (f := f) (g := g) (fun j h1 h2 => h j (by omega) (by omega))]
theorem q_fo_lt {g : Nat → Option Nat} {b : Nat} : ∀ {d k q : Nat}, q_fo g k d = some q → (∀ j, j < k + d → ∀ x, g j = some x → x < b) → q < b
  | 0, _, _, h, _ => by cases h
  | d + 1, k, q, h, hb => by
    rw [q_fo] at h
    cases hg : g k with
    | none =>
      rw [hg] at h
      exact q_fo_lt h (fun j hj x hx => hb j (by omega) x hx)
    | some y =>
      rw [hg] at h
      cases h
      exact hb k (by omega) q hg
theorem e_d6 {p : Nat} (hp : p < 36) : nI p / (6 : Int32) = nI (p / 6) := pk_div (d := 6) (by omega) (by decide) (by decide)
theorem e_r6 {p : Nat} (hp : p < 36) : nj_rem (nI p) (6 : Int32) = nI (p % 6) := pk_rem (d := 6) (by omega) (by decide) (by decide)
theorem c_pairIn {c : CluS} {a : AC} (R : RC c a) {p : Nat} (hp : p < 36) : mo_Peace_isPairIn c (nI p) = some (p_ki a p) := by
  have e : (nI (p / 6) = nI (p % 6)) ↔ p / 6 = p % 6 := nI_eq (by omega) (by omega)
  rw [mo_Peace_isPairIn, e_d6 hp, e_r6 hp, c_isIn R (by omega), c_isIn R (by omega)]
  unfold p_ki
  by_cases g : p / 6 = p % 6
  · rw [if_pos (e.2 g)]
    simp [g]
  · rw [if_neg (fun q => g (e.1 q))]
    cases (a_b a).testBit (p / 6) <;> cases (a_b a).testBit (p % 6) <;> simp [g]
theorem upd_self (f : Nat → Int32) {k : Nat} {x : Int32} (h : f k = x) : upd f k x = f := by
  funext j
  unfold upd
  by_cases g : j = k
  · rw [if_pos g, g, h]
  · rw [if_neg g]
theorem kc_lt {a : AC} {p : Nat} (h : p_kc a p = true) : p / 6 < a_n a ∧ p % 6 < a_n a ∧ p / 6 ≠ p % 6 := by
  unfold p_kc at h
  simp only [Bool.and_eq_true, decide_eq_true_eq, Bool.not_eq_true', decide_eq_false_iff_not] at h
  exact ⟨h.1.1, h.1.2, h.2⟩
theorem c_tog2 {c : CluS} {a : AC} (R : RC c a) {p : Nat} (hp : p < 36) (hc : p_kc a p = true) : ∃ c1, mo_Peace_toggle c (nI p) = some c1 ∧ RC c1 (a_tp a p) ∧ mo_Peace_toggle c1 (nI p) = some c := by
  obtain ⟨hi, hk, hne⟩ := kc_lt hc
  have R1 : RC (cs_liked c (upd (cl_liked c) (p % 6) (nI (a_L a (p % 6) ^^^ 2 ^ (p / 6))))) (a_tp a p) := R.tog hi
  refine ⟨_, ?_, R1, ?_⟩
  · rw [mo_Peace_toggle, e_d6 hp, e_r6 hp, c_toggle R hi hk]
    rfl
  · have t := c_toggle R1 (i := p / 6) (k := p % 6) hi hk
    have e : a_L (a_tp a p) (p % 6) ^^^ 2 ^ (p / 6) = a_L a (p % 6) := by
      show (if p % 6 = p % 6 then a_L a (p % 6) ^^^ 2 ^ (p / 6) else a_L a (p % 6)) ^^^ 2 ^ (p / 6) = _
      rw [if_pos rfl, Nat.xor_assoc, Nat.xor_self, Nat.xor_zero]
    have e2 : upd (cl_liked (cs_liked c (upd (cl_liked c) (p % 6) (nI (a_L a (p % 6) ^^^ 2 ^ (p / 6)))))) (p % 6) (nI (a_L a (p % 6))) = cl_liked c := by
      show upd (upd (cl_liked c) (p % 6) (nI (a_L a (p % 6) ^^^ 2 ^ (p / 6)))) (p % 6) (nI (a_L a (p % 6))) = cl_liked c
      rw [upd_upd, upd_self _ (R.2.2.2.1 _ hk).1]
    rw [e, e2] at t
    rw [mo_Peace_toggle, e_d6 hp, e_r6 hp, t]
    rfl
theorem c_fg {c : CluS} {a : AC} (R : RC c a) : ∀ (d p f : Nat), p + d = 36 → d < f → lo_Peace_firstGrudge_20 f c (nI p) = some (q_i (q_ff (p_g (p_ki a) a) p d), c) := by
  intro d
  induction d with
  | zero =>
    intro p f hp hf
    obtain ⟨f, rfl⟩ : ∃ z, f = z + 1 := ⟨f - 1, by omega⟩
    have e : (36 : Int32) ≤ nI p := nI_le (a := 36) (by omega) (by omega)
    rw [lo_Peace_firstGrudge_20, if_pos e]
    rfl
  | succ d ih =>
    intro p f hp hf
    obtain ⟨f, rfl⟩ : ∃ z, f = z + 1 := ⟨f - 1, by omega⟩
    have e : ¬ (36 : Int32) ≤ nI p := nI_ge (b := 36) (by omega) (by omega)
    have ih' := ih (p + 1) f (by omega) (by omega)
    rw [lo_Peace_firstGrudge_20, if_neg e, c_pairIn R (by omega), nI_1 p, ih', q_ff]
    simp only [Option.bind_some]
    cases hk : p_ki a p
    · have : p_g (p_ki a) a p = false := by unfold p_g; rw [hk]; rfl
      rw [this, if_neg (by decide)]
      rfl
    · obtain ⟨c1, t1, t2, t3⟩ := c_tog2 R (by omega : p < 36) (ki_kc R.wa hk)
      have hin : cl_inn c1 = nI (a_b a) := t2.2.2.2.2.2.1.1
      have hst : mo_Club_putOutOf c1 (nI (a_b a)) = some (nI (p_out (a_tp a p) (a_b a))) := c_putOutOf t2 (a_b a)
      have hol : p_out (a_tp a p) (a_b a) < 64 := p_out_lt (a := a_tp a p) R.1.1 (a_b a)
      have e0 : (nI (p_out (a_tp a p) (a_b a)) = 0) ↔ p_out (a_tp a p) (a_b a) = 0 := nI_eq (b := 0) (by omega) (by decide)
      have hg : p_g (p_ki a) a p = decide (p_out (a_tp a p) (a_b a) = 0) := by unfold p_g; rw [hk]; rfl
      rw [hg]
      simp only [cond_true]
      rw [f_ob t1, hin, f_ob hst, f_ob t3, ih']
      by_cases g : p_out (a_tp a p) (a_b a) = 0
      · rw [if_pos (e0.2 g), if_pos (decide_eq_true g)]
        rfl
      · rw [if_neg (fun q => g (e0.1 q)), if_neg (fun q => g (of_decide_eq_true q))]
theorem c_fg1 {c : CluS} {a : AC} (R : RC c a) {p : Nat} (hp : p ≤ 36) : mo_Peace_firstGrudge c (nI p) = some (q_i (q_ff (p_g (p_ki a) a) p (36 - p)), c) := by
  have hn := R.1.1
  have ho := p_out_lt hn (a_b a)
  have hbc := p_bc_le (p_out a (a_b a))
  have e : (nI (p_bc (p_out a (a_b a))) ≤ (1 : Int32)) ↔ p_bc (p_out a (a_b a)) ≤ 1 := nI_leI (b := 1) (by omega) (by decide)
  rw [mo_Peace_firstGrudge, R.2.2.2.2.2.1.1, f_ob (c_putOutOf R (a_b a)), f_ob (c_bits _ ho)]
  by_cases g : p_bc (p_out a (a_b a)) ≤ 1
  · rw [if_pos (e.2 g)]
    exact c_fg R (36 - p) p nj_fu (by omega) (pu_fu (by omega))
  · rw [if_neg (fun q => g (e.1 q)), q_ff_none (fun j h1 h2 => by
      unfold p_g
      have := prune hn (by omega : 2 ≤ p_bc (p_out a (a_b a))) j
      simp [this])]
    rfl
def p_h (ok : Nat → Bool) (a : AC) (v : Nat) : Option Nat := if ok v = true then (match q_ff (p_g ok (a_tp a v)) (v + 1) (36 - (v + 1)) with
  | some q => some (36 * v + q)
  | none => none) else none
theorem q_i_9 {q : Nat} (h : q < 2000) : ¬ nI q = (-9 : Int32) := fun e => by
  have h1 := congrArg Int32.toInt e
  rw [nI_toInt (by omega)] at h1
  have h2 : (-9 : Int32).toInt = -9 := by decide
  rw [h2] at h1
  omega
theorem c_ft {c : CluS} {a : AC} (R : RC c a) : ∀ (d v f : Nat), v + d = 36 → d < f → lo_Peace_firstTwoGrudges_2 f c (nI v) = some (q_i (q_fo (p_h (p_ki a) a) v d), c) := by
  intro d
  induction d with
  | zero =>
    intro v f hv hf
    obtain ⟨f, rfl⟩ : ∃ z, f = z + 1 := ⟨f - 1, by omega⟩
    have e : (36 : Int32) ≤ nI v := nI_le (a := 36) (by omega) (by omega)
    rw [lo_Peace_firstTwoGrudges_2, if_pos e]
    rfl
  | succ d ih =>
    intro v f hv hf
    obtain ⟨f, rfl⟩ : ∃ z, f = z + 1 := ⟨f - 1, by omega⟩
    have e : ¬ (36 : Int32) ≤ nI v := nI_ge (b := 36) (by omega) (by omega)
    have ih' := ih (v + 1) f (by omega) (by omega)
    rw [lo_Peace_firstTwoGrudges_2, if_neg e, c_pairIn R (by omega), nI_1 v, ih', q_fo]
    simp only [Option.bind_some]
    cases hk : p_ki a v
    · have : p_h (p_ki a) a v = none := by unfold p_h; rw [hk]; rfl
      rw [this]
      rfl
    · obtain ⟨c1, t1, t2, t3⟩ := c_tog2 R (by omega : v < 36) (ki_kc R.wa hk)
      have hf1 : mo_Peace_firstGrudge c1 (nI (v + 1)) = some (q_i (q_ff (p_g (p_ki a) (a_tp a v)) (v + 1) (36 - (v + 1))), c1) := c_fg1 t2 (by omega : v + 1 ≤ 36)
      simp only [cond_true]
      rw [f_ob t1, f_ob hf1, f_ob t3]
      cases hq : q_ff (p_g (p_ki a) (a_tp a v)) (v + 1) (36 - (v + 1)) with
      | none =>
        have : p_h (p_ki a) a v = none := by unfold p_h; rw [hk, hq]; rfl
        rw [this]
        have e9 : q_i none = -9 := rfl
        rw [if_pos e9, ih']
      | some q =>
        have hlt := q_ff_some hq
        have : p_h (p_ki a) a v = some (36 * v + q) := by unfold p_h; rw [hk, hq]; rfl
        have e9 : ¬ q_i (some q) = -9 := q_i_9 (by omega)
        have em : (36 : Int32) * nI v + q_i (some q) = nI (36 * v + q) := by
          have t : (36 : Int32) * nI v = nI (36 * v) := pk_mul 36 v
          rw [t]
          exact nI_add (36 * v) q
        rw [this, if_neg e9, em]
        rfl
theorem r_isGrudge {m : MdS} {a : AC} (Q : RM m a) {p : Nat} (hp : p < 36) : mo_Md_isGrudge m (nI p) = some (p_kc a p) := by
  have hn := Q.1.1
  have e : (nI (p / 6) = nI (p % 6)) ↔ p / 6 = p % 6 := nI_eq (by omega) (by omega)
  have ch : ∀ i, i < 6 → (decide ((0 : Int32) ≤ nI i) && decide (nI i < nI (a_n a))) = decide (i < a_n a) := fun i hi => by
    have h1 : (0 : Int32) ≤ nI i := nI_pos' (by omega)
    have h2 : (nI i < nI (a_n a)) ↔ i < a_n a := nI_ltI (by omega) (by omega)
    simp [h1, h2]
  rw [mo_Md_isGrudge, mo_Md_areTwo, e_d6 hp, e_r6 hp, r_isChild Q, r_isChild Q, ch _ (by omega), ch _ (by omega)]
  unfold p_kc
  cases decide (p / 6 < a_n a)
  · rfl
  · cases decide (p % 6 < a_n a)
    · rfl
    · by_cases g : p / 6 = p % 6
      · simp only [Option.bind_some, cond_true]
        rw [if_pos (e.2 g)]
        simp [g]
      · simp only [Option.bind_some, cond_true]
        rw [if_neg (fun q => g (e.1 q))]
        simp [g]
theorem r_turn {m : MdS} {a : AC} (Q : RM m a) {p : Nat} (hp : p < 36) (hc : p_kc a p = true) : ∃ m1, mo_Md_turnLike m (nI p) = some m1 ∧ RM m1 (a_tp a p) ∧ mo_Md_turnLike m1 (nI p) = some m := by
  obtain ⟨hi, hk, hne⟩ := kc_lt hc
  have hn := Q.1.1
  have Q1 : RM (ms_row m (upd (md_row m) (9 + p / 6) (nI (p_lk a (p / 6) ^^^ 2 ^ (p % 6))))) (a_tp a p) := Q.tog hi hk
  have exx : nI (p_lk a (p / 6)) ^^^ ((1 : Int32) <<< (nI (p % 6) &&& 31)) = nI (p_lk a (p / 6) ^^^ 2 ^ (p % 6)) := by rw [pu_sh _ (by omega), fb_xorI]
  have eyy : nI (p_lk a (p / 6) ^^^ 2 ^ (p % 6)) ^^^ ((1 : Int32) <<< (nI (p % 6) &&& 31)) = nI (p_lk a (p / 6)) := by rw [pu_sh _ (by omega), fb_xorI, Nat.xor_assoc, Nat.xor_self, Nat.xor_zero]
  refine ⟨_, ?_, Q1, ?_⟩
  · rw [mo_Md_turnLike, e_d6 hp, e_r6 hp, e9, pu_in_t (by omega : 9 + p / 6 < 2304) (by decide), pu_n (by omega), Q.lik hi, exx]
    rfl
  · have q4 : upd (upd (md_row m) (9 + p / 6) (nI (p_lk a (p / 6) ^^^ 2 ^ (p % 6)))) (9 + p / 6) (nI (p_lk a (p / 6))) = md_row m := row_back _ _ (Q.lik hi) _
    rw [mo_Md_turnLike, e_d6 hp, e_r6 hp, e9, pu_in_t (by omega : 9 + p / 6 < 2304) (by decide), pu_n (by omega)]
    show some (ms_row m (upd (upd (md_row m) (9 + p / 6) (nI (p_lk a (p / 6) ^^^ 2 ^ (p % 6)))) (9 + p / 6) (upd (md_row m) (9 + p / 6) (nI (p_lk a (p / 6) ^^^ 2 ^ (p % 6))) (9 + p / 6) ^^^ ((1 : Int32) <<< (nI (p % 6) &&& 31))))) = some m
    rw [pk_us, eyy, q4]
def q_sel (x : Option Nat) (old : Int32) (k : Nat) : Int32 := match x with
  | some q => nI (36 * k + q)
  | none => old
theorem r_79 {m : MdS} {a : AC} (Q : RM m a) (x : Int32) {k : Nat} (hk : k < 36) (old : Int32) : ∀ (d t f : Nat), t = k + d → t ≤ 35 → d < f → lo_Md_peace_79 x (nI k) f m (q_sel (q_ff (p_g (p_kc a) a) (t + 1) (35 - t)) old k) (nI t) = some (m, q_sel (q_ff (p_g (p_kc a) a) (k + 1) (35 - k)) old k) := by
  have hn := Q.1.1
  have h6 := pow6 hn
  have hb := Q.1.2.2.2.2
  intro d
  induction d with
  | zero =>
    intro t f ht h35 hf
    obtain ⟨f, rfl⟩ : ∃ z, f = z + 1 := ⟨f - 1, by omega⟩
    have : t = k := by omega
    subst this
    rw [lo_Md_peace_79, if_pos (nI_le (Nat.le_refl _) (by omega))]
  | succ d ih =>
    intro t f ht h35 hf
    obtain ⟨f, rfl⟩ : ∃ z, f = z + 1 := ⟨f - 1, by omega⟩
    have ih' := ih (t - 1) f (by omega) (by omega) (by omega)
    have e1 : t - 1 + 1 = t := by omega
    have e2 : 35 - (t - 1) = (35 - t) + 1 := by omega
    have e3 : nI t - (1 : Int32) = nI (t - 1) := pk_sub (b := 1) (by omega)
    rw [e1, e2, q_ff] at ih'
    rw [lo_Md_peace_79, if_neg (nI_ge (by omega) (by omega)), r_isGrudge Q (by omega), i_m1, e3]
    simp only [Option.bind_some]
    cases hc : p_kc a t
    · have hg : p_g (p_kc a) a t = false := by unfold p_g; rw [hc]; rfl
      rw [hg, if_neg (by decide)] at ih'
      exact ih'
    · obtain ⟨m1, t1, t2, t3⟩ := r_turn Q (by omega : t < 36) hc
      have hin : md_row m1 1 = nI (a_b a) := t2.inn
      have ho : mo_Md_outs m1 (nI (a_b a)) = some (nI (p_out (a_tp a t) (a_b a))) := r_outs t2 (by omega)
      have hol : p_out (a_tp a t) (a_b a) < 64 := p_out_lt (a := a_tp a t) hn (a_b a)
      have e0 : (nI (p_out (a_tp a t) (a_b a)) = 0) ↔ p_out (a_tp a t) (a_b a) = 0 := nI_eq (b := 0) (by omega) (by decide)
      have em : (36 : Int32) * nI k + nI t = nI (36 * k + t) := by
        have z : (36 : Int32) * nI k = nI (36 * k) := pk_mul 36 k
        rw [z]
        exact nI_add (36 * k) t
      have hg : p_g (p_kc a) a t = decide (p_out (a_tp a t) (a_b a) = 0) := by unfold p_g; rw [hc]; rfl
      simp only [cond_true]
      rw [f_ob t1, hin, f_ob ho]
      rw [hg] at ih'
      by_cases g : p_out (a_tp a t) (a_b a) = 0
      · rw [if_pos (e0.2 g), em]
        simp only [g, decide_true, if_true] at ih'
        simp only [Option.bind_some]
        rw [f_ob t3]
        exact ih'
      · rw [if_neg (fun q => g (e0.1 q))]
        simp only [g, decide_false] at ih'
        simp only [Option.bind_some]
        rw [f_ob t3]
        exact ih'
theorem r_39 {m : MdS} {a : AC} (Q : RM m a) : ∀ (k f : Nat), k ≤ 36 → k < f → lo_Md_peace_39 f m (q_i (q_ff (p_g (p_kc a) a) k (36 - k))) (q_i (q_fo (p_h (p_kc a) a) k (36 - k))) (nI k - 1) = some (m, q_i (q_ff (p_g (p_kc a) a) 0 36), q_i (q_fo (p_h (p_kc a) a) 0 36)) := by
  have hn := Q.1.1
  have h6 := pow6 hn
  have hb := Q.1.2.2.2.2
  intro k
  induction k with
  | zero =>
    intro f hk hf
    obtain ⟨f, rfl⟩ : ∃ z, f = z + 1 := ⟨f - 1, by omega⟩
    have e : nI 0 - 1 < (0 : Int32) := by decide
    rw [lo_Md_peace_39, if_pos e]
  | succ k ih =>
    intro f hk hf
    obtain ⟨f, rfl⟩ : ∃ z, f = z + 1 := ⟨f - 1, by omega⟩
    have ih' := ih f (by omega) (by omega)
    have e2 : 36 - k = (36 - (k + 1)) + 1 := by omega
    have e3 : nI (k + 1) - (1 : Int32) = nI k := pk_sub (b := 1) (by omega)
    have e4 : ¬ nI k < 0 := fun q => (fa_of_lt q).2.1 (nI_pos' (by omega))
    rw [e2, q_ff, q_fo] at ih'
    rw [e3, lo_Md_peace_39, if_neg e4, r_isGrudge Q (by omega), i_m1]
    simp only [Option.bind_some]
    cases hc : p_kc a k
    · have hg : p_g (p_kc a) a k = false := by unfold p_g; rw [hc]; rfl
      have hh : p_h (p_kc a) a k = none := by unfold p_h; rw [hc]; rfl
      rw [hg, if_neg (by decide), hh] at ih'
      exact ih'
    · obtain ⟨m1, t1, t2, t3⟩ := r_turn Q (by omega : k < 36) hc
      have hin : md_row m1 1 = nI (a_b a) := t2.inn
      have ho : mo_Md_outs m1 (nI (a_b a)) = some (nI (p_out (a_tp a k) (a_b a))) := r_outs t2 (by omega)
      have hol : p_out (a_tp a k) (a_b a) < 64 := p_out_lt (a := a_tp a k) hn (a_b a)
      have e0 : (nI (p_out (a_tp a k) (a_b a)) = 0) ↔ p_out (a_tp a k) (a_b a) = 0 := nI_eq (b := 0) (by omega) (by decide)
      have hg : p_g (p_kc a) a k = decide (p_out (a_tp a k) (a_b a) = 0) := by unfold p_g; rw [hc]; rfl
      have h79 : ∀ x, lo_Md_peace_79 x (nI k) nj_fu m1 (q_i (q_fo (p_h (p_kc a) a) (k + 1) (36 - (k + 1)))) (35 : Int32) = some (m1, q_sel (q_ff (p_g (p_kc a) (a_tp a k)) (k + 1) (36 - (k + 1))) (q_i (q_fo (p_h (p_kc a) a) (k + 1) (36 - (k + 1)))) k) := fun x => by
        have z := r_79 t2 x (by omega : k < 36) (q_i (q_fo (p_h (p_kc a) a) (k + 1) (36 - (k + 1)))) (35 - k) 35 nj_fu (by omega) (by omega) (pu_fu (by omega))
        have z1 : 36 - (k + 1) = 35 - k := by omega
        rw [z1]
        rw [z1] at z
        exact z
      have hsel : q_sel (q_ff (p_g (p_kc a) (a_tp a k)) (k + 1) (36 - (k + 1))) (q_i (q_fo (p_h (p_kc a) a) (k + 1) (36 - (k + 1)))) k = q_i (match p_h (p_kc a) a k with
          | some x => some x
          | none => q_fo (p_h (p_kc a) a) (k + 1) (36 - (k + 1))) := by
        unfold p_h
        rw [hc]
        cases q_ff (p_g (p_kc a) (a_tp a k)) (k + 1) (36 - (k + 1)) <;> rfl
      simp only [cond_true]
      rw [f_ob t1, hin, f_ob ho]
      rw [hg, ← hsel] at ih'
      by_cases g : p_out (a_tp a k) (a_b a) = 0
      · rw [if_pos (e0.2 g)]
        simp only [g, decide_true, if_true] at ih'
        simp only [Option.bind_some]
        rw [f_ob (h79 _), f_ob t3]
        exact ih'
      · rw [if_neg (fun q => g (e0.1 q))]
        simp only [g, decide_false] at ih'
        simp only [Option.bind_some]
        rw [f_ob (h79 _), f_ob t3]
        exact ih'
theorem one_eq {a : AC} (W : WA a) (h : p_out a (a_b a) ≠ 0) (q : Nat) : p_g (p_kc a) a q = p_g (p_ki a) a q := by
  unfold p_g
  cases hi : p_ki a q
  · cases hc : p_kc a q
    · rfl
    · rw [irr1 hi hc]
      simp [h]
  · rw [ki_kc W hi]
theorem two_eq {a : AC} (W : WA a) (h : p_out a (a_b a) ≠ 0) (h1 : ∀ q, q < 36 → p_g (p_kc a) a q = false) {v : Nat} (hv : v < 36) : p_h (p_kc a) a v = p_h (p_ki a) a v := by
  unfold p_h
  cases hi : p_ki a v
  · cases hc : p_kc a v
    · rfl
    · have : q_ff (p_g (p_kc a) (a_tp a v)) (v + 1) (36 - (v + 1)) = none := q_ff_none (fun j j1 j2 => by
        have := h1 j (by omega)
        unfold p_g at this ⊢
        have e : p_out (a_tp (a_tp a v) j) (a_b (a_tp a v)) = p_out (a_tp a j) (a_b a) := irr2 j hi hc
        rw [e]
        exact this)
      rw [this]
      rfl
  · have hc := ki_kc W hi
    rw [hc]
    have : q_ff (p_g (p_kc a) (a_tp a v)) (v + 1) (36 - (v + 1)) = q_ff (p_g (p_ki a) (a_tp a v)) (v + 1) (36 - (v + 1)) := q_ff_cong (fun j j1 j2 => by
      unfold p_g
      cases hij : p_ki a j
      · cases hcj : p_kc a j
        · rfl
        · have e : p_out (a_tp (a_tp a v) j) (a_b (a_tp a v)) = p_out (a_tp a v) (a_b a) := irr1 (a := a_tp a v) (p := j) hij hcj
          have h2 := h1 v hv
          unfold p_g at h2
          rw [hc] at h2
          rw [e]
          exact h2
      · rw [ki_kc W hij])
    rw [this]
theorem op_peace {s : NjS} {m : MdS} (h : Rel s m) : Same (mo_Nj_peace s) (mo_Md_peace m) := by
  obtain ⟨a, R, Q, W⟩ := h.ac
  have hn := R.1.1
  have h6 := pow6 hn
  have hb := Q.1.2.2.2.2
  rw [mo_Nj_peace, mo_Md_peace, R.1.2, Q.2.1]
  by_cases g : nI (a_n a) = 0
  · rw [if_pos g, if_pos g]
    exact Same.of h _
  · have hol := p_out_lt hn (a_b a)
    have e0 : (nI (p_out a (a_b a)) = 0) ↔ p_out a (a_b a) = 0 := nI_eq (b := 0) (by omega) (by decide)
    have c0 : mo_Club_standsStill (nj_club s) (cl_inn (nj_club s)) = some (decide (p_out a (a_b a) = 0)) := by
      rw [R.2.2.2.2.2.1.1, c_standsStill R]
    have c1 : mo_Peace_firstGrudge (nj_club s) 0 = some (q_i (q_ff (p_g (p_ki a) a) 0 36), nj_club s) := c_fg1 R (p := 0) (by omega)
    have c2 : mo_Peace_firstTwoGrudges (nj_club s) = some (q_i (q_fo (p_h (p_ki a) a) 0 36), nj_club s) := c_ft R 36 0 nj_fu (by omega) (pu_fu (by omega))
    have es : ns_club s (nj_club s) = s := rfl
    have z9 : ¬ (0 : Int32) = -9 := by decide
    have n9 : (-9 : Int32) = -9 := rfl
    rw [if_neg g, if_neg g, Q.inn, r_outs Q (by omega), f_ob c0]
    simp only [Option.bind_some]
    by_cases g0 : p_out a (a_b a) = 0
    · rw [if_pos (e0.2 g0), decide_eq_true g0]
      simp only [cond_true, Option.bind_some, if_neg z9]
      exact Same.of (h.an 0) 0
    · have r39 : lo_Md_peace_39 nj_fu m (-9) (-9) 35 = _ := r_39 Q 36 nj_fu (by omega) (pu_fu (by omega))
      have hone : q_ff (p_g (p_kc a) a) 0 36 = q_ff (p_g (p_ki a) a) 0 36 := q_ff_cong (fun j _ _ => one_eq Q.1 g0 j)
      rw [if_neg (fun q => g0 (e0.1 q)), f_ob r39, hone, decide_eq_false g0]
      simp only [cond_false, Option.bind_some, if_true]
      rw [f_ob c1]
      simp only [Option.bind_some]
      rw [es]
      cases hq : q_ff (p_g (p_ki a) a) 0 36 with
      | some q =>
        have hlt := q_ff_some hq
        have e9 : ¬ q_i (some q) = -9 := q_i_9 (by omega)
        simp only [if_neg e9, Option.bind_some]
        exact Same.of (h.an _) 1
      | none =>
        have e9 : q_i none = -9 := rfl
        have hall : ∀ q, q < 36 → p_g (p_kc a) a q = false := fun q hq2 => by
          rw [one_eq Q.1 g0]
          exact q_ff_all hq q (by omega) (by omega)
        have htwo : q_fo (p_h (p_kc a) a) 0 36 = q_fo (p_h (p_ki a) a) 0 36 := q_fo_cong (fun j _ hj => two_eq Q.1 g0 hall (by omega))
        rw [htwo]
        simp only [if_pos e9]
        rw [f_ob c2]
        simp only [Option.bind_some]
        rw [es]
        cases hq2 : q_fo (p_h (p_ki a) a) 0 36 with
        | some q =>
          have hlt : q < 2000 := q_fo_lt hq2 (fun j hj x hx => by
            unfold p_h at hx
            cases hki : p_ki a j
            · rw [hki] at hx
              cases hx
            · rw [hki] at hx
              cases hqq : q_ff (p_g (p_ki a) (a_tp a j)) (j + 1) (36 - (j + 1)) with
              | none => rw [hqq] at hx; cases hx
              | some y =>
                rw [hqq] at hx
                have := q_ff_some hqq
                cases hx
                omega)
          have e92 : ¬ q_i (some q) = -9 := q_i_9 hlt
          simp only [if_neg e92]
          exact Same.of (h.an _) 2
        | none =>
          simp only [if_pos e9]
          exact Same.of h _
