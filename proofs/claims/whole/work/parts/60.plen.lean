/-! pure: the longest, as both measure it -/
def q_mx (g : Nat → Nat) : Nat → Nat
  | 0 => 0
  | k + 1 => if g k ≤ q_mx g k then q_mx g k else g k
theorem q_mx_cong {f g : Nat → Nat} : ∀ {n : Nat}, (∀ k, k < n → f k = g k) → q_mx f n = q_mx g n
  | 0, _ => rfl
  | n + 1, h => by
    rw [q_mx, q_mx, h n (by omega), q_mx_cong (f := f) (g := g) (fun k hk => h k (by omega))]
theorem q_mx_le {g : Nat → Nat} {c : Nat} : ∀ {n : Nat}, (∀ k, k < n → g k ≤ c) → q_mx g n ≤ c
  | 0, _ => Nat.zero_le _
  | n + 1, h => by
    have h1 := q_mx_le (g := g) (c := c) (n := n) (fun k hk => h k (by omega))
    have h2 := h n (by omega)
    rw [q_mx]
    split
    · exact h1
    · exact h2
theorem q_mx_at {g : Nat → Nat} : ∀ {n : Nat}, 0 < q_mx g n → ∃ k, k < n ∧ g k = q_mx g n
  | 0, h => absurd h (Nat.lt_irrefl 0)
  | n + 1, h => by
    by_cases q : g n ≤ q_mx g n
    · rw [q_mx, if_pos q] at h ⊢
      obtain ⟨k, k1, k2⟩ := q_mx_at (g := g) (n := n) h
      exact ⟨k, by omega, k2⟩
    · rw [q_mx, if_neg q]
      exact ⟨n, by omega, rfl⟩
def p_lt (a : AC) : Nat → Nat → Nat
  | 0, _ => 0
  | k + 1, S => if S = k then q_mx (fun i => if (p_out a k).testBit i = true then 1 + p_lt a k (p_an k (2 ^ i)) else 0) (a_n a) else p_lt a k S
/-- the most that can be put out one after the other, from S -/
def p_L (a : AC) (S : Nat) : Nat := p_lt a (S + 1) S
theorem p_lt_L (a : AC) : ∀ k S, S < k → p_lt a k S = p_L a S
  | 0, _, h => absurd h (Nat.not_lt_zero _)
  | k + 1, S, h => by
    by_cases g : S = k
    · subst g
      rfl
    · rw [p_lt, if_neg g]
      exact p_lt_L a k S (by omega)
theorem p_out_in {a : AC} {S i : Nat} (h : (p_out a S).testBit i = true) : i < a_n a ∧ S.testBit i = true := by
  rw [p_out_bit] at h
  unfold p_of at h
  simp only [Bool.and_eq_true, decide_eq_true_eq] at h
  exact ⟨h.1, h.2.1⟩
theorem an_lt : ∀ S, S < 64 → ∀ i, i < 6 → S.testBit i = true → p_an S (2 ^ i) < S := by decide +kernel
theorem p_L_rec {a : AC} (hn : a_n a ≤ 6) {S : Nat} (hS : S < 64) : p_L a S = q_mx (fun i => if (p_out a S).testBit i = true then 1 + p_L a (p_an S (2 ^ i)) else 0) (a_n a) := by
  show p_lt a (S + 1) S = _
  rw [p_lt, if_pos rfl]
  refine q_mx_cong (fun i hi => ?_)
  by_cases g : (p_out a S).testBit i = true
  · rw [if_pos g, if_pos g, p_lt_L _ _ _ (an_lt S hS i (by omega) (p_out_in g).2)]
  · rw [if_neg g, if_neg g]
theorem p_L_le {a : AC} (hn : a_n a ≤ 6) : ∀ k S, S < k → S < 64 → p_L a S ≤ p_bc S
  | 0, _, h, _ => absurd h (Nat.not_lt_zero _)
  | k + 1, S, h, hS => by
    rw [p_L_rec hn hS]
    refine q_mx_le (fun i hi => ?_)
    by_cases g : (p_out a S).testBit i = true
    · have h1 := an_lt S hS i (by omega) (p_out_in g).2
      have h2 := p_L_le hn k (p_an S (2 ^ i)) (by omega) (by omega)
      have h3 := bc_drop S hS i (by omega) (p_out_in g).2
      rw [if_pos g]
      omega
    · rw [if_neg g]
      omega
theorem p_L_6 {a : AC} (hn : a_n a ≤ 6) {S : Nat} (hS : S < 64) : p_L a S ≤ 6 := Nat.le_trans (p_L_le hn (S + 1) S (by omega) hS) (p_bc_le S)
theorem upd_upd (f : Nat → Int32) (k : Nat) (x y : Int32) : upd (upd f k x) k y = upd f k y := by
  funext j
  unfold upd
  by_cases g : j = k <;> simp [g]
def q_set {α : Type} (g f : Nat → α) (k : Nat) : Nat → α := fun S => if S < k then g S else f S
theorem q_set_0 {α : Type} (g f : Nat → α) : q_set g f 0 = f := by
  funext S
  unfold q_set
  rw [if_neg (Nat.not_lt_zero _)]
theorem q_set_s (g f : Nat → Int32) (k : Nat) : upd (q_set g f k) k (g k) = q_set g f (k + 1) := by
  funext S
  unfold upd q_set
  by_cases h : S = k
  · subst h
    simp
  · rw [if_neg h]
    by_cases h2 : S < k
    · rw [if_pos h2, if_pos (by omega)]
    · rw [if_neg h2, if_neg (by omega)]
theorem q_set_lt {α : Type} (g f : Nat → α) {k S : Nat} (h : S < k) : q_set g f k S = g S := if_pos h
/-- the step of a greatest number, in Int32 -/
theorem mx_step {g : Nat → Nat} {j : Nat} (h1 : g j < 2 ^ 31) (h2 : q_mx g j < 2 ^ 31) : (if nI (g j) ≤ nI (q_mx g j) then nI (q_mx g j) else nI (g j)) = nI (q_mx g (j + 1)) := by
  rw [q_mx]
  by_cases q : g j ≤ q_mx g j
  · rw [if_pos (nI_le q h2), if_pos q]
  · rw [if_neg (nI_ge (by omega) h1), if_neg q]
/-- the reference with its scratch rows -/
def md_sc (m : MdS) (o l : Nat → Int32) (w : Nat → Int64) : MdS := (m.1, m.2.1, m.2.2.1, m.2.2.2.1, m.2.2.2.2.1, m.2.2.2.2.2.1, m.2.2.2.2.2.2.1, m.2.2.2.2.2.2.2.1, m.2.2.2.2.2.2.2.2.1, m.2.2.2.2.2.2.2.2.2.1, m.2.2.2.2.2.2.2.2.2.2.1, m.2.2.2.2.2.2.2.2.2.2.2.1, m.2.2.2.2.2.2.2.2.2.2.2.2.1, m.2.2.2.2.2.2.2.2.2.2.2.2.2.1, m.2.2.2.2.2.2.2.2.2.2.2.2.2.2.1, m.2.2.2.2.2.2.2.2.2.2.2.2.2.2.2.1, m.2.2.2.2.2.2.2.2.2.2.2.2.2.2.2.2.1, m.2.2.2.2.2.2.2.2.2.2.2.2.2.2.2.2.2.1, m.2.2.2.2.2.2.2.2.2.2.2.2.2.2.2.2.2.2.1, m.2.2.2.2.2.2.2.2.2.2.2.2.2.2.2.2.2.2.2.1, o, l, w)
set_option maxHeartbeats 20000 in
theorem sc_lon (m : MdS) (o l l2 : Nat → Int32) (w : Nat → Int64) : ms_longer (md_sc m o l w) l2 = md_sc m o l2 w := rfl
set_option maxHeartbeats 20000 in
theorem sc_out (m : MdS) (o o2 l : Nat → Int32) (w : Nat → Int64) : ms_outOf (md_sc m o l w) o2 = md_sc m o2 l w := rfl
set_option maxHeartbeats 20000 in
theorem sc_way (m : MdS) (o l : Nat → Int32) (w w2 : Nat → Int64) : ms_ways (md_sc m o l w) w2 = md_sc m o l w2 := rfl
set_option maxHeartbeats 20000 in
theorem sc_o (m : MdS) (o l : Nat → Int32) (w : Nat → Int64) : md_outOf (md_sc m o l w) = o := rfl
set_option maxHeartbeats 20000 in
theorem sc_l (m : MdS) (o l : Nat → Int32) (w : Nat → Int64) : md_longer (md_sc m o l w) = l := rfl
set_option maxHeartbeats 20000 in
theorem sc_w (m : MdS) (o l : Nat → Int32) (w : Nat → Int64) : md_ways (md_sc m o l w) = w := rfl
set_option maxHeartbeats 20000 in
theorem sc_c (m : MdS) (o l : Nat → Int32) (w : Nat → Int64) : md_children (md_sc m o l w) = md_children m := rfl
set_option maxHeartbeats 20000 in
theorem sc_r (m : MdS) (o l : Nat → Int32) (w : Nat → Int64) : md_row (md_sc m o l w) = md_row m := rfl
set_option maxHeartbeats 20000 in
theorem sc_0 (m : MdS) : md_sc m (md_outOf m) (md_longer m) (md_ways m) = m := rfl
set_option maxHeartbeats 20000 in
theorem sc_RM {m : MdS} {a : AC} (Q : RM m a) (o l : Nat → Int32) (w : Nat → Int64) : RM (md_sc m o l w) a := ⟨Q.1, Q.2.1, Q.2.2.1, Q.2.2.2⟩
set_option maxHeartbeats 20000 in
theorem sc_ol (m : MdS) (o l : Nat → Int32) (w : Nat → Int64) (k : Nat) (x y : Int32) : ms_longer (ms_outOf (md_sc m o l w) (upd (md_outOf (md_sc m o l w)) k x)) (upd (md_longer (md_sc m o l w)) k y) = md_sc m (upd o k x) (upd l k y) w := rfl
def p_gk (a : AC) (k i : Nat) : Nat := if (p_out a k).testBit i = true then 1 + p_L a (p_an k (2 ^ i)) else 0
theorem p_gk_le {a : AC} (hn : a_n a ≤ 6) {k i : Nat} (hk : k < 64) (hi : i < a_n a) : p_gk a k i ≤ 7 := by
  unfold p_gk
  by_cases g : (p_out a k).testBit i = true
  · rw [if_pos g]
    have h1 := an_lt k hk i (by omega) (p_out_in g).2
    have := p_L_6 hn (by omega : p_an k (2 ^ i) < 64)
    omega
  · rw [if_neg g]
    omega
set_option maxHeartbeats 20000 in
theorem p_L_gk {a : AC} (hn : a_n a ≤ 6) {S : Nat} (hS : S < 64) : p_L a S = q_mx (p_gk a S) (a_n a) := p_L_rec hn hS
set_option maxHeartbeats 100000 in
theorem r_len32 {m : MdS} {a : AC} (Q : RM m a) {k : Nat} (hk : k < 64) (o lon : Nat → Int32) (w : Nat → Int64) (ho : o k = nI (p_out a k)) (hl : ∀ T, T < k → lon T = nI (p_L a T)) : lo_Md_layOuts_32 (nI k) nj_fu (md_sc m o (upd lon k 0) w) 0 = some (md_sc m o (upd lon k (nI (p_L a k))) w) := by
  have hn := Q.1.1
  have hob := p_out_lt hn k
  rw [p_L_gk hn hk]
  have h := pu_loop (fun f (st : MdS) i => lo_Md_layOuts_32 (nI k) f st i) (a_n a) (fun j => md_sc m o (upd lon k (nI (q_mx (p_gk a k) j))) w) (some (md_sc m o (upd lon k (nI (q_mx (p_gk a k) (a_n a)))) w))
    (fun f => by
      rw [lo_Md_layOuts_32, sc_c, Q.2.1, if_pos (nI_le (Nat.le_refl _) (by omega))])
    (fun f j hj => by
      have hq : q_mx (p_gk a k) j ≤ 7 := q_mx_le (fun i hi => p_gk_le hn hk (by omega))
      have hg := p_gk_le hn hk hj
      have hl2 : p_an k (2 ^ j) < 2 ^ 6 := p_an_le _ _ hk
      rw [lo_Md_layOuts_32, sc_c, sc_o, sc_l, Q.2.1, if_neg (nI_ge hj (by omega)), pu_in_t hk (by decide), pu_n (by omega : k < 2 ^ 31), ho, r_has (by omega) (by omega), pu_sh j (by omega), p_an_nI, pu_in_t hl2 (by decide), pu_n (by omega : p_an k (2 ^ j) < 2 ^ 31), nI_1 j, pk_us]
      simp only [cond_true, Option.bind_some]
      have key : (bif (p_out a k).testBit j then some ((1 : Int32) + upd lon k (nI (q_mx (p_gk a k) j)) (p_an k (2 ^ j))) else some (0 : Int32)) = some (nI (p_gk a k j)) := by
        unfold p_gk
        cases hb : (p_out a k).testBit j
        · rfl
        · have h1 := an_lt k hk j (by omega) (p_out_in hb).2
          rw [if_pos rfl, pk_un (by omega), hl _ h1]
          simp only [cond_true]
          congr 1
          exact nI_add 1 _
      rw [key]
      simp only [Option.bind_some]
      have hst := mx_step (g := p_gk a k) (j := j) (by omega) (by omega)
      rw [← hst]
      by_cases q : nI (p_gk a k j) ≤ nI (q_mx (p_gk a k) j)
      · rw [if_pos q, if_pos q]
        simp only [Option.bind_some]
        rw [sc_lon, upd_upd]
      · rw [if_neg q, if_neg q]
        simp only [Option.bind_some]
        rw [sc_lon, upd_upd])
    (a_n a) nj_fu 0 (by omega) (pu_fu (by omega))
  exact h
set_option maxHeartbeats 400000 in
theorem r_lay2 {m : MdS} {a : AC} (Q : RM m a) : lo_Md_layOuts_2 nj_fu m 0 = some (md_sc m (q_set (fun S => nI (p_out a S)) (md_outOf m) (2 ^ a_n a)) (q_set (fun S => nI (p_L a S)) (md_longer m) (2 ^ a_n a)) (md_ways m)) := by
  have hn := Q.1.1
  have h6 := pow6 hn
  have h := pu_loop (fun f (st : MdS) i => lo_Md_layOuts_2 f st i) (2 ^ a_n a) (fun k => md_sc m (q_set (fun S => nI (p_out a S)) (md_outOf m) k) (q_set (fun S => nI (p_L a S)) (md_longer m) k) (md_ways m)) (some (md_sc m (q_set (fun S => nI (p_out a S)) (md_outOf m) (2 ^ a_n a)) (q_set (fun S => nI (p_L a S)) (md_longer m) (2 ^ a_n a)) (md_ways m)))
    (fun f => by
      rw [lo_Md_layOuts_2, sc_c, Q.2.1, pu_sh2 hn, if_pos (nI_le (Nat.le_refl _) (by omega))])
    (fun f k hk => by
      have h3 := r_len32 Q (by omega : k < 64) (q_set (fun S => nI (p_out a S)) (md_outOf m) (k + 1)) (q_set (fun S => nI (p_L a S)) (md_longer m) k) (md_ways m) (q_set_lt (fun S => nI (p_out a S)) (md_outOf m) (Nat.lt_succ_self k)) (fun T hT => q_set_lt (fun S => nI (p_L a S)) (md_longer m) hT)
      rw [q_set_s (fun S => nI (p_L a S))] at h3
      rw [lo_Md_layOuts_2, sc_c, Q.2.1, pu_sh2 hn, if_neg (nI_ge hk (by omega)), r_outs (sc_RM Q _ _ _) (by omega), pu_in_t (by omega : k < 64) (by decide), pu_n (by omega : k < 2 ^ 31), nI_1 k]
      simp only [cond_true, Option.bind_some]
      rw [sc_ol, q_set_s (fun S => nI (p_out a S)), f_ob h3])
    (2 ^ a_n a) nj_fu 0 (by omega) (pu_fu (by omega))
  have z0 : nI 0 = (0 : Int32) := rfl
  simp only [q_set_0, sc_0, z0] at h
  exact h
theorem c_len43 {c : CluS} {a : AC} (R : RC c a) {k X : Nat} (hk : k < 64) (hX : X < 64) (o : Nat → Int32) (hx : ∀ i, X.testBit i = true → k.testBit i = true ∧ o (p_an k (2 ^ i)) = nI (p_L a (p_an k (2 ^ i)))) : lo_Orders_measureLengths_52 c (nI k) (nI X) nj_fu (upd o k 0) 0 = some (upd o k (nI (q_mx (fun i => if X.testBit i = true then 1 + p_L a (p_an k (2 ^ i)) else 0) (a_n a)))) := by
  have hn := R.1.1
  have hg : ∀ i, i < a_n a → (if X.testBit i = true then 1 + p_L a (p_an k (2 ^ i)) else 0) ≤ 7 := by
    intro i hi
    by_cases g : X.testBit i = true
    · rw [if_pos g]
      have h1 := an_lt k hk i (by omega) (hx i g).1
      have := p_L_6 hn (by omega : p_an k (2 ^ i) < 64)
      omega
    · rw [if_neg g]
      omega
  have h := pu_loop (fun f (st : Nat → Int32) i => lo_Orders_measureLengths_52 c (nI k) (nI X) f st i) (a_n a) (fun j => upd o k (nI (q_mx (fun i => if X.testBit i = true then 1 + p_L a (p_an k (2 ^ i)) else 0) j))) (some (upd o k (nI (q_mx (fun i => if X.testBit i = true then 1 + p_L a (p_an k (2 ^ i)) else 0) (a_n a)))))
    (fun f => by rw [lo_Orders_measureLengths_52, R.1.2, if_pos (nI_le (Nat.le_refl _) (by omega))])
    (fun f j hj => by
      have hq : q_mx (fun i => if X.testBit i = true then 1 + p_L a (p_an k (2 ^ i)) else 0) j ≤ 7 := q_mx_le (fun i hi => hg i (by omega))
      have hl2 : p_an k (2 ^ j) < 2 ^ 6 := p_an_le _ _ hk
      have e := pu_and X j (by omega)
      rw [lo_Orders_measureLengths_52, R.1.2, if_neg (nI_ge hj (by omega)), nI_1 j]
      cases hb : X.testBit j
      · rw [if_pos (e.2 hb)]
        simp only [Option.bind_some]
        rw [q_mx, hb]
        simp
      · rw [if_neg (fun q => by have := e.1 q; rw [hb] at this; cases this), pu_in_t hk (by decide), pu_n (by omega : k < 2 ^ 31), pu_sh j (by omega), p_an_nI, pu_in_t hl2 (by decide), pu_n (by omega : p_an k (2 ^ j) < 2 ^ 31), pk_us]
        have h1 := an_lt k hk j (by omega) (hx j hb).1
        have e1 : (1 : Int32) + nI (p_L a (p_an k (2 ^ j))) = nI (1 + p_L a (p_an k (2 ^ j))) := nI_add 1 _
        have hL := p_L_6 hn (by omega : p_an k (2 ^ j) < 64)
        rw [pk_un (by omega), (hx j hb).2, e1]
        simp only [cond_true, Option.bind_some]
        rw [upd_upd, q_mx, hb, if_pos rfl]
        by_cases q : 1 + p_L a (p_an k (2 ^ j)) ≤ q_mx (fun i => if X.testBit i = true then 1 + p_L a (p_an k (2 ^ i)) else 0) j
        · rw [if_neg (fun z => (fa_of_lt z).2.1 (nI_le q (by omega))), if_pos q]
        · rw [if_pos (nI_lt (by omega) (by omega)), if_neg q])
    (a_n a) nj_fu 0 (by omega) (pu_fu (by omega))
  exact h
theorem q_mx_0 (n : Nat) : q_mx (fun _ => 0) n = 0 := by
  induction n with
  | zero => rfl
  | succ n ih => rw [q_mx, ih]; rfl
/-- lengths as the class holds them: of the sets within -/
def p_C (a : AC) (S : Nat) : Int32 := if p_an S (a_b a) = 0 then nI (p_L a S) else 0
theorem an_sub {k b i : Nat} (h : p_an k b = 0) : p_an (p_an k (2 ^ i)) b = 0 := by
  refine p_bit_ext (fun j => ?_)
  have := congrArg (fun z => z.testBit j) h
  simp only [p_an_bit, Nat.zero_testBit] at this ⊢
  cases h1 : k.testBit j
  · simp
  · rw [h1] at this
    simp only [Bool.true_and] at this
    rw [this]
    simp
theorem c_measure {c : CluS} {a : AC} (R : RC c a) (o : Nat → Int32) : mo_Orders_measureLengths o c = some (q_set (p_C a) o (a_b a + 1)) := by
  have hn := R.1.1
  have h6 := pow6 hn
  have hb := R.2.2.2.2.2.1.2
  have h := pu_loop (fun f (st : Nat → Int32) i => lo_Orders_measureLengths_2 c f st i) (a_b a + 1) (fun k => q_set (p_C a) o k) (some (q_set (p_C a) o (a_b a + 1)))
    (fun f => by rw [lo_Orders_measureLengths_2, R.2.2.2.2.2.1.1, if_pos (nI_lt (by omega) (by omega))])
    (fun f k hk => by
      have e1 : ¬ nI (a_b a) < nI k := fun q => (fa_of_lt q).2.1 (nI_le (by omega) (by omega))
      have e2 := an0 (x := k) (y := a_b a) (by omega)
      rw [lo_Orders_measureLengths_2, R.2.2.2.2.2.1.1, if_neg e1, pu_in_t (by omega : k < 64) (by decide), pu_n (by omega : k < 2 ^ 31), c_putOutOf R, nI_1 k, ← q_set_s]
      have z1 : ¬ (1 : Int32) = 0 := by decide
      have z0 : (0 : Int32) = 0 := rfl
      simp only [cond_true, Option.bind_some, e2]
      by_cases g : p_an k (a_b a) = 0
      · have h3 := c_len43 R (by omega : k < 64) (p_out_lt hn k) (q_set (p_C a) o k) (fun i hi => by
          have hi1 := p_out_in hi
          have h1 := an_lt k (by omega) i (by omega) hi1.2
          refine ⟨hi1.2, ?_⟩
          rw [q_set_lt _ _ h1]
          unfold p_C
          rw [if_pos (an_sub g)])
        rw [← p_L_rec hn (by omega)] at h3
        rw [if_pos g]
        simp only [Option.bind_some, if_neg z1]
        have ec : p_C a k = nI (p_L a k) := by unfold p_C; rw [if_pos g]
        rw [ec]
        exact f_ob h3
      · have h3 := c_len43 R (k := k) (X := 0) (by omega : k < 64) (by decide) (q_set (p_C a) o k) (fun i hi => by
          rw [Nat.zero_testBit] at hi
          cases hi)
        have ez : (fun i => if (0 : Nat).testBit i = true then 1 + p_L a (p_an k (2 ^ i)) else 0) = fun _ => 0 := by
          funext i
          rw [Nat.zero_testBit]
          rfl
        rw [ez, q_mx_0] at h3
        rw [if_neg g]
        simp only [Option.bind_some, if_pos z0]
        have ec : p_C a k = nI 0 := by unfold p_C; rw [if_neg g]; rfl
        rw [ec]
        exact f_ob h3)
    (a_b a + 1) nj_fu 0 (by omega) (pu_fu (by omega))
  rw [q_set_0] at h
  have h2 : lo_Orders_measureLengths_2 c nj_fu o 0 = _ := h
  rw [mo_Orders_measureLengths, h2]
  rfl
