/-! pure: reading a pair, a child, the rule -/
theorem h_pair (m : MdS) (t N p : Nat) (ru : Int32) (ch : Nat → Int32) (n : Nat) (lk : Nat → Int32) (q : Nat) : mo_Md_readsPair (rd_at m t N p ru ch n lk q) = if nI n = 0 then some (false, (rd_at m t N p ru ch n lk q)) else if nI q = (12 : Int32) then some (false, (rd_at m t N p ru ch n lk q)) else (mo_Md_figure (ms_place (rd_at m t N p ru ch n lk q) (nI p + 1)) (nI n - 1)).bind (fun w1 => ((if w1.1 = (-9 : Int32) then some ((-9 : Int32), w1.2) else (mo_Md_figure w1.2 (md_readMany w1.2 - (1 : Int32))).bind (fun w4 => some (w4.1, w4.2))) : Option (Int32 × MdS)).bind (fun p3 => if p3.1 = (-9 : Int32) then some (false, p3.2) else if w1.1 = p3.1 then some (false, ms_place p3.2 (md_place p3.2 - (1 : Int32))) else (bif nj_in w1.1 6 then ((mo_Md_has (md_readLikes p3.2 (nj_n w1.1)) p3.1).bind (fun w7 => (bif w7 then some (false, ms_place p3.2 (md_place p3.2 - (1 : Int32))) else (bif nj_in w1.1 6 then (bif nj_in w1.1 6 then some (true, ms_readPairs (ms_readLikes p3.2 (upd (md_readLikes p3.2) (nj_n w1.1) (md_readLikes p3.2 (nj_n w1.1) ||| ((1 : Int32) <<< (p3.1 &&& 31))))) (md_readPairs p3.2 + (1 : Int32))) else none) else none)))) else none))) := rfl
theorem g_likes (m : MdS) (t N p : Nat) (ru : Int32) (ch : Nat → Int32) (n : Nat) (lk : Nat → Int32) (q : Nat) : md_readLikes (rd_at m t N p ru ch n lk q) = lk := rfl
theorem s_pair (m : MdS) (t N p : Nat) (ru : Int32) (ch : Nat → Int32) (n : Nat) (lk : Nat → Int32) (q : Nat) (x : Nat → Int32) (y : Nat) : ms_readPairs (ms_readLikes (rd_at m t N p ru ch n lk q) x) (nI y) = rd_at m t N p ru ch n x y := rfl
theorem g_pairs (m : MdS) (t N p : Nat) (ru : Int32) (ch : Nat → Int32) (n : Nat) (lk : Nat → Int32) (q : Nat) : md_readPairs (rd_at m t N p ru ch n lk q) = nI q := rfl
theorem h_child (m : MdS) (t N p : Nat) (ru : Int32) (ch : Nat → Int32) (n : Nat) (lk : Nat → Int32) (q : Nat) : mo_Md_readsChild (rd_at m t N p ru ch n lk q) = (mo_Md_here (rd_at m t N p ru ch n lk q)).bind (fun w1 => (mo_Md_kindOfLetter w1).bind (fun w3 => if w3 = (-9 : Int32) then some (false, (rd_at m t N p ru ch n lk q)) else if nI n = (6 : Int32) then some (false, (rd_at m t N p ru ch n lk q)) else if nI q ≤ 0 then (mo_Md_figure (ms_place (rd_at m t N p ru ch n lk q) (nI p + 1)) (9 : Int32)).bind (fun w5 => if w5.1 = (-9 : Int32) then some (false, w5.2) else (bif nj_in ((2 : Int32) * md_readMany w5.2) 12 then (bif nj_in (((2 : Int32) * md_readMany w5.2) + (1 : Int32)) 12 then some (true, ms_readMany (ms_readChildren w5.2 (upd (upd (md_readChildren w5.2) (nj_n ((2 : Int32) * md_readMany w5.2)) w3) (nj_n (((2 : Int32) * md_readMany w5.2) + (1 : Int32))) w5.1)) (md_readMany w5.2 + (1 : Int32))) else none) else none)) else some (false, (rd_at m t N p ru ch n lk q)))) := rfl
theorem g_ch (m : MdS) (t N p : Nat) (ru : Int32) (ch : Nat → Int32) (n : Nat) (lk : Nat → Int32) (q : Nat) : md_readChildren (rd_at m t N p ru ch n lk q) = ch := rfl
theorem s_child (m : MdS) (t N p : Nat) (ru : Int32) (ch : Nat → Int32) (n : Nat) (lk : Nat → Int32) (q : Nat) (x : Nat → Int32) (y : Nat) : ms_readMany (ms_readChildren (rd_at m t N p ru ch n lk q) x) (nI y) = rd_at m t N p ru x y lk q := rfl
/-- the club that is being read, in both -/
def RP (c : CluS) (a : AC) (ch lk : Nat → Int32) : Prop := RC c a ∧ WB a ∧ a_b a = 2 ^ a_n a - 1 ∧ a_t a = 0 ∧ cl_dc c = 0 ∧ (∀ i, i < a_n a → ch (2 * i) = nI (a_K a i) ∧ ch (2 * i + 1) = a_P a i) ∧ ∀ i, i < 6 → lk i = nI (p_lk a i)
theorem e_m9 {v : Nat} (h : v < 100) : ¬ nI v = (-9 : Int32) := q_i_9 (by omega)
theorem e_n0 {v : Nat} (h : v < 100) : ¬ nI v < (0 : Int32) := fun z => (fa_of_lt z).2.1 (nI_pos' (by omega))
theorem f_pair {T : TexS} {m : MdS} {t N : Nat} (X : TX T m t N) {c : CluS} {a : AC} {ch lk : Nat → Int32} (H : RP c a ch lk) {p q : Nat} (hp : p < N) (hq : q ≤ 12) (ru : Int32) : (∃ p2, p2 ≤ N ∧ mo_Reader_readPair (nI p, nI q) T c = some (false, (nI p2, nI q), c) ∧ mo_Md_readsPair (rd_at m t N p ru ch (a_n a) lk q) = some (false, rd_at m t N p2 ru ch (a_n a) lk q)) ∨ (∃ c2 a2 lk2, p + 3 ≤ N ∧ q + 1 ≤ 12 ∧ a_n a2 = a_n a ∧ a_r a2 = a_r a ∧ RP c2 a2 ch lk2 ∧ mo_Reader_readPair (nI p, nI q) T c = some (true, (nI (p + 3), nI (q + 1)), c2) ∧ mo_Md_readsPair (rd_at m t N p ru ch (a_n a) lk q) = some (true, rd_at m t N (p + 3) ru ch (a_n a) lk2 (q + 1))) := by
  obtain ⟨R, W, hb, htin, hdc, hch, hlk⟩ := H
  have hn := R.1.1
  have hN := X.1
  have h6 := pow6 hn
  have ec : (nI (a_n a) = 0) ↔ a_n a = 0 := nI_eq (b := 0) (by omega) (by decide)
  have eq12 : (nI q = (12 : Int32)) ↔ q = 12 := nI_eq (b := 12) (by omega) (by decide)
  have lt12 : (nI q < (12 : Int32)) ↔ q < 12 := nI_ltI (b := 12) (by omega) (by decide)
  rw [mo_Reader_readPair, h_pair, R.1.2]
  by_cases g0 : a_n a = 0
  · left
    rw [if_pos (ec.2 g0), if_pos (ec.2 g0)]
    exact ⟨p, by omega, rfl, rfl⟩
  · have ec0 : ¬ nI (a_n a) = 0 := fun z => g0 (ec.1 z)
    rw [if_neg ec0, if_neg ec0]
    by_cases g1 : q = 12
    · left
      have z : ¬ nI q < (12 : Int32) := fun z => by have := lt12.1 z; omega
      rw [if_pos (eq12.2 g1), if_neg z]
      exact ⟨p, by omega, rfl, rfl⟩
    · have z : ¬ nI q = (12 : Int32) := fun z => g1 (eq12.1 z)
      rw [if_pos (lt12.2 (by omega)), if_neg z]
      have es : nI (a_n a) - (1 : Int32) = nI (a_n a - 1) := pk_sub (b := 1) (by omega)
      have e1 : rd_place (nI p, nI q) + 1 = nI (p + 1) := nI_add p 1
      have e2 : nI (p + 1) + 1 = nI (p + 2) := nI_add (p + 1) 1
      have e3 : nI (p + 2) + 1 = nI (p + 3) := nI_add (p + 2) 1
      have e4 : nI p + 1 = nI (p + 1) := nI_add p 1
      rw [e1, e2, e3, h_place, es]
      rcases f_fig X (by omega : p + 1 ≤ N) (by omega : 1 ≤ a_n a) (by omega : a_n a ≤ 10) ru ch (a_n a) lk q with ⟨i, hi, hp1, u1, u2⟩ | ⟨u1, u2⟩
      · rw [f_ob u1, f_ob u2, if_pos (nI_pos' (by omega))]
        simp only [if_neg (e_m9 (by omega : i < 100)), g_many]
        rw [es]
        rcases f_fig X (by omega : p + 2 ≤ N) (by omega : 1 ≤ a_n a) (by omega : a_n a ≤ 10) ru ch (a_n a) lk q with ⟨k, hk, hp2, v1, v2⟩ | ⟨v1, v2⟩
        · rw [f_ob v1, f_ob v2, f_ob rfl, if_neg (e_n0 (by omega))]
          have ekk : (nI k = nI i) ↔ k = i := nI_eq (by omega) (by omega)
          have ekk2 : (nI i = nI k) ↔ k = i := ⟨fun z => ekk.1 z.symm, fun z => (ekk.2 z).symm⟩
          have epl : md_place (rd_at m t N (p + 2 + 1) ru ch (a_n a) lk q) - (1 : Int32) = nI (p + 2) := by
            rw [g_place]
            exact pk_sub (b := 1) (by omega)
          simp only [if_neg (e_m9 (by omega : k < 100))]
          rw [epl, h_place]
          by_cases g2 : k = i
          · left
            rw [if_pos (ekk.2 g2), if_pos (ekk2.2 g2)]
            exact ⟨p + 2, by omega, rfl, rfl⟩
          · rw [if_neg (fun z => g2 (ekk.1 z)), if_neg (fun z => g2 (ekk2.1 z)), pu_in_t (by omega : k < 6) (by decide), pu_n (by omega : k < 2 ^ 31), (R.2.2.2.1 k hk).1, pu_in_t (by omega : i < 6) (by decide), pu_n (by omega : i < 2 ^ 31), g_likes, hlk i (by omega)]
            have hlt := p_lk_lt (a := a) i
            have ea := pu_and (a_L a k) i (by omega)
            have hbit : (p_lk a i).testBit k = (a_L a k).testBit i := by rw [p_lk_bit]; simp [hk]
            rw [r_has (by omega) (by omega), hbit]
            simp only [cond_true, Option.bind_some]
            cases hL : (a_L a k).testBit i
            · right
              rw [if_pos (ea.2 hL), f_ob (c_toggle R (by omega : i < a_n a) hk)]
              have eo : nI (p_lk a i) ||| ((1 : Int32) <<< (nI k &&& 31)) = nI (p_lk a i ^^^ 2 ^ k) := by
                rw [pu_sh k (by omega), fa_or, xor_in (by rw [hbit, hL])]
              have ep : md_readPairs (rd_at m t N (p + 2 + 1) ru ch (a_n a) lk q) + (1 : Int32) = nI (q + 1) := nI_add q 1
              have ep2 : rd_pairs (nI p, nI q) + (1 : Int32) = nI (q + 1) := nI_add q 1
              refine ⟨_, a_tog a i k, upd lk i (nI (p_lk a i ^^^ 2 ^ k)), by omega, by omega, rfl, rfl, ⟨R.tog (by omega), W.tog (by omega) (fun z => g2 z.symm), hb, htin, hdc, hch, fun j hj => ?_⟩, ?_, ?_⟩
              · rw [lk_tog a hk j]
                by_cases gj : j = i
                · rw [gj, pk_us, if_pos rfl]
                · rw [pk_un gj, if_neg gj, hlk j hj]
              · rw [ep2]
              · simp only [cond_false]
                rw [eo, ep, s_pair]
            · left
              rw [if_neg (fun z => by have := ea.1 z; rw [hL] at this; cases this)]
              exact ⟨p + 2, by omega, rfl, rfl⟩
        · left
          rw [f_ob v1, f_ob v2, f_ob rfl]
          have z9 : (-9 : Int32) < 0 := by decide
          rw [if_pos z9]
          exact ⟨p + 2, by omega, rfl, rfl⟩
      · left
        have z9 : ¬ (0 : Int32) ≤ -9 := by decide
        rw [f_ob u1, f_ob u2, if_neg z9]
        exact ⟨p + 1, by omega, rfl, rfl⟩
theorem f_kind (x : Int32) : mo_Reader_kindOf x = mo_Md_kindOfLetter x ∧ (mo_Md_kindOfLetter x = some (-9) ∨ ∃ k, k < 6 ∧ mo_Md_kindOfLetter x = some (nI k)) := by
  have st : ∀ (f j : Nat), j < 6 → lo_Reader_kindOf_2 x (f + 1) (nI j) = if x = nj_kl j then some (nI j) else lo_Reader_kindOf_2 x f (nI (j + 1)) := by
    intro f j hj
    have e : ¬ (6 : Int32) ≤ nI j := nI_ge (b := 6) hj (by omega)
    rw [lo_Reader_kindOf_2, if_neg e, pu_in_t hj (by decide), pu_n (by omega), nI_1]
    rfl
  have st6 : ∀ f, lo_Reader_kindOf_2 x (f + 1) (nI 6) = some (-9) := by
    intro f
    have e : (6 : Int32) ≤ nI 6 := nI_le (a := 6) (by omega) (by decide)
    rw [lo_Reader_kindOf_2, if_pos e]
  have f0 : nj_fu = 993 + 1 + 1 + 1 + 1 + 1 + 1 + 1 := rfl
  have l : mo_Reader_kindOf x = if x = nj_kl 0 then some (nI 0) else if x = nj_kl 1 then some (nI 1) else if x = nj_kl 2 then some (nI 2) else if x = nj_kl 3 then some (nI 3) else if x = nj_kl 4 then some (nI 4) else if x = nj_kl 5 then some (nI 5) else some (-9) := by
    have z : mo_Reader_kindOf x = lo_Reader_kindOf_2 x nj_fu (nI 0) := rfl
    rw [z, f0, st _ 0 (by decide), st _ 1 (by decide), st _ 2 (by decide), st _ 3 (by decide), st _ 4 (by decide), st _ 5 (by decide), st6]
  refine ⟨l, ?_⟩
  rw [mo_Md_kindOfLetter]
  by_cases g0 : x = 109
  · rw [if_pos g0]; exact Or.inr ⟨0, by decide, rfl⟩
  · rw [if_neg g0]
    by_cases g1 : x = 112
    · rw [if_pos g1]; exact Or.inr ⟨1, by decide, rfl⟩
    · rw [if_neg g1]
      by_cases g2 : x = 103
      · rw [if_pos g2]; exact Or.inr ⟨2, by decide, rfl⟩
      · rw [if_neg g2]
        by_cases g3 : x = 116
        · rw [if_pos g3]; exact Or.inr ⟨3, by decide, rfl⟩
        · rw [if_neg g3]
          by_cases g4 : x = 102
          · rw [if_pos g4]; exact Or.inr ⟨4, by decide, rfl⟩
          · rw [if_neg g4]
            by_cases g5 : x = 115
            · rw [if_pos g5]; exact Or.inr ⟨5, by decide, rfl⟩
            · rw [if_neg g5]; exact Or.inl rfl
def a_add (a : AC) (k : Nat) (v : Int32) : AC := (a_n a + 1, (fun i => if i = a_n a then k else a_K a i), (fun i => if i = a_n a then v else a_P a i), (fun i => if i = a_n a then 0 else a_L a i), a_r a, a_b a ||| 2 ^ a_n a, a_t a)
theorem full_or : ∀ n, n < 6 → (2 ^ n - 1) ||| 2 ^ n = 2 ^ (n + 1) - 1 := by decide
theorem lk_add {a : AC} (i : Nat) (k : Nat) (v : Int32) : p_lk (a_add a k v) i = p_lk a i := by
  refine p_bit_ext (fun j => ?_)
  rw [p_lk_bit, p_lk_bit]
  show (decide (j < a_n a + 1) && (if j = a_n a then 0 else a_L a j).testBit i) = _
  by_cases g : j = a_n a
  · rw [if_pos g, Nat.zero_testBit, g]
    simp
  · rw [if_neg g]
    have : decide (j < a_n a + 1) = decide (j < a_n a) := by
      by_cases g2 : j < a_n a
      · have : j < a_n a + 1 := by omega
        simp [g2, this]
      · have : ¬ j < a_n a + 1 := by omega
        simp [g2, this]
    rw [this]
theorem f_child {T : TexS} {m : MdS} {t N : Nat} (X : TX T m t N) {c : CluS} {a : AC} {ch lk : Nat → Int32} (H : RP c a ch lk) {p q : Nat} (hp : p < N) (hq : q ≤ 12) (ru : Int32) : (∃ p2, p2 ≤ N ∧ mo_Reader_readChild (nI p, nI q) T c = some (false, (nI p2, nI q), c) ∧ mo_Md_readsChild (rd_at m t N p ru ch (a_n a) lk q) = some (false, rd_at m t N p2 ru ch (a_n a) lk q)) ∨ (∃ c2 a2 ch2, p + 2 ≤ N ∧ a_r a2 = a_r a ∧ RP c2 a2 ch2 lk ∧ mo_Reader_readChild (nI p, nI q) T c = some (true, (nI (p + 2), nI q), c2) ∧ mo_Md_readsChild (rd_at m t N p ru ch (a_n a) lk q) = some (true, rd_at m t N (p + 2) ru ch2 (a_n a2) lk q)) := by
  obtain ⟨R, W, hb, htin, hdc, hch, hlk⟩ := H
  have hn := R.1.1
  have hN := X.1
  have h6 := pow6 hn
  have hsg := c_sign X (by omega : p ≤ 100)
  rw [if_pos hp] at hsg
  obtain ⟨k1, k2⟩ := f_kind (md_bytes m (60 * t + p))
  have hsg2 : mo_Text_signAt T (rd_place (nI p, nI q)) = some (md_bytes m (60 * t + p)) := hsg
  rw [mo_Reader_readChild, h_child, f_ob hsg2, f_ob (r_here X hp ru ch (a_n a) lk q), k1, R.1.2]
  rcases k2 with k2 | ⟨k, hk, k2⟩
  · left
    have z9 : (-9 : Int32) < 0 := by decide
    rw [k2]
    simp only [Option.bind_some, if_pos z9, if_true]
    exact ⟨p, by omega, rfl, rfl⟩
  · rw [k2]
    simp only [Option.bind_some, if_neg (e_n0 (by omega : k < 100)), if_neg (e_m9 (by omega : k < 100))]
    have l6 : (nI (a_n a) < (6 : Int32)) ↔ a_n a < 6 := nI_ltI (b := 6) (by omega) (by decide)
    have q6 : (nI (a_n a) = (6 : Int32)) ↔ a_n a = 6 := nI_eq (b := 6) (by omega) (by decide)
    have lq : ((0 : Int32) < nI q) ↔ 0 < q := nI_ltI (a := 0) (by decide) (by omega)
    have lq2 : (nI q ≤ (0 : Int32)) ↔ q ≤ 0 := nI_leI (b := 0) (by omega) (by decide)
    by_cases g1 : 0 < q
    · left
      have z : ¬ nI q ≤ (0 : Int32) := fun z => by have := lq2.1 z; omega
      rw [if_pos (lq.2 g1), if_neg z]
      refine ⟨p, by omega, rfl, ?_⟩
      by_cases g2 : nI (a_n a) = (6 : Int32)
      · rw [if_pos g2]
      · rw [if_neg g2]
    · have z : ¬ (0 : Int32) < nI q := fun z => g1 (lq.1 z)
      rw [if_neg z, if_pos (lq2.2 (by omega))]
      by_cases g2 : a_n a = 6
      · left
        have z2 : ¬ nI (a_n a) < (6 : Int32) := fun z => by have := l6.1 z; omega
        rw [if_pos (q6.2 g2), if_neg z2]
        exact ⟨p, by omega, rfl, rfl⟩
      · have z2 : ¬ nI (a_n a) = (6 : Int32) := fun z => g2 (q6.1 z)
        have e1 : rd_place (nI p, nI q) + 1 = nI (p + 1) := nI_add p 1
        have e2 : nI (p + 1) + 1 = nI (p + 2) := nI_add (p + 1) 1
        have e4 : nI p + 1 = nI (p + 1) := nI_add p 1
        rw [if_pos (l6.2 (by omega)), if_neg z2, e1, e2, h_place]
        have ff := f_fig X (A := 10) (by omega : p + 1 ≤ N) (by decide) (by decide) ru ch (a_n a) lk q
        have c10 : nI 10 = (10 : Int32) := rfl
        have c9 : nI (10 - 1) = (9 : Int32) := rfl
        rw [c10, c9] at ff
        rcases ff with ⟨v, hv, hp1, u1, u2⟩ | ⟨u1, u2⟩
        · right
          rw [f_ob u1, f_ob u2, if_pos (nI_pos' (by omega))]
          have ea : mo_Club_addChild c (nI k) (nI v) = some (cs_children (cs_inn (cs_liked (cs_pence (cs_kinds c (upd (cl_kinds c) (a_n a) (nI k))) (upd (cl_pence c) (a_n a) (nI v))) (upd (cl_liked c) (a_n a) 0)) (nI (a_b a ||| 2 ^ a_n a))) (nI (a_n a + 1))) := by
            have z6 : ¬ (6 : Int32) ≤ nI (a_n a) := nI_ge (b := 6) (by omega) (by omega)
            rw [mo_Club_addChild, R.1.2, if_neg z6, pu_in_t (by omega : a_n a < 6) (by decide), pu_n (by omega), R.2.2.2.2.2.1.1, pu_sh2 hn, fa_or, nI_1]
            rfl
          have em : (2 : Int32) * md_readMany (rd_at m t N (p + 1 + 1) ru ch (a_n a) lk q) = nI (2 * a_n a) := pk_mul 2 _
          have em2 : nI (2 * a_n a) + (1 : Int32) = nI (2 * a_n a + 1) := nI_add _ 1
          have em3 : md_readMany (rd_at m t N (p + 1 + 1) ru ch (a_n a) lk q) + (1 : Int32) = nI (a_n a + 1) := nI_add _ 1
          have hpow : 2 ^ (a_n a + 1) = 2 * 2 ^ a_n a := by rw [Nat.pow_succ]; omega
          have hp1' : (1 : Nat) ≤ 2 ^ a_n a := Nat.one_le_two_pow
          have hbf : a_b a ||| 2 ^ a_n a = 2 ^ (a_n a + 1) - 1 := by rw [hb]; exact full_or _ (by omega)
          refine ⟨cs_children (cs_inn (cs_liked (cs_pence (cs_kinds c (upd (cl_kinds c) (a_n a) (nI k))) (upd (cl_pence c) (a_n a) (nI v))) (upd (cl_liked c) (a_n a) 0)) (nI (a_b a ||| 2 ^ a_n a))) (nI (a_n a + 1)), a_add a k (nI v), upd (upd ch (2 * a_n a) (nI k)) (2 * a_n a + 1) (nI v), by omega, rfl, ?_, ?_, ?_⟩
          · have hbl : a_b a ||| 2 ^ a_n a < 2 ^ (a_n a + 1) := by rw [hbf]; omega
            have hLl : ∀ i, i < a_n a + 1 → (if i = a_n a then 0 else a_L a i) < 2 ^ (a_n a + 1) := fun i hi => by
              by_cases g : i = a_n a
              · rw [if_pos g]; omega
              · have := (R.2.2.2.1 i (by omega)).2
                rw [if_neg g]; omega
            have hKl : ∀ i, i < a_n a + 1 → (if i = a_n a then k else a_K a i) < 6 := fun i hi => by
              by_cases g : i = a_n a
              · rw [if_pos g]; exact hk
              · have := (R.2.1 i (by omega)).2
                rw [if_neg g]; exact this
            refine ⟨⟨⟨by show a_n a + 1 ≤ 6; omega, rfl⟩, fun i hi => ⟨?_, hKl i hi⟩, fun i hi => ?_, fun i hi => ⟨?_, hLl i hi⟩, R.2.2.2.2.1, ⟨rfl, hbl⟩, R.2.2.2.2.2.2⟩, ⟨⟨by show a_n a + 1 ≤ 6; omega, hKl, hLl, W.1.2.2.2.1, hbl⟩, fun i hi => ?_, fun i hi => ?_⟩, hbf, htin, hdc, fun i hi => ?_, fun i hi => ?_⟩
            · show upd (cl_kinds c) (a_n a) (nI k) i = nI (if i = a_n a then k else a_K a i)
              by_cases g : i = a_n a
              · rw [g, pk_us, if_pos rfl]
              · have : i < a_n a := by have : i < a_n a + 1 := hi; omega
                rw [pk_un g, if_neg g, (R.2.1 i this).1]
            · show upd (cl_pence c) (a_n a) (nI v) i = if i = a_n a then nI v else a_P a i
              by_cases g : i = a_n a
              · rw [g, pk_us, if_pos rfl]
              · have : i < a_n a := by have : i < a_n a + 1 := hi; omega
                rw [pk_un g, if_neg g, R.2.2.1 i this]
            · show upd (cl_liked c) (a_n a) 0 i = nI (if i = a_n a then 0 else a_L a i)
              by_cases g : i = a_n a
              · rw [g, pk_us, if_pos rfl]
                rfl
              · have : i < a_n a := by have : i < a_n a + 1 := hi; omega
                rw [pk_un g, if_neg g, (R.2.2.2.1 i this).1]
            · show 0 ≤ (if i = a_n a then nI v else a_P a i).toInt ∧ (if i = a_n a then nI v else a_P a i).toInt ≤ 9
              by_cases g : i = a_n a
              · rw [if_pos g, nI_toInt (by omega)]
                omega
              · have : i < a_n a := by have : i < a_n a + 1 := hi; omega
                rw [if_neg g]
                exact W.2.1 i this
            · show (if i = a_n a then 0 else a_L a i).testBit i = false
              by_cases g : i = a_n a
              · rw [if_pos g, Nat.zero_testBit]
              · have : i < a_n a := by have : i < a_n a + 1 := hi; omega
                rw [if_neg g]
                exact W.2.2 i this
            · show upd (upd ch (2 * a_n a) (nI k)) (2 * a_n a + 1) (nI v) (2 * i) = nI (if i = a_n a then k else a_K a i) ∧ upd (upd ch (2 * a_n a) (nI k)) (2 * a_n a + 1) (nI v) (2 * i + 1) = if i = a_n a then nI v else a_P a i
              by_cases g : i = a_n a
              · rw [g, if_pos rfl, if_pos rfl, pk_us, pk_un (by omega), pk_us]
                exact ⟨rfl, rfl⟩
              · have : i < a_n a := by have : i < a_n a + 1 := hi; omega
                rw [if_neg g, if_neg g, pk_un (by omega), pk_un (by omega), pk_un (by omega), pk_un (by omega)]
                exact hch i this
            · rw [lk_add, hlk i hi]
          · rw [f_ob ea]
          · simp only [if_neg (e_m9 (by omega : v < 100))]
            rw [em, em2, em3, pu_in_t (by omega : 2 * a_n a < 12) (by decide), pu_in_t (by omega : 2 * a_n a + 1 < 12) (by decide), pu_n (by omega : 2 * a_n a < 2 ^ 31), pu_n (by omega : 2 * a_n a + 1 < 2 ^ 31), g_ch, s_child]
            rfl
        · left
          have z9 : ¬ (0 : Int32) ≤ -9 := by decide
          rw [f_ob u1, f_ob u2, if_neg z9]
          exact ⟨p + 1, by omega, rfl, rfl⟩
