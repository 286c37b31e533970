/-! pure: undo -/
theorem i_sub_add (x y : Int32) : x - (y + 1) = x - y - 1 := by
  have h : (x - (y + 1)) + (y + 1) = x := Int32.sub_add_cancel x (y + 1)
  generalize x - (y + 1) = z at h
  subst h
  rw [Int32.add_comm y 1, ← Int32.add_assoc, Int32.add_sub_cancel, Int32.add_sub_cancel]
def p_gb (M : Nat) (f : Nat → Int32) (k : Nat) : Nat → Int32 := fun i => if M.testBit i && decide (i < k) then f i + 1 else f i
def p_gc (M k : Nat) : Nat := p_sm (fun i => if M.testBit i then 1 else 0) k
theorem p_gb_s (M : Nat) (f : Nat → Int32) (k : Nat) : (if M.testBit k then upd (p_gb M f k) k (p_gb M f k k + 1) else p_gb M f k) = p_gb M f (k + 1) := by
  funext i
  unfold p_gb upd
  by_cases g : i = k
  · subst g
    cases h : M.testBit i <;> simp [h]
  · have e : (i < k + 1) ↔ i < k := by omega
    cases h : M.testBit k <;> simp [g, e]
theorem c_giveBack {c : CluS} {n : Nat} (hn : n ≤ 6) (hc : cl_children c = nI n) (M : Nat) : mo_Club_giveBack c (nI M) = some (cs_tin (cs_pence c (p_gb M (cl_pence c) n)) (cl_tin c - nI (p_gc M n))) := by
  have h := pu_loop (fun f (st : CluS) i => lo_Club_giveBack_2 (nI M) f st i) n (fun k => cs_tin (cs_pence c (p_gb M (cl_pence c) k)) (cl_tin c - nI (p_gc M k))) (some (cs_tin (cs_pence c (p_gb M (cl_pence c) n)) (cl_tin c - nI (p_gc M n))))
    (fun f => by
      rw [lo_Club_giveBack_2]
      have : cl_children (cs_tin (cs_pence c (p_gb M (cl_pence c) n)) (cl_tin c - nI (p_gc M n))) = nI n := hc
      rw [this, if_pos (nI_le (Nat.le_refl _) (by omega))])
    (fun f k hk => by
      rw [lo_Club_giveBack_2]
      have e1 : cl_children (cs_tin (cs_pence c (p_gb M (cl_pence c) k)) (cl_tin c - nI (p_gc M k))) = nI n := hc
      have e := pu_and M k (by omega)
      rw [e1, if_neg (nI_ge hk (by omega)), pu_in_t (by omega : k < 6) (by decide), pu_n (by omega), nI_1, ← p_gb_s]
      cases hb : M.testBit k
      · have e2 : p_gc M (k + 1) = p_gc M k := by unfold p_gc; rw [p_sm, hb]; rfl
        rw [if_pos (e.2 hb), e2]
        simp
      · have e2 : p_gc M (k + 1) = p_gc M k + 1 := by unfold p_gc; rw [p_sm, hb]; rfl
        have e3 : cl_tin c - nI (p_gc M k + 1) = cl_tin c - nI (p_gc M k) - 1 := by
          rw [← nI_1, i_sub_add]
        rw [if_neg (fun q => by have := e.1 q; rw [hb] at this; cases this), e2, e3]
        simp only [cond_true, Option.bind_some, if_true])
    n nj_fu 0 (by omega) (pu_fu (by omega))
  have e0 : p_gb M (cl_pence c) 0 = cl_pence c := funext fun i => by unfold p_gb; simp
  have e1 : cl_tin c - nI (p_gc M 0) = cl_tin c := Int32.sub_zero _
  rw [e0, e1] at h
  have h2 : lo_Club_giveBack_2 (nI M) nj_fu c 0 = some (cs_tin (cs_pence c (p_gb M (cl_pence c) n)) (cl_tin c - nI (p_gc M n))) := h
  rw [mo_Club_giveBack, h2]
  rfl
theorem c_undoLast {c : CluS} {b : AC} {q d : Nat} (R : RC c b) (hdc : cl_dc c = nI (q + 1)) (hq : q < 40) (hd : cl_deeds c q = nI d) (ok : p_okd (a_n b) d) (W : WB (p_undo1 b d)) : ∃ c2, mo_Club_undoLast c = some c2 ∧ RC c2 (p_undo1 b d) ∧ cl_dc c2 = nI q ∧ cl_deeds c2 = cl_deeds c := by
  obtain ⟨o1, o2, o3⟩ := ok
  have hn := R.1.1
  have e0 : ¬ nI (q + 1) = 0 := nI_ne0 (by omega) (by omega)
  have e1 : nI d / (64 : Int32) = nI (d / 64) := pk_div (d := 64) (by omega) (by decide) (by decide)
  have e2 : nj_rem (nI d) (64 : Int32) = nI (d % 64) := pk_rem (d := 64) (by omega) (by decide) (by decide)
  have k0 : (nI (d / 64) = (0 : Int32)) ↔ d / 64 = 0 := nI_eq (b := 0) (by omega) (by decide)
  have k1 : (nI (d / 64) = (1 : Int32)) ↔ d / 64 = 1 := nI_eq (b := 1) (by omega) (by decide)
  have k2 : (nI (d / 64) = (2 : Int32)) ↔ d / 64 = 2 := nI_eq (b := 2) (by omega) (by decide)
  rw [mo_Club_undoLast, hdc, if_neg e0, nI_pred, pu_in_t hq (by decide), pu_n (by omega), hd, e1, e2]
  simp only [cond_true, k0, k1, k2]
  have W1 := W.1
  unfold p_undo1 at W1 ⊢
  by_cases g0 : d / 64 = 0
  · rw [if_pos g0]
    simp only [if_pos g0] at W1 ⊢
    have hx := o2 (by omega)
    rw [R.2.2.2.2.2.1.1, pu_sh _ (by omega), fa_or]
    exact ⟨_, rfl, ⟨R.1, R.2.1, R.2.2.1, R.2.2.2.1, R.2.2.2.2.1, ⟨rfl, W1.2.2.2.2⟩, R.2.2.2.2.2.2⟩, rfl, rfl⟩
  · rw [if_neg g0]
    simp only [if_neg g0] at W1 ⊢
    by_cases g1 : d / 64 = 1
    · rw [if_pos g1]
      simp only [if_pos g1] at W1 ⊢
      have hx := o2 (by omega)
      rw [R.2.2.2.2.2.1.1, pu_sh _ (by omega), p_an_nI]
      exact ⟨_, rfl, ⟨R.1, R.2.1, R.2.2.1, R.2.2.2.1, R.2.2.2.2.1, ⟨rfl, W1.2.2.2.2⟩, R.2.2.2.2.2.2⟩, rfl, rfl⟩
    · rw [if_neg g1]
      simp only [if_neg g1] at W1 ⊢
      by_cases g2 : d / 64 = 2
      · rw [if_pos g2]
        simp only [if_pos g2] at W1 ⊢
        have hc : cl_children (cs_dc c (nI q)) = nI (a_n b) := R.1.2
        rw [c_giveBack hn hc]
        refine ⟨_, rfl, ⟨R.1, R.2.1, fun i hi => ?_, R.2.2.2.1, R.2.2.2.2.1, R.2.2.2.2.2.1, ?_⟩, rfl, rfl⟩
        · show p_gb (d % 64) (cl_pence c) (a_n b) i = if (d % 64).testBit i && decide (i < a_n b) then a_P b i + 1 else a_P b i
          unfold p_gb
          rw [R.2.2.1 i hi]
        · show cl_tin c - nI (p_gc (d % 64) (a_n b)) = a_t b - nI (p_sm _ (a_n b))
          rw [R.2.2.2.2.2.2]
          rfl
      · rw [if_neg g2]
        simp only [if_neg g2] at W1 ⊢
        obtain ⟨o4, o5⟩ := o3 (by omega)
        have e3 : nI (d % 64) / (6 : Int32) = nI (d % 64 / 6) := pk_div (d := 6) (by omega) (by decide) (by decide)
        have e4 : nj_rem (nI (d % 64)) (6 : Int32) = nI (d % 64 % 6) := pk_rem (d := 6) (by omega) (by decide) (by decide)
        have R' : RC (cs_dc c (nI q)) b := R
        rw [e3, e4, c_toggle R' o4 o5]
        exact ⟨_, rfl, R'.tog o4, rfl, rfl⟩
/-- the class undoes one by one -/
theorem c_undoLoop {s : NjS} {a : AC} {ds : Nat → Nat} {n N : Nat} {D : Nat → Int32} (hn : n ≤ 40) (hN : N ≤ n) (hds : ∀ j, j < n → D j = nI (ds j) ∧ p_okd (a_n a) (ds j)) (hw : ∀ j, j < n → WB (p_back a ds n (j + 1))) : ∀ (d f j : Nat) (c : CluS), j + d = N → d < f → RC c (p_back a ds n j) → cl_dc c = nI (n - j) → cl_deeds c = D → ∃ c2, lo_Nj_undo_29 (nI N) f (ns_club s c) (nI j) = some (ns_club s c2) ∧ RC c2 (p_back a ds n N) ∧ cl_dc c2 = nI (n - N) ∧ cl_deeds c2 = D := by
  intro d
  induction d with
  | zero =>
    intro f j c hj hf R h1 h2
    obtain ⟨f, rfl⟩ : ∃ z, f = z + 1 := ⟨f - 1, by omega⟩
    have : j = N := by omega
    subst this
    refine ⟨c, ?_, R, h1, h2⟩
    rw [lo_Nj_undo_29, if_pos (nI_le (Nat.le_refl _) (by omega))]
  | succ d ih =>
    intro f j c hj hf R h1 h2
    obtain ⟨f, rfl⟩ : ∃ z, f = z + 1 := ⟨f - 1, by omega⟩
    have hq : n - j = (n - 1 - j) + 1 := by omega
    obtain ⟨c3, w1, w2, w3, w4⟩ := c_undoLast (c := c) (b := p_back a ds n j) (q := n - 1 - j) (d := ds (n - 1 - j)) R (by rw [h1, hq]) (by omega) (by rw [h2]; exact (hds _ (by omega)).1) (by rw [p_back_n]; exact (hds _ (by omega)).2) (hw j (by omega))
    obtain ⟨c2, v1, v2, v3, v4⟩ := ih f (j + 1) c3 (by omega) (by omega) w2 (by rw [w3]; congr 1; omega) (by rw [w4, h2])
    refine ⟨c2, ?_, v2, v3, v4⟩
    rw [lo_Nj_undo_29, if_neg (nI_ge (by omega) (by omega))]
    have e : mo_Club_undoLast (nj_club (ns_club s c)) = some c3 := w1
    rw [e, nI_1]
    exact v1
theorem r_undoLoop (m : MdS) {k n : Nat} (hk : k < n) (hn : n ≤ 40) : lo_Md_undo_29 (nI k) (nI (n - k)) nj_fu m 0 = some (ms_row m (va_cpy (md_row m) (md_row m) (16 + 14 * k) 1 14)) := by
  have hz : ¬ nI (n - k) ≤ 0 := nI_nle (by omega) (by omega)
  have h := pu_loop (fun f (st : MdS) i => lo_Md_undo_29 (nI k) (nI (n - k)) f st i) 14 (fun j => ms_row m (va_cpy (md_row m) (md_row m) (16 + 14 * k) 1 j)) (some (ms_row m (va_cpy (md_row m) (md_row m) (16 + 14 * k) 1 14)))
    (fun f => by
      have e0 : (14 : Int32) ≤ nI 14 := nI_le (Nat.le_refl 14) (by decide)
      rw [lo_Md_undo_29, if_pos e0])
    (fun f j hj => by
      have e2 : ¬ ((14 : Int32) ≤ nI j) := nI_ge hj (by decide)
      have e4 : ((16 : Int32) + ((14 : Int32) * nI k)) + nI j = nI (16 + 14 * k + j) := by
        have : (14 : Int32) * nI k = nI (14 * k) := pk_mul 14 k
        rw [this]
        have : (16 : Int32) + nI (14 * k) = nI (16 + 14 * k) := nI_add 16 (14 * k)
        rw [this, nI_add]
      have e5 : (1 : Int32) + nI j = nI (1 + j) := nI_add 1 j
      rw [lo_Md_undo_29, if_neg e2, if_neg hz, e4, e5, pu_in_t (by omega : 1 + j < 2304) (by decide), pu_in_t (by omega : 16 + 14 * k + j < 2304) (by decide), pu_n (by omega), pu_n (by omega), nI_1, ← cpy_fwd (md_row m) (by omega)]
      rfl)
    14 nj_fu 0 (by omega) (pu_fu (by omega))
  have e0 : va_cpy (md_row m) (md_row m) (16 + 14 * k) 1 0 = md_row m := funext fun j => pk_cpy_out (by omega)
  rw [e0] at h
  exact h
theorem op_undo {s : NjS} {m : MdS} (h : Rel s m) (x : Int32) : Same (mo_Nj_undo s x) (mo_Md_undo m x) := by
  obtain ⟨a, n, K, Q, hdc, h0, hn40⟩ := h.ak
  have hn6 := Q.1.1
  have h7 : mo_Md_in (Int32.toInt64 x) (0 : Int64) (Int32.toInt64 (nI n)) = some (decide ((0 : Int32) ≤ x) && decide (x ≤ nI n)) := r_in x 0 (nI n)
  rw [mo_Nj_undo, mo_Md_undo, hdc, h0, h7]
  simp only [Option.bind_some]
  by_cases g1 : x < 0
  · have : ¬ 0 ≤ x := (fa_of_lt g1).2.1
    rw [if_pos g1, decide_eq_false this]
    exact Same.of h _
  · have g1' : 0 ≤ x := fa_of_nlt g1
    rw [if_neg g1, decide_eq_true g1']
    by_cases g2 : x ≤ nI n
    · rw [if_pos g2, decide_eq_true g2]
      simp only [Bool.and_self, cond_true]
      obtain ⟨k, hk, rfl⟩ := nI_of2 (x := x) (M := nI n) (n := n) (nI_toInt (by omega)) g1 g2
      obtain ⟨R, M, W, n2, ds, d1, d2, d3, d4, d5⟩ := K
      have en : n2 = n := (nI_eq (by omega) (by omega)).1 (d2.symm.trans hdc)
      subst en
      rw [pk_sub hk]
      obtain ⟨c2, v1, v2, v3, v4⟩ := c_undoLoop (s := s) (a := a) (ds := ds) (n := n2) (N := n2 - k) (D := cl_deeds (nj_club s)) hn40 (by omega) d4 (fun j hj => (d5 j hj).1) (n2 - k) nj_fu 0 (nj_club s) (by omega) (pu_fu (by omega)) R (by rw [hdc]; rfl) rfl
      have v1' : lo_Nj_undo_29 (nI (n2 - k)) nj_fu s 0 = some (ns_club s c2) := v1
      rw [v1']
      have enk : n2 - (n2 - k) = k := by omega
      rw [enk] at v3
      -- the reference
      have hrow : ∃ row2, (lo_Md_undo_29 (nI k) (nI (n2 - k)) nj_fu m 0).bind (fun x5 => (some ((nI (n2 - k)), (ms_row x5 (upd (md_row x5) 0 (nI k)))))) = some (nI (n2 - k), ms_row m row2) ∧ row2 0 = nI k ∧ RMr row2 0 (p_back a ds n2 (n2 - k)) ∧ (∀ j, 16 ≤ j → row2 j = md_row m j) := by
        by_cases gk : k = n2
        · subst gk
          refine ⟨upd (md_row m) 0 (nI k), ?_, pk_us, ?_, fun j hj => pk_un (by omega)⟩
          · have : nj_fu = 999 + 1 := rfl
            rw [this, lo_Md_undo_29, Nat.sub_self]
            have e1 : ¬ (14 : Int32) ≤ 0 := by decide
            have e2 : nI 0 ≤ (0 : Int32) := by decide
            rw [if_neg e1, if_pos e2]
            rfl
          · rw [Nat.sub_self]
            obtain ⟨r1, r2, r3, r4, r5⟩ := M
            refine ⟨?_, ?_, fun i hi => ?_, fun i hi => ?_, ?_⟩
            · rw [pk_un (by omega)]; exact r1
            · rw [pk_un (by omega)]; exact r2
            · rw [pk_un (by omega)]; exact r3 i hi
            · rw [pk_un (by omega)]; exact r4 i hi
            · rw [pk_un (by omega)]; exact r5
        · have hlt : k < n2 := by omega
          refine ⟨upd (va_cpy (md_row m) (md_row m) (16 + 14 * k) 1 14) 0 (nI k), ?_, pk_us, ?_, fun j hj => ?_⟩
          · rw [r_undoLoop m hlt hn40]
            rfl
          · obtain ⟨w, p1, p2, p3, p4⟩ := d5 (n2 - k - 1) (by omega)
            have eN : n2 - k - 1 + 1 = n2 - k := by omega
            have eq0 : 0 + 16 + 14 * (n2 - 1 - (n2 - k - 1)) = 16 + 14 * k := by omega
            rw [eN] at p1 p2 p3 p4
            simp only [eq0] at p1 p2 p3 p4
            have hnb := p_back_n a ds n2 (n2 - k)
            refine ⟨?_, ?_, fun i hi => ?_, fun i hi => ?_, ?_⟩
            · rw [pk_un (by omega), pk_cpy_in (by omega) (by omega)]; exact p1
            · rw [pk_un (by omega), pk_cpy_in (by omega) (by omega)]; exact p2
            · rw [hnb] at hi
              rw [pk_un (by omega), pk_cpy_in (by omega) (by omega), ← p3 i hi]
              congr 1
              omega
            · rw [hnb] at hi
              rw [pk_un (by omega), pk_cpy_in (by omega) (by omega), ← p4 i hi]
              congr 1
              omega
            · rw [pk_un (by omega), pk_cpy_out (by omega), p_back_r]
              exact Q.rul
          · rw [pk_un (by omega), pk_cpy_out (by omega)]
      obtain ⟨row2, w1, w2, w3, w4⟩ := hrow
      rw [w1]
      have K2 : RK c2 row2 0 (p_back a ds n2 (n2 - k)) := by
        refine ⟨v2, w3, ?_, k, ds, by omega, v3, w2, fun j hj => ?_, fun j hj => ?_⟩
        · by_cases gk : k = n2
          · subst gk
            rw [Nat.sub_self]
            exact W
          · have := (d5 (n2 - k - 1) (by omega)).1
            have eN : n2 - k - 1 + 1 = n2 - k := by omega
            rw [eN] at this
            exact this
        · rw [v4, p_back_n]
          exact d4 j (by omega)
        · have e1 : p_back (p_back a ds n2 (n2 - k)) ds k (j + 1) = p_back a ds n2 (n2 - k + j + 1) := by
            have := p_back_k a ds n2 (n2 - k) (j + 1)
            rw [enk] at this
            exact this
          obtain ⟨q0, q1, q2, q3, q4⟩ := d5 (n2 - k + j) (by omega)
          have eq0 : 0 + 16 + 14 * (n2 - 1 - (n2 - k + j)) = 0 + 16 + 14 * (k - 1 - j) := by omega
          simp only [eq0] at q1 q2 q3 q4
          rw [e1, p_back_n]
          refine ⟨q0, ?_, ?_, fun i hi => ?_, fun i hi => ?_⟩
          · show row2 (0 + 16 + 14 * (k - 1 - j)) = _
            rw [w4 _ (by omega)]; exact q1
          · show row2 (0 + 16 + 14 * (k - 1 - j) + 1) = _
            rw [w4 _ (by omega)]; exact q2
          · show row2 (0 + 16 + 14 * (k - 1 - j) + 2 + i) = _
            rw [w4 _ (by omega)]; exact q3 i hi
          · show row2 (0 + 16 + 14 * (k - 1 - j) + 8 + i) = _
            rw [w4 _ (by omega)]; exact q4 i hi
      refine ⟨_, _, _, rfl, rfl, h.1, h.2.1, h.2.2.1.set (a2 := p_back a ds n2 (n2 - k)) (by rw [p_back_n]; exact Q.2.1) (by rw [p_back_n, p_back_K]; exact Q.2.2.1) K2 (fun j hj => w4 j (by omega)), h.2.2.2⟩
    · rw [if_neg g2, decide_eq_false g2]
      exact Same.of h _
