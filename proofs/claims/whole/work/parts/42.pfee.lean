/-! pure: fee -/
def p_pd (a : AC) (i : Nat) : Bool := (a_b a).testBit i && !decide (a_P a i ≤ 0)
def p_ct (a : AC) (k : Nat) : Nat := p_sm (fun i => if p_pd a i then 1 else 0) k
def p_fp (a : AC) (f : Nat → Int32) (k : Nat) : Nat → Int32 := fun i => if i < k ∧ p_pd a i = true then f i - 1 else f i
theorem p_fp_s (a : AC) (f : Nat → Int32) (k : Nat) : (if p_pd a k then upd (p_fp a f k) k (p_fp a f k k - 1) else p_fp a f k) = p_fp a f (k + 1) := by
  funext i
  unfold p_fp upd
  by_cases g : i = k
  · subst g
    cases h : p_pd a i <;> simp [h]
  · have e : (i < k + 1) ↔ i < k := by omega
    cases h : p_pd a k <;> simp [g, e]
theorem c_payFee {c : CluS} {a : AC} (R : RC c a) : lo_Club_payFee_4 nj_fu c 0 0 = some (cs_tin (cs_pence c (p_fp a (cl_pence c) (a_n a))) (cl_tin c + nI (p_ct a (a_n a))), nI (p_mk (p_pd a) (a_n a))) := by
  have hn := R.1.1
  have hc := R.1.2
  have h := pu_loop (fun f (st : CluS × Int32) i => lo_Club_payFee_4 f st.1 st.2 i) (a_n a) (fun k => (cs_tin (cs_pence c (p_fp a (cl_pence c) k)) (cl_tin c + nI (p_ct a k)), nI (p_mk (p_pd a) k))) (some (cs_tin (cs_pence c (p_fp a (cl_pence c) (a_n a))) (cl_tin c + nI (p_ct a (a_n a))), nI (p_mk (p_pd a) (a_n a))))
    (fun f => by
      show lo_Club_payFee_4 (f + 1) (cs_tin (cs_pence c (p_fp a (cl_pence c) (a_n a))) (cl_tin c + nI (p_ct a (a_n a)))) _ _ = _
      rw [lo_Club_payFee_4]
      have : cl_children (cs_tin (cs_pence c (p_fp a (cl_pence c) (a_n a))) (cl_tin c + nI (p_ct a (a_n a)))) = nI (a_n a) := hc
      rw [this, if_pos (nI_le (Nat.le_refl _) (by omega))])
    (fun f k hk => by
      show lo_Club_payFee_4 (f + 1) (cs_tin (cs_pence c (p_fp a (cl_pence c) k)) (cl_tin c + nI (p_ct a k))) (nI (p_mk (p_pd a) k)) (nI k) = lo_Club_payFee_4 f (cs_tin (cs_pence c (p_fp a (cl_pence c) (k + 1))) (cl_tin c + nI (p_ct a (k + 1)))) (nI (p_mk (p_pd a) (k + 1))) (nI (k + 1))
      rw [lo_Club_payFee_4]
      have e1 : cl_children (cs_tin (cs_pence c (p_fp a (cl_pence c) k)) (cl_tin c + nI (p_ct a k))) = nI (a_n a) := hc
      have e2 : cl_inn (cs_tin (cs_pence c (p_fp a (cl_pence c) k)) (cl_tin c + nI (p_ct a k))) = nI (a_b a) := R.2.2.2.2.2.1.1
      have e3 : cl_pence (cs_tin (cs_pence c (p_fp a (cl_pence c) k)) (cl_tin c + nI (p_ct a k))) k = a_P a k := by
        show p_fp a (cl_pence c) k k = a_P a k
        unfold p_fp
        rw [if_neg (by omega), R.2.2.1 k hk]
      have e4 : p_fp a (cl_pence c) k k = a_P a k := e3
      have e5 := p_fp_s a (cl_pence c) k
      rw [e1, if_neg (nI_ge hk (by omega)), c_isIn2 e2 (by omega), pu_in_t (by omega : k < 6) (by decide), pu_n (by omega), e3, nI_1, ← p_or0 _ k (by omega)]
      simp only [Option.bind_some, cond_true]
      rw [← e5]
      show _ = lo_Club_payFee_4 f (cs_tin (cs_pence c (if p_pd a k then upd (p_fp a (cl_pence c) k) k (p_fp a (cl_pence c) k k - 1) else p_fp a (cl_pence c) k)) (cl_tin c + nI (p_ct a k + if p_pd a k then 1 else 0))) _ _
      rw [e4]
      cases hb : (a_b a).testBit k
      · have hp : p_pd a k = false := by unfold p_pd; simp [hb]
        rw [hp]
        simp
      · by_cases g : a_P a k ≤ 0
        · have hp : p_pd a k = false := by unfold p_pd; simp [g]
          rw [hp]
          simp [g]
        · have hp : p_pd a k = true := by unfold p_pd; simp [hb, g]
          have e8 : cl_tin c + nI (p_ct a k + 1) = cl_tin c + nI (p_ct a k) + 1 := by rw [← nI_1, Int32.add_assoc]
          rw [hp]
          simp only [cond_true, if_neg g, Option.bind_some, if_true]
          rw [e8])
    (a_n a) nj_fu 0 (by omega) (pu_fu (by omega))
  have e0 : p_fp a (cl_pence c) 0 = cl_pence c := funext fun i => if_neg (by omega)
  have e1 : cl_tin c + nI (p_ct a 0) = cl_tin c := Int32.add_zero _
  rw [e0, e1] at h
  exact h
/-- the row of the reference, once the first k have paid -/
def p_fr (a : AC) (row : Nat → Int32) (k : Nat) : Nat → Int32 := fun j => if j = 2 then row 2 + nI (p_ct a k) else if 3 ≤ j ∧ j < 3 + k ∧ p_pd a (j - 3) = true then row j - 1 else row j
theorem p_fr_s (a : AC) (row : Nat → Int32) (k : Nat) : (if p_pd a k then upd (upd (p_fr a row k) (3 + k) (p_fr a row k (3 + k) - 1)) 2 (upd (p_fr a row k) (3 + k) (p_fr a row k (3 + k) - 1) 2 + 1) else p_fr a row k) = p_fr a row (k + 1) := by
  funext j
  by_cases g2 : j = 2
  · subst g2
    cases h : p_pd a k
    · have : p_ct a (k + 1) = p_ct a k := by unfold p_ct; rw [p_sm, h]; rfl
      unfold p_fr
      simp [this]
    · have : p_ct a (k + 1) = p_ct a k + 1 := by unfold p_ct; rw [p_sm, h]; rfl
      rw [if_pos rfl, pk_us, pk_un (by omega)]
      show (if (2 : Nat) = 2 then row 2 + nI (p_ct a k) else _) + 1 = (if (2 : Nat) = 2 then row 2 + nI (p_ct a (k + 1)) else _)
      rw [if_pos rfl, if_pos rfl, this, ← nI_1, Int32.add_assoc]
  · by_cases g : j = 3 + k
    · subst g
      have e3 : 3 + k - 3 = k := by omega
      cases h : p_pd a k
      · unfold p_fr
        simp [g2, e3, h]
      · rw [if_pos rfl, pk_un g2, pk_us]
        unfold p_fr
        rw [if_neg g2, if_neg (by omega), if_neg g2, if_pos ⟨by omega, by omega, by rw [e3]; exact h⟩]
    · have e : (3 ≤ j ∧ j < 3 + (k + 1) ∧ p_pd a (j - 3) = true) ↔ (3 ≤ j ∧ j < 3 + k ∧ p_pd a (j - 3) = true) := by
        constructor
        · intro ⟨x, y, z⟩
          exact ⟨x, by omega, z⟩
        · intro ⟨x, y, z⟩
          exact ⟨x, by omega, z⟩
      have e7 : p_fr a row (k + 1) j = p_fr a row k j := by
        unfold p_fr
        rw [if_neg g2, if_neg g2]
        simp only [e]
      rw [e7]
      cases h : p_pd a k
      · simp
      · rw [if_pos rfl, pk_un g2, pk_un g]
theorem r_feeLoop {m : MdS} {a : AC} (Q : RM m a) : lo_Md_doFee_6 nj_fu m 0 = some (ms_row m (p_fr a (md_row m) (a_n a))) := by
  have hn := Q.1.1
  have h6 := pow6 hn
  have hb6 := Q.1.2.2.2.2
  have hc := Q.2.1
  have h := pu_loop (fun f (st : MdS) i => lo_Md_doFee_6 f st i) (a_n a) (fun k => ms_row m (p_fr a (md_row m) k)) (some (ms_row m (p_fr a (md_row m) (a_n a))))
    (fun f => by
      rw [lo_Md_doFee_6]
      have : md_children (ms_row m (p_fr a (md_row m) (a_n a))) = nI (a_n a) := hc
      rw [this, if_pos (nI_le (Nat.le_refl _) (by omega))])
    (fun f k hk => by
      rw [lo_Md_doFee_6]
      have e1 : md_children (ms_row m (p_fr a (md_row m) k)) = nI (a_n a) := hc
      have e2 : md_row (ms_row m (p_fr a (md_row m) k)) 1 = nI (a_b a) := by
        show p_fr a (md_row m) k 1 = _
        unfold p_fr
        rw [if_neg (by omega), if_neg (by omega), Q.inn]
      have e3' : md_row (ms_row m (p_fr a (md_row m) k)) (3 + k) = a_P a k := by
        show p_fr a (md_row m) k (3 + k) = _
        unfold p_fr
        rw [if_neg (by omega), if_neg (by omega), Q.pen hk]
      have e4 : p_fr a (md_row m) k (3 + k) = a_P a k := e3'
      rw [e1, if_neg (nI_ge hk (by omega)), r_isIn2 e2 (by omega) (by omega), e3, pu_in_t (by omega : 3 + k < 2304) (by decide), pu_n (by omega), nI_1, ← p_fr_s, e3', e4]
      simp only [Option.bind_some, cond_true]
      cases hb : (a_b a).testBit k
      · have hp : p_pd a k = false := by unfold p_pd; simp [hb]
        rw [hp]
        simp
      · by_cases g : a_P a k ≤ 0
        · have hp : p_pd a k = false := by unfold p_pd; simp [g]
          rw [hp]
          simp [g]
        · have hp : p_pd a k = true := by unfold p_pd; simp [hb, g]
          rw [hp]
          simp only [cond_true, if_neg g, Option.bind_some, if_true])
    (a_n a) nj_fu 0 (by omega) (pu_fu (by omega))
  have e0 : p_fr a (md_row m) 0 = md_row m := by
    funext j
    unfold p_fr
    by_cases g : j = 2
    · subst g
      rw [if_pos rfl]
      exact Int32.add_zero _
    · rw [if_neg g, if_neg (by omega)]
  rw [e0] at h
  exact h
