/-! pure: fee -/
def a_fee (a : AC) : AC := (a_n a, a_K a, p_fp a (a_P a) (a_n a), a_L a, a_r a, a_b a, a_t a + nI (p_ct a (a_n a)))
theorem p_ct_mk (a : AC) {n : Nat} (hn : n ≤ a_n a) : p_sm (fun i => if (p_mk (p_pd a) (a_n a)).testBit i then 1 else 0) n = p_ct a n := by
  apply p_sm_cong
  intro k hk
  rw [p_mk_bit]
  have : k < a_n a := by omega
  simp [this]
theorem undo_fee {a : AC} (hn : a_n a ≤ 6) : p_undo1 (a_fee a) (128 + p_mk (p_pd a) (a_n a)) = a := by
  have hm := p_mk_lt (p_pd a) (a_n a)
  have h6 := pow6 hn
  generalize hM : p_mk (p_pd a) (a_n a) = M at *
  have e0 : (128 + M) % 64 = M := by omega
  unfold p_undo1
  rw [if_neg (by omega), if_neg (by omega), if_pos (by omega), e0]
  have e1 : (fun i => if M.testBit i && decide (i < a_n (a_fee a)) then a_P (a_fee a) i + 1 else a_P (a_fee a) i) = a_P a := by
    funext i
    have hb : M.testBit i = (decide (i < a_n a) && p_pd a i) := by rw [← hM, p_mk_bit]
    show (if M.testBit i && decide (i < a_n a) then p_fp a (a_P a) (a_n a) i + 1 else p_fp a (a_P a) (a_n a) i) = a_P a i
    rw [hb]
    unfold p_fp
    by_cases g : i < a_n a
    · cases h : p_pd a i
      · simp [g]
      · simp [g, Int32.sub_add_cancel]
    · simp [g]
  have e2 : a_t (a_fee a) - nI (p_sm (fun i => if M.testBit i then 1 else 0) (a_n (a_fee a))) = a_t a := by
    show a_t a + nI (p_ct a (a_n a)) - nI (p_sm (fun i => if M.testBit i then 1 else 0) (a_n a)) = a_t a
    rw [← hM, p_ct_mk a (Nat.le_refl _), Int32.add_sub_cancel]
  rw [e1, e2]
  rfl
theorem dd_fee {s : NjS} {m : MdS} (h : Rel s m) {a : AC} {n : Nat} (K : RK (nj_club s) (md_row m) 0 a) (Q : RM m a) (hdc : cl_dc (nj_club s) = nI n) (h0 : md_row m 0 = nI n) (hn : n < 40) : ∃ c2 m2, mo_Club_payFee (nj_club s) = some c2 ∧ mo_Md_doFee m = some (cl_tin c2, m2) ∧ Rel (ns_club s c2) m2 ∧ cl_dc c2 = nI (n + 1) := by
  have hn6 := Q.1.1
  have h6 := pow6 hn6
  have hM := p_mk_lt (p_pd a) (a_n a)
  let c1 : CluS := cs_tin (cs_pence (nj_club s) (p_fp a (cl_pence (nj_club s)) (a_n a))) (cl_tin (nj_club s) + nI (p_ct a (a_n a)))
  have en : mo_Club_note c1 (2 : Int32) (nI (p_mk (p_pd a) (a_n a))) = some (cs_dc (cs_deeds c1 (upd (cl_deeds c1) n (nI (64 * 2 + p_mk (p_pd a) (a_n a))))) (nI (n + 1))) := c_note (k := 2) hdc hn
  have hQ : RM (ms_row m (p_kp (md_row m) n)) a := ⟨Q.1, Q.2.1, Q.2.2.1, Q.2.2.2.kp hn6 n⟩
  refine ⟨cs_dc (cs_deeds c1 (upd (cl_deeds c1) n (nI (64 * 2 + p_mk (p_pd a) (a_n a))))) (nI (n + 1)), ms_row m (p_fr a (p_kp (md_row m) n) (a_n a)), ?_, ?_, ?_, rfl⟩
  · rw [mo_Club_payFee, c_payFee K.1]
    simp only [Option.bind_some]
    exact (congrArg (fun z => z.bind (fun w10 => some w10)) en)
  · rw [mo_Md_doFee, r_keepPast h0 hn]
    simp only [Option.bind_some]
    rw [r_feeLoop hQ]
    have e : p_fr a (p_kp (md_row m) n) (a_n a) 2 = cl_tin (nj_club s) + nI (p_ct a (a_n a)) := by
      unfold p_fr
      rw [if_pos rfl, p_kp_low _ _ (by omega) (by omega), Q.tin, K.1.2.2.2.2.2.2]
    simp only [Option.bind_some]
    show some (p_fr a (p_kp (md_row m) n) (a_n a) 2, _) = some (cl_tin (nj_club s) + nI (p_ct a (a_n a)), _)
    rw [e]
  · have RC2 : RC c1 (a_fee a) := by
      refine ⟨K.1.1, K.1.2.1, fun i hi => ?_, K.1.2.2.2.1, K.1.2.2.2.2.1, K.1.2.2.2.2.2.1, ?_⟩
      · show p_fp a (cl_pence (nj_club s)) (a_n a) i = p_fp a (a_P a) (a_n a) i
        unfold p_fp
        rw [K.1.2.2.1 i hi]
      · show cl_tin (nj_club s) + nI (p_ct a (a_n a)) = a_t a + nI (p_ct a (a_n a))
        rw [K.1.2.2.2.2.2.2]
    have W2 : WB (a_fee a) := by
      refine ⟨Q.1, fun i hi => ?_, K.2.2.1.2.2⟩
      have hP := K.2.2.1.2.1 i hi
      show 0 ≤ (p_fp a (a_P a) (a_n a) i).toInt ∧ (p_fp a (a_P a) (a_n a) i).toInt ≤ 9
      unfold p_fp
      by_cases g : i < a_n a ∧ p_pd a i = true
      · rw [if_pos g]
        have g2 : ¬ a_P a i ≤ 0 := by
          have := g.2
          unfold p_pd at this
          simp only [Bool.and_eq_true, Bool.not_eq_true', decide_eq_false_iff_not] at this
          exact this.2
        have g3 : 0 < (a_P a i).toInt := by
          have := (fa_lt 0 (a_P a i)).1 (fa_of_nle g2)
          simpa using this
        have e1 : (1 : Int32).toInt = 1 := rfl
        rw [fb_subI (by rw [e1]; omega) (by rw [e1]; omega), e1]
        omega
      · rw [if_neg g]
        exact hP
    have r1 : RMr (p_fr a (p_kp (md_row m) n) (a_n a)) 0 (a_fee a) := by
      obtain ⟨r1, r2, r3, r4, r5⟩ := K.2.1.kp hn6 n
      refine ⟨?_, ?_, fun i hi => ?_, fun i hi => ?_, ?_⟩
      · unfold p_fr
        rw [if_neg (by omega), if_neg (by omega)]
        exact r1
      · show (if (0 + 2 : Nat) = 2 then _ else _) = a_t a + nI (p_ct a (a_n a))
        rw [if_pos rfl]
        have : p_kp (md_row m) n 2 = a_t a := r2
        rw [this]
      · have hi' : i < a_n a := hi
        show p_fr a (p_kp (md_row m) n) (a_n a) (0 + 3 + i) = p_fp a (a_P a) (a_n a) i
        unfold p_fr p_fp
        have e3 : 0 + 3 + i - 3 = i := by omega
        rw [if_neg (by omega), e3, r3 i hi']
        by_cases g : p_pd a i = true
        · rw [if_pos ⟨by omega, by omega, g⟩, if_pos ⟨hi', g⟩]
        · rw [if_neg (fun q => g q.2.2), if_neg (fun q => g q.2)]
      · have hi' : i < a_n a := hi
        show p_fr a (p_kp (md_row m) n) (a_n a) (0 + 9 + i) = _
        unfold p_fr
        rw [if_neg (by omega), if_neg (by omega)]
        exact r4 i hi
      · unfold p_fr
        rw [if_neg (by omega), if_neg (by omega)]
        exact r5
    exact h.deed K Q hdc hn (a2 := a_fee a) RC2 rfl (okd_2 (by omega)) (undo_fee hn6) W2 r1 (fun j hj => by
      unfold p_fr
      rw [if_neg (by omega), if_neg (by omega)])
theorem op_fee {s : NjS} {m : MdS} (h : Rel s m) : Same (mo_Nj_fee s) (mo_Md_fee m) := by
  obtain ⟨a, n, K, Q, hdc, h0, hn40⟩ := h.ak
  rw [mo_Nj_fee, mo_Md_fee, K.1.1.2, Q.2.1, hdc, h0]
  by_cases g0 : nI (a_n a) = 0
  · rw [if_pos g0, if_pos g0]
    exact Same.of h _
  · rw [if_neg g0, if_neg g0]
    by_cases g : n < 40
    · have g1 : nI n < (40 : Int32) := nI_lt g (by decide)
      have g2 : ¬ nI n = (40 : Int32) := fun q => by
        have := (nI_eq (b := 40) (by omega) (by decide)).1 q
        omega
      rw [if_pos g1, if_neg g2]
      obtain ⟨c2, m2, w1, w2, w3, w4⟩ := dd_fee h K Q hdc h0 g
      rw [w1, w2]
      exact Same.of w3 _
    · have : n = 40 := by omega
      subst this
      have g1 : ¬ nI 40 < (40 : Int32) := by decide
      have g2 : nI 40 = (40 : Int32) := by decide
      rw [if_neg g1, if_pos g2]
      exact Same.of h _
