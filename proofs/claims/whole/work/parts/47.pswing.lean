/-! pure: swing, secrets, share, stands, splits -/
theorem RM.tog {m : MdS} {a : AC} (Q : RM m a) {i k : Nat} (hi : i < a_n a) (hk : k < a_n a) : RM (ms_row m (upd (md_row m) (9 + i) (nI (p_lk a i ^^^ 2 ^ k)))) (a_tog a i k) := ⟨Q.1.tog hi, Q.2.1, Q.2.2.1, Q.2.2.2.tog Q.1.1 hi hk⟩
theorem row_back (f : Nat → Int32) (j : Nat) {x : Int32} (h : f j = x) (y : Int32) : upd (upd f j y) j x = f := by
  rw [fa_upd_twice, fa_upd_same h]
theorem p_sm_vs_tog (a : AC) (i k S : Nat) : p_vs (a_tog a i k) S = p_vs a S := rfl
theorem p_po_tog (a : AC) (i k j S L r : Nat) : p_po (a_tog a i k) j S L r = p_po a j S L r := rfl
def p_sw (a : AC) (i : Nat) (b : Bool) (k : Nat) : Bool := !decide (k = i) && ((a_b a).testBit k && (p_po a i (a_b a) (a_L a i ^^^ 2 ^ k) (a_r a) ^^ b))
theorem nj_b_eq (x y : Bool) : (nj_b x = nj_b y) ↔ x = y := by cases x <;> cases y <;> decide
theorem op_swing {s : NjS} {m : MdS} (h : Rel s m) (x : Int32) : ∃ v, mo_Nj_swing s x = some v ∧ mo_Md_swing m x = some (v, m) := by
  obtain ⟨a, R, Q, W⟩ := h.ac
  have hn := R.1.1
  have h6 := pow6 hn
  have hb := Q.1.2.2.2.2
  have hr4 := Q.1.2.2.2.1
  have n4 : ¬ (-4 : Int32) = 0 := by decide
  have n1 : ¬ (-1 : Int32) = 0 := by decide
  rw [mo_Nj_swing, mo_Md_swing, r_isChild Q]
  rcases f_oneIn R x with ⟨i, hi, rfl, b1, b2, b3⟩ | ⟨i, hi, rfl, b1, b2, b3⟩ | ⟨b2, b3⟩
  · rw [b2, b3, pu_in_t (by omega : i < 6) (by decide), pu_n (by omega), (R.2.2.2.1 i hi).1, R.2.2.2.2.2.1.1, R.2.2.2.2.1.1, c_isPutOut R hi hr4]
    simp only [Option.bind_some, cond_true, if_true]
    rw [r_isIn Q (by omega), b1, Q.inn, Q.rul, r_isOut Q hi (by omega) hr4]
    simp only [Option.bind_some, cond_true]
    generalize hB : p_po a i (a_b a) (a_L a i) (a_r a) = B
    have hc := pu_loop (fun f v j => lo_Nj_swing_50 s (nI i) (nj_b B) f v j) (a_n a) (fun k => nI (p_mk (p_sw a i B) k)) (some (nI (p_mk (p_sw a i B) (a_n a))))
      (fun f => by rw [lo_Nj_swing_50, R.1.2, if_pos (nI_le (Nat.le_refl _) (by omega))])
      (fun f k hk => by
        have e : (nI k = nI i) ↔ k = i := nI_eq (by omega) (by omega)
        have eor : ∀ z : Int32, z ||| (0 : Int32) = z := fun z => Int32.or_zero
        rw [lo_Nj_swing_50, R.1.2, if_neg (nI_ge hk (by omega)), pu_in_t (by omega : i < 6) (by decide), pu_n (by omega), (R.2.2.2.1 i hi).1, c_isIn R (by omega), R.2.2.2.2.2.1.1, R.2.2.2.2.1.1, ← p_or0 _ k (by omega), nI_1]
        have exx : nI (a_L a i) ^^^ ((1 : Int32) <<< (nI k &&& 31)) = nI (a_L a i ^^^ 2 ^ k) := by rw [pu_sh k (by omega), fb_xorI]
        rw [exx, c_isPutOut R hi hr4]
        simp only [cond_true, Option.bind_some, e, nj_b_eq]
        unfold p_sw
        by_cases g : k = i
        · simp [g, eor]
        · cases (a_b a).testBit k
          · simp [g, eor]
          · cases p_po a i (a_b a) (a_L a i ^^^ 2 ^ k) (a_r a) <;> cases B <;> simp [g, eor])
      (a_n a) nj_fu 0 (by omega) (pu_fu (by omega))
    have hr := pu_loop (fun f (st : Int32) j => lo_Md_swing_45 (nI i) (nj_b B) f m st j) (a_n a) (fun k => nI (p_mk (p_sw a i B) k)) (some (m, nI (p_mk (p_sw a i B) (a_n a))))
      (fun f => by rw [lo_Md_swing_45, Q.2.1, if_pos (nI_le (Nat.le_refl _) (by omega))])
      (fun f k hk => by
        have e : (nI k = nI i) ↔ k = i := nI_eq (by omega) (by omega)
        have eor : ∀ z : Int32, z ||| (0 : Int32) = z := fun z => Int32.or_zero
        have hlk := p_lk_lt (a := a) k
        have exx : nI (p_lk a k) ^^^ ((1 : Int32) <<< (nI i &&& 31)) = nI (p_lk a k ^^^ 2 ^ i) := by rw [pu_sh i (by omega), fb_xorI]
        have eyy : nI (p_lk a k ^^^ 2 ^ i) ^^^ ((1 : Int32) <<< (nI i &&& 31)) = nI (p_lk a k) := by rw [pu_sh i (by omega), fb_xorI, Nat.xor_assoc, Nat.xor_self, Nat.xor_zero]
        have Q2 : RM (ms_row m (upd (md_row m) (9 + k) (nI (p_lk a k ^^^ 2 ^ i)))) (a_tog a k i) := Q.tog hk hi
        have q1 : upd (md_row m) (9 + k) (nI (p_lk a k ^^^ 2 ^ i)) 15 = nI (a_r a) := Q2.rul
        have q2 : upd (md_row m) (9 + k) (nI (p_lk a k ^^^ 2 ^ i)) 1 = nI (a_b a) := Q2.inn
        have q3 : mo_Md_isOut (ms_row m (upd (md_row m) (9 + k) (nI (p_lk a k ^^^ 2 ^ i)))) (nI (a_r a)) (nI i) (nI (a_b a)) = some (p_po a i (a_b a) (a_L a i ^^^ 2 ^ k) (a_r a)) := by
          have := r_isOut Q2 (i := i) (S := a_b a) (r := a_r a) hi (by omega) hr4
          rw [this, p_po_tog]
          show some (p_po a i (a_b a) (if i = i then a_L a i ^^^ 2 ^ k else a_L a i) (a_r a)) = _
          rw [if_pos rfl]
        have q4 : upd (upd (md_row m) (9 + k) (nI (p_lk a k ^^^ 2 ^ i))) (9 + k) (nI (p_lk a k)) = md_row m := row_back _ _ (Q.lik hk) _
        rw [lo_Md_swing_45, Q.2.1, if_neg (nI_ge hk (by omega)), e9, pu_in_t (by omega : 9 + k < 2304) (by decide), pu_n (by omega), r_isIn Q (by omega), Q.lik hk, exx, q1, q2, q3, pk_us, eyy, q4, ← p_or0 _ k (by omega), nI_1]
        have eta : ms_row m (md_row m) = m := rfl
        simp only [cond_true, Option.bind_some, e, nj_b_eq, eta]
        unfold p_sw
        by_cases g : k = i
        · simp [g, eor]
        · cases (a_b a).testBit k
          · simp [g, eor]
          · cases p_po a i (a_b a) (a_L a i ^^^ 2 ^ k) (a_r a) <;> cases B <;> simp [g, eor])
      (a_n a) nj_fu 0 (by omega) (pu_fu (by omega))
    have hc2 : lo_Nj_swing_50 s (nI i) (nj_b B) nj_fu 0 0 = _ := hc
    have hr2 : lo_Md_swing_45 (nI i) (nj_b B) nj_fu m 0 0 = _ := hr
    rw [hc2, hr2]
    exact ⟨_, rfl, rfl⟩
  · rw [b2, b3]
    simp only [Option.bind_some, cond_true, if_neg n4]
    rw [r_isIn Q (by omega), b1]
    exact ⟨_, rfl, rfl⟩
  · rw [b2, b3]
    simp only [Option.bind_some, cond_false, if_neg n1]
    exact ⟨_, rfl, rfl⟩
