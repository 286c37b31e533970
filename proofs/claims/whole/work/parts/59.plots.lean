/-! pure: lots -/
theorem ch_note {c c2 : CluS} {x y : Int32} (h : mo_Club_note c x y = some c2) : cl_children c2 = cl_children c := by
  rw [mo_Club_note] at h
  by_cases g : (40 : Int32) ≤ cl_dc c
  · rw [if_pos g] at h
    cases h
    rfl
  · rw [if_neg g] at h
    cases q : nj_in (cl_dc c) 40
    · rw [q] at h
      cases h
    · rw [q] at h
      cases h
      rfl
theorem ch_out {c c2 : CluS} {x : Int32} (h : mo_Club_putOut c x = some c2) : cl_children c2 = cl_children c := by
  rw [mo_Club_putOut] at h
  cases q : mo_Club_note (cs_inn c ((cl_inn c) &&& (((1 : Int32) <<< (x &&& 31)) ^^^ (-1 : Int32)))) (0 : Int32) x with
  | none => rw [q] at h; cases h
  | some w =>
    rw [q] at h
    cases h
    have qq := ch_note q
    exact qq
theorem ch_in {c c2 : CluS} {x : Int32} (h : mo_Club_letIn c x = some c2) : cl_children c2 = cl_children c := by
  rw [mo_Club_letIn] at h
  cases q : mo_Club_note (cs_inn c ((cl_inn c) ||| ((1 : Int32) <<< (x &&& 31)))) (1 : Int32) x with
  | none => rw [q] at h; cases h
  | some w =>
    rw [q] at h
    cases h
    have qq := ch_note q
    exact qq
theorem ch_fee {c c2 : CluS} {a : AC} (R : RC c a) (h : mo_Club_payFee c = some c2) : cl_children c2 = cl_children c := by
  rw [mo_Club_payFee, c_payFee R] at h
  simp only [Option.bind_some] at h
  cases q : mo_Club_note (cs_tin (cs_pence c (p_fp a (cl_pence c) (a_n a))) (cl_tin c + nI (p_ct a (a_n a)))) (2 : Int32) (nI (p_mk (p_pd a) (a_n a))) with
  | none => rw [q] at h; cases h
  | some w =>
    rw [q] at h
    cases h
    have qq := ch_note q
    exact qq
theorem ch_tog {c c2 : CluS} {a : AC} (R : RC c a) {i k : Nat} (hi : i < a_n a) (hk : k < a_n a) (h : mo_Club_bearGrudge c (nI i) (nI k) = some c2) : cl_children c2 = cl_children c := by
  rw [mo_Club_bearGrudge, c_toggle R hi hk] at h
  simp only [Option.bind_some] at h
  cases q : mo_Club_note (cs_liked c (upd (cl_liked c) k (nI (a_L a k ^^^ 2 ^ i)))) (3 : Int32) (((6 : Int32) * nI i) + nI k) with
  | none => rw [q] at h; cases h
  | some w =>
    rw [q] at h
    cases h
    have qq := ch_note q
    exact qq
theorem f_lot {s : NjS} {m : MdS} (h : Rel s m) {a : AC} {n z : Nat} (K : RK (nj_club s) (md_row m) 0 a) (Q : RM m a) (hdc : cl_dc (nj_club s) = nI n) (h0 : md_row m 0 = nI n) (hn : n < 40) (hz : z < 2 ^ 31) (hp : 0 < a_n a) : ∃ c2 m2, mo_Club_doByLot (nj_club s) (nI z) = some c2 ∧
    (bif (p_out a (a_b a)).testBit (z % a_n a) then ((mo_Md_doTurn m (nI (z % a_n a))).bind (fun w12 => (some (w12.2)))) else ((mo_Md_mayJoin m (nI (z % a_n a))).bind (fun w14 => (bif w14 then ((mo_Md_doTurn m (nI (z % a_n a))).bind (fun w20 => (some (w20.2)))) else (if nI (z / 16 % a_n a) = nI (z % a_n a) then ((mo_Md_doFee m).bind (fun w18 => (some (w18.2)))) else ((mo_Md_doGrudge m (nI (z % a_n a)) (nI (z / 16 % a_n a))).bind (fun w16 => (some (w16.2))))))))) = some m2 ∧
    Rel (ns_club s c2) m2 ∧ cl_dc c2 = nI (n + 1) ∧ cl_children c2 = nI (a_n a) := by
  have R := K.1
  have hn6 := R.1.1
  have h6 := pow6 hn6
  have hb := Q.1.2.2.2.2
  have hi : z % a_n a < a_n a := Nat.mod_lt _ hp
  have hk : z / 16 % a_n a < a_n a := Nat.mod_lt _ hp
  have e1 : nj_rem (nI z) (nI (a_n a)) = nI (z % a_n a) := pk_rem hz hp (by omega)
  have e16 : nI z / (16 : Int32) = nI (z / 16) := pk_div (d := 16) hz (by decide) (by decide)
  have e2 : nj_rem (nI (z / 16)) (nI (a_n a)) = nI (z / 16 % a_n a) := pk_rem (by omega) hp (by omega)
  have ec : ¬ nI (a_n a) = 0 := fun q => by
    have := (nI_eq (a := a_n a) (b := 0) (by omega) (by decide)).1 q
    omega
  have ea := pu_and (p_out a (a_b a)) (z % a_n a) (by omega)
  have ek : (nI (z % a_n a) = nI (z / 16 % a_n a)) ↔ z % a_n a = z / 16 % a_n a := nI_eq (by omega) (by omega)
  have ek2 : (nI (z / 16 % a_n a) = nI (z % a_n a)) ↔ z % a_n a = z / 16 % a_n a := ⟨fun q => ek.1 q.symm, fun q => (ek.2 q).symm⟩
  rw [mo_Club_doByLot, R.1.2, if_neg ec, if_pos ec, if_pos ec, e1, e16, e2, R.2.2.2.2.2.1.1, c_putOutOf R, c_mayJoin R hi, r_mayJoin Q hi]
  simp only [Option.bind_some]
  cases hbit : (p_out a (a_b a)).testBit (z % a_n a)
  · rw [if_pos (ea.2 hbit)]
    simp only [cond_false]
    cases hj : p_mj a (z % a_n a)
    · simp only [cond_false]
      by_cases g : z % a_n a = z / 16 % a_n a
      · rw [if_pos (ek.2 g), if_pos (ek2.2 g)]
        obtain ⟨c2, m2, t1, t2, t3, t4⟩ := dd_fee h K Q hdc h0 hn
        refine ⟨c2, m2, ?_, ?_, t3, t4, ?_⟩
        · rw [t1]; rfl
        · rw [t2]; rfl
        · rw [ch_fee R t1, R.1.2]
      · rw [if_neg (fun q => g (ek.1 q)), if_neg (fun q => g (ek2.1 q))]
        obtain ⟨c2, m2, t1, t2, t3, t4, t5⟩ := dd_tog h K Q hdc h0 hn hi hk g
        refine ⟨c2, m2, ?_, ?_, t3, t5, ?_⟩
        · rw [t1]; rfl
        · rw [t2]; rfl
        · rw [ch_tog R hi hk t1, R.1.2]
    · simp only [cond_true]
      have hbi : (a_b a).testBit (z % a_n a) = false := by
        unfold p_mj at hj
        simp only [Bool.and_eq_true] at hj
        simpa using hj.1
      obtain ⟨c2, m2, t1, t2, t3, t4, t5, t6⟩ := dd_in h K Q hdc h0 hn hi hbi
      refine ⟨c2, m2, ?_, ?_, t3, t6, ?_⟩
      · rw [t1]; rfl
      · rw [t2]; rfl
      · rw [ch_in t1, R.1.2]
  · rw [if_neg (fun q => by have := ea.1 q; rw [hbit] at this; cases this)]
    simp only [cond_true]
    have hbi : (a_b a).testBit (z % a_n a) = true := by
      rw [p_out_bit] at hbit
      unfold p_of at hbit
      simp only [Bool.and_eq_true] at hbit
      exact hbit.2.1
    obtain ⟨c2, m2, t1, t2, t3, t4, t5, t6⟩ := dd_out h K Q hdc h0 hn hi hbi
    refine ⟨c2, m2, ?_, ?_, t3, t6, ?_⟩
    · rw [t1]; rfl
    · rw [t2]; rfl
    · rw [ch_out t1, R.1.2]
theorem f_lots {N : Nat} (hN : N ≤ 20) : ∀ (d j f1 f2 z n : Nat) (s : NjS) (m : MdS), j + d = N → d < f1 → d < f2 → z < 2 ^ 31 → Rel s m → cl_dc (nj_club s) = nI n → n + d ≤ 40 → ¬ cl_children (nj_club s) = 0 → ∃ s2 m2, lo_Nj_lots_63 (nI N) f1 s (lN z) (nI j) = some s2 ∧ lo_Md_lots_58 (nI N) f2 m (lN z) (nI j) = some m2 ∧ Rel s2 m2 := by
  intro d
  induction d with
  | zero =>
    intro j f1 f2 z n s m hj h1 h2 hz h hdc hn hc
    obtain ⟨f1, rfl⟩ : ∃ z, f1 = z + 1 := ⟨f1 - 1, by omega⟩
    obtain ⟨f2, rfl⟩ : ∃ z, f2 = z + 1 := ⟨f2 - 1, by omega⟩
    exact ⟨s, m, by rw [lo_Nj_lots_63, if_pos (nI_le (by omega) (by omega))], by rw [lo_Md_lots_58, if_pos (nI_le (by omega) (by omega))], h⟩
  | succ d ih =>
    intro j f1 f2 z n s m hj h1 h2 hz h hdc hn hc
    obtain ⟨f1, rfl⟩ : ∃ z, f1 = z + 1 := ⟨f1 - 1, by omega⟩
    obtain ⟨f2, rfl⟩ : ∃ z, f2 = z + 1 := ⟨f2 - 1, by omega⟩
    obtain ⟨a, n', K, Q, hdc', h0, hn40⟩ := h.ak
    have en : n' = n := (nI_eq (by omega) (by omega)).1 (hdc'.symm.trans hdc)
    subst en
    have R := K.1
    have hn6 := R.1.1
    have h6 := pow6 hn6
    have hb := Q.1.2.2.2.2
    have hp : 0 < a_n a := by
      rcases Nat.eq_zero_or_pos (a_n a) with q | q
      · exfalso
        apply hc
        rw [R.1.2, q]
        rfl
      · exact q
    have ez : nj_rml ((48271 : Int64) * lN z) (2147483647 : Int64) = lN (48271 * z % 2147483647) := by
      have t : (48271 : Int64) * lN z = lN (48271 * z) := lN_mul 48271 z
      rw [t]
      exact pk_lRem (b := 2147483647) (by omega) (by decide) (by decide)
    have ez2 : nj_rml (lN z * (48271 : Int64)) (2147483647 : Int64) = lN (48271 * z % 2147483647) := by
      have t : lN z * (48271 : Int64) = lN (z * 48271) := lN_mul z 48271
      rw [t, Nat.mul_comm z]
      exact pk_lRem (b := 2147483647) (by omega) (by decide) (by decide)
    have hz2 : 48271 * z % 2147483647 < 2147483647 := Nat.mod_lt _ (by decide)
    obtain ⟨c2, m2, t1, t2, t3, t4, t5⟩ := f_lot h K Q hdc h0 (by omega) (by omega : 48271 * z % 2147483647 < 2 ^ 31) hp
    obtain ⟨s3, m3, u1, u2, u3⟩ := ih (j + 1) f1 f2 (48271 * z % 2147483647) (n' + 1) (ns_club s c2) m2 (by omega) (by omega) (by omega) (by omega) t3 t4 (by omega) (by
      show ¬ cl_children c2 = 0
      rw [t5, ← R.1.2]
      exact hc)
    refine ⟨s3, m3, ?_, ?_, u3⟩
    · rw [lo_Nj_lots_63, if_neg (nI_ge (by omega) (by omega)), ez, lN_i, nI_1, t1]
      exact u1
    · have el : ¬ lN (a_n a) = 0 := fun q => by
        have := (pk_lEQ (a := a_n a) (b := 0) (by omega) (by decide)).1 q
        omega
      have e1 : nj_rml (lN (48271 * z % 2147483647)) (lN (a_n a)) = lN (48271 * z % 2147483647 % a_n a) := pk_lRem (by omega) hp (by omega)
      have e16 : lN (48271 * z % 2147483647) / (16 : Int64) = lN (48271 * z % 2147483647 / 16) := pk_lDiv (b := 16) (by omega) (by decide) (by decide)
      have e2 : nj_rml (lN (48271 * z % 2147483647 / 16)) (lN (a_n a)) = lN (48271 * z % 2147483647 / 16 % a_n a) := pk_lRem (by omega) hp (by omega)
      have hmi : 48271 * z % 2147483647 % a_n a < a_n a := Nat.mod_lt _ hp
      have ho := p_out_lt hn6 (a_b a)
      rw [lo_Md_lots_58, if_neg (nI_ge (by omega) (by omega)), Q.2.1, nI_l (by omega : a_n a < 2 ^ 31), if_pos el, if_pos el, ez2, e1, e16, e2, lN_i, lN_i, nI_1, Q.inn, r_outs Q (by omega)]
      rw [f_ob rfl, r_has (by omega) (by omega), f_ob rfl, t2]
      exact u2
theorem op_lots {s : NjS} {m : MdS} (h : Rel s m) (x y : Int32) : Same (mo_Nj_lots s x y) (mo_Md_lots m x y) := by
  obtain ⟨a, n, K, Q, hdc, h0, hn⟩ := h.ak
  have R := K.1
  have hn6 := R.1.1
  have i1 : mo_Md_in (Int32.toInt64 x) (1 : Int64) (20 : Int64) = some (decide ((1 : Int32) ≤ x) && decide (x ≤ (20 : Int32))) := r_in x 1 20
  have i2 : mo_Md_in (Int32.toInt64 y) (1 : Int64) (2147483646 : Int64) = some (decide ((1 : Int32) ≤ y) && decide (y ≤ (2147483646 : Int32))) := r_in y 1 2147483646
  have ey : (Int32.toInt64 y < (2147483647 : Int64)) ↔ y ≤ (2147483646 : Int32) := by
    have t1 : (Int32.toInt64 y < Int32.toInt64 (2147483647 : Int32)) ↔ y < (2147483647 : Int32) := fa_wide_lt _ _
    have t2 : (y ≤ (2147483646 : Int32)) ↔ y < (2147483647 : Int32) := pu_lt1 y 2147483646 (by decide)
    exact t1.trans t2.symm
  have o1 : (1 : Int32).toInt = 1 := by decide
  have o20 : (20 : Int32).toInt = 20 := by decide
  rw [mo_Nj_lots, mo_Md_lots, i1, i2]
  simp only [Option.bind_some]
  by_cases g1 : x < 1
  · have : ¬ (1 : Int32) ≤ x := (fa_of_lt g1).2.1
    rw [if_pos g1]
    simp only [this, decide_false, Bool.false_and, cond_false]
    exact Same.of h _
  · have l1 : (1 : Int32) ≤ x := fa_of_nlt g1
    rw [if_neg g1]
    by_cases g2 : (20 : Int32) < x
    · have : ¬ x ≤ (20 : Int32) := (fa_of_lt g2).2.1
      rw [if_pos g2]
      simp only [this, decide_false, Bool.and_false, cond_false]
      exact Same.of h _
    · have l2 : x ≤ (20 : Int32) := fa_of_nlt g2
      rw [if_neg g2]
      simp only [l1, l2, decide_true, Bool.and_true, cond_true]
      by_cases g3 : y < 1
      · have : ¬ (1 : Int32) ≤ y := (fa_of_lt g3).2.1
        rw [if_pos g3]
        simp only [this, decide_false, Bool.false_and, cond_false]
        exact Same.of h _
      · have l3 : (1 : Int32) ≤ y := fa_of_nlt g3
        rw [if_neg g3]
        by_cases g4 : y ≤ (2147483646 : Int32)
        · rw [if_pos (ey.2 g4)]
          simp only [l3, g4, decide_true, Bool.and_true, cond_true]
          rw [R.1.2, Q.2.1, hdc, h0]
          by_cases g5 : nI (a_n a) = 0
          · rw [if_pos g5, if_pos g5]
            exact Same.of h _
          · rw [if_neg g5, if_neg g5]
            have x0 : ¬ x < 0 := fun q => by
              rw [fa_lt] at q
              rw [fa_le, o1] at l1
              have : (0 : Int32).toInt = 0 := by decide
              omega
            have y0 : ¬ y < 0 := fun q => by
              rw [fa_lt] at q
              rw [fa_le, o1] at l3
              have : (0 : Int32).toInt = 0 := by decide
              omega
            obtain ⟨N, hN, rfl⟩ := nI_of2 (M := 20) (n := 20) (by decide) x0 l2
            obtain ⟨z, hz, rfl⟩ := nI_of2 (M := 2147483646) (n := 2147483646) (by decide) y0 g4
            by_cases g6 : nI n + nI N ≤ 40
            · rw [if_pos g6, if_pos g6]
              have l6 : n + N ≤ 40 := by
                rw [nI_add] at g6
                exact (nI_leI (b := 40) (by omega) (by decide)).1 g6
              rw [nI_l (by omega : z < 2 ^ 31)]
              obtain ⟨s2, m2, u1, u2, u3⟩ := f_lots hN N 0 nj_fu nj_fu z n s m (by omega) (pu_fu (by omega)) (pu_fu (by omega)) (by omega) h hdc l6 (by rw [R.1.2]; exact g5)
              have u1' : lo_Nj_lots_63 (nI N) nj_fu s (lN z) 0 = some s2 := u1
              have u2' : lo_Md_lots_58 (nI N) nj_fu m (lN z) 0 = some m2 := u2
              obtain ⟨a2, R2, Q2, W2⟩ := u3.ac
              have hn62 := R2.1.1
              have h62 := pow6 hn62
              have hb2 := Q2.1.2.2.2.2
              have hb3 : a_b a2 < 64 := by omega
              rw [f_ob u1', f_ob u2', R2.2.2.2.2.2.1.1, Q2.inn, c_bits _ hb3, r_bits hb3]
              exact Same.of u3 _
            · rw [if_neg g6, if_neg g6]
              exact Same.of h _
        · rw [if_neg (fun q => g4 (ey.1 q))]
          simp only [g4, decide_false, Bool.and_false, cond_false]
          exact Same.of h _
