/-! pure: keep, on -/
theorem RK.move {c : CluS} {row row2 : Nat → Int32} {B B2 : Nat} {a : AC} (h : RK c row B a) (e : ∀ j, j < 576 → row2 (B2 + j) = row (B + j)) : RK c row2 B2 a := by
  obtain ⟨h1, h2, h3, n, ds, d1, d2, d3, d4, d5⟩ := h
  have hn := h1.1.1
  refine ⟨h1, ?_, h3, n, ds, d1, d2, ?_, d4, ?_⟩
  · obtain ⟨r1, r2, r3, r4, r5⟩ := h2
    refine ⟨by rw [e 1 (by omega), r1], by rw [e 2 (by omega), r2], fun i hi => ?_, fun i hi => ?_, by rw [e 15 (by omega), r5]⟩
    · rw [Nat.add_assoc, e (3 + i) (by omega), ← Nat.add_assoc, r3 i hi]
    · rw [Nat.add_assoc, e (9 + i) (by omega), ← Nat.add_assoc, r4 i hi]
  · have := e 0 (by omega)
    rw [Nat.add_zero, Nat.add_zero] at this
    rw [this, d3]
  · intro j hj
    obtain ⟨w, p1, p2, p3, p4⟩ := d5 j hj
    have ee : ∀ q, q < 560 → row2 (B2 + 16 + q) = row (B + 16 + q) := fun q hq => by
      rw [Nat.add_assoc, e (16 + q) (by omega), ← Nat.add_assoc]
    refine ⟨w, ?_, ?_, fun i hi => ?_, fun i hi => ?_⟩
    · show row2 (B2 + 16 + 14 * (n - 1 - j)) = _
      rw [ee _ (by omega)]
      exact p1
    · show row2 (B2 + 16 + 14 * (n - 1 - j) + 1) = _
      rw [Nat.add_assoc, ee _ (by omega), ← Nat.add_assoc]
      exact p2
    · show row2 (B2 + 16 + 14 * (n - 1 - j) + 2 + i) = _
      rw [Nat.add_assoc, Nat.add_assoc, ee _ (by omega), ← Nat.add_assoc, ← Nat.add_assoc]
      exact p3 i hi
    · show row2 (B2 + 16 + 14 * (n - 1 - j) + 8 + i) = _
      rw [Nat.add_assoc, Nat.add_assoc, ee _ (by omega), ← Nat.add_assoc, ← Nat.add_assoc]
      exact p4 i hi
def c_bec (c d : CluS) : CluS := (cs_dc (cs_tin (cs_inn (cs_rule (cs_children (cs_deeds (cs_liked (cs_pence (cs_kinds c (va_cpy (cl_kinds d) (cl_kinds c) 0 0 6)) (va_cpy (cl_pence d) (cl_pence c) 0 0 6)) (va_cpy (cl_liked d) (cl_liked c) 0 0 6)) (va_cpy (cl_deeds d) (cl_deeds c) 0 0 40)) (cl_children d)) (cl_rule d)) (cl_inn d)) (cl_tin d)) (cl_dc d))
theorem cpy_0 {f g : Nat → Int32} {n i : Nat} (h : i < n) : va_cpy f g 0 0 n i = f i := by
  rw [pk_cpy_in (by omega) (by omega)]
  congr 1
  omega
theorem RC.bec {c d : CluS} {a : AC} (R : RC d a) : RC (c_bec c d) a := by
  have hn := R.1.1
  refine ⟨R.1, fun i hi => ?_, fun i hi => ?_, fun i hi => ?_, R.2.2.2.2⟩
  · show va_cpy (cl_kinds d) (cl_kinds c) 0 0 6 i = _ ∧ _
    rw [cpy_0 (by omega)]
    exact R.2.1 i hi
  · show va_cpy (cl_pence d) (cl_pence c) 0 0 6 i = _
    rw [cpy_0 (by omega)]
    exact R.2.2.1 i hi
  · show va_cpy (cl_liked d) (cl_liked c) 0 0 6 i = _ ∧ _
    rw [cpy_0 (by omega)]
    exact R.2.2.2.1 i hi
theorem RK.bec {c d : CluS} {row : Nat → Int32} {B : Nat} {a : AC} (h : RK d row B a) : RK (c_bec c d) row B a := by
  obtain ⟨h1, h2, h3, n, ds, d1, d2, d3, d4, d5⟩ := h
  refine ⟨h1.bec, h2, h3, n, ds, d1, d2, d3, fun j hj => ?_, d5⟩
  show va_cpy (cl_deeds d) (cl_deeds c) 0 0 40 j = _ ∧ _
  rw [cpy_0 (by omega)]
  exact d4 j hj
theorem r_copyClub (m : MdS) {f1 f2 : Nat} (h1 : f1 + 576 ≤ 2304) (h2 : f2 + 576 ≤ 2304) (h : f1 + 576 ≤ f2 ∨ f2 + 576 ≤ f1) : mo_Md_copyClub m (nI f1) (nI f2) = some (ms_row m (va_cpy (md_row m) (md_row m) f1 f2 576)) := by
  have hl := pu_loop (fun f (st : MdS) i => lo_Md_copyClub_2 (nI f1) (nI f2) f st i) 576 (fun j => ms_row m (va_cpy (md_row m) (md_row m) f1 f2 j)) (some (ms_row m (va_cpy (md_row m) (md_row m) f1 f2 576)))
    (fun f => by
      have e0 : (576 : Int32) ≤ nI 576 := nI_le (Nat.le_refl 576) (by decide)
      rw [lo_Md_copyClub_2, if_pos e0])
    (fun f j hj => by
      have e2 : ¬ ((576 : Int32) ≤ nI j) := nI_ge hj (by decide)
      rw [lo_Md_copyClub_2, if_neg e2, nI_add, nI_add, pu_in_t (by omega : f1 + j < 2304) (by decide), pu_in_t (by omega : f2 + j < 2304) (by decide), pu_n (by omega), pu_n (by omega), nI_1, ← cpy_fwd (md_row m) (by omega)]
      rfl)
    576 nj_fu 0 (by omega) (pu_fu (by omega))
  have e0 : va_cpy (md_row m) (md_row m) f1 f2 0 = md_row m := funext fun j => pk_cpy_out (by omega)
  rw [e0] at hl
  have hl2 : lo_Md_copyClub_2 (nI f1) (nI f2) nj_fu m 0 = some (ms_row m (va_cpy (md_row m) (md_row m) f1 f2 576)) := hl
  rw [mo_Md_copyClub, hl2]
  rfl
theorem r_in02 (x : Int32) : mo_Md_in (Int32.toInt64 x) (0 : Int64) (2 : Int64) = some (decide ((0 : Int32) ≤ x) && decide (x < nI 3)) := by
  have h : mo_Md_in (Int32.toInt64 x) (0 : Int64) (2 : Int64) = some (decide ((0 : Int32) ≤ x) && decide (x ≤ (2 : Int32))) := r_in x 0 2
  rw [h]
  have e : (x ≤ (2 : Int32)) ↔ x < nI 3 := pu_lt1 x 2 (by decide)
  simp only [e]
theorem e576 (k : Nat) : (576 : Int32) * ((1 : Int32) + nI k) = nI (576 * (1 + k)) := by
  have : (1 : Int32) + nI k = nI (1 + k) := nI_add 1 k
  rw [this]
  exact pk_mul 576 (1 + k)
theorem op_keep {s : NjS} {m : MdS} (h : Rel s m) (x : Int32) : Same (mo_Nj_keep s x) (mo_Md_keep m x) := by
  obtain ⟨a, n, K, Q, hdc, h0, hn40⟩ := h.ak
  have hn6 := Q.1.1
  have hkp : mo_Nj_isKeptPlace x = some (decide (0 ≤ x) && decide (x < nI 3)) := by
    rw [mo_Nj_isKeptPlace]; exact c_range x 3 (by decide)
  rw [mo_Nj_keep, mo_Md_keep, hkp, r_in02]
  simp only [Option.bind_some]
  rcases in_or x 3 (by decide) with ⟨k, hk, rfl, hb⟩ | hb
  · rw [hb, K.1.1.2, Q.2.1]
    simp only [cond_true]
    have ec : (nI (a_n a) = 0) ↔ a_n a = 0 := nI_eq (b := 0) (by omega) (by decide)
    by_cases g : a_n a = 0
    · rw [if_pos (ec.2 g), if_pos (ec.2 g)]
      exact Same.of h _
    · rw [if_neg (fun q => g (ec.1 q)), if_neg (fun q => g (ec.1 q)), pu_in_t hk (by decide), pu_n (by omega), e576]
      have hcc : mo_Md_copyClub m (0 : Int32) (nI (576 * (1 + k))) = _ := r_copyClub m (f1 := 0) (f2 := 576 * (1 + k)) (by omega) (by omega) (by omega)
      rw [hcc, hdc]
      have e1 : md_row (ms_row m (va_cpy (md_row m) (md_row m) 0 (576 * (1 + k)) 576)) 0 = nI n := by
        show va_cpy (md_row m) (md_row m) 0 (576 * (1 + k)) 576 0 = nI n
        rw [pk_cpy_out (by omega), h0]
      simp only [Option.bind_some, cond_true]
      rw [e1]
      refine ⟨_, _, _, rfl, rfl, h.1, h.2.1, ?_, h.2.2.2⟩
      obtain ⟨a0, K0, g1, g2, g3⟩ := h.2.2.1
      have hn0 := K0.1.1.1
      have en : a_n a0 = a_n a := (nI_eq (by omega) (by omega)).1 (g1.symm.trans Q.2.1)
      refine ⟨a0, K0.cong (fun j hj => ?_), g1, g2, fun q hq => ?_⟩
      · show va_cpy (md_row m) (md_row m) 0 (576 * (1 + k)) 576 (0 + j) = _
        rw [pk_cpy_out (by omega)]
      · by_cases gq : q = k
        · subst gq
          refine Or.inr ⟨by omega, a0, rfl, fun _ _ => rfl, ?_⟩
          show RK (va_up (nj_kept s) q (c_bec (nj_kept s q) (nj_club s)) q) _ _ _
          have : va_up (nj_kept s) q (c_bec (nj_kept s q) (nj_club s)) q = c_bec (nj_kept s q) (nj_club s) := if_pos rfl
          rw [this]
          refine RK.bec (RK.move K0 (fun j hj => ?_))
          show va_cpy (md_row m) (md_row m) 0 (576 * (1 + q)) 576 (576 * (1 + q) + j) = _
          rw [pk_cpy_in (by omega) (by omega)]
          congr 1
          omega
        · have eu : ∀ z, va_up (nj_kept s) k z q = nj_kept s q := fun z => if_neg gq
          have er : ∀ j, j < 576 → va_cpy (md_row m) (md_row m) 0 (576 * (1 + k)) 576 (576 * (1 + q) + j) = md_row m (576 * (1 + q) + j) := fun j hj => pk_cpy_out (by omega)
          rcases g3 q hq with ⟨u1, u2⟩ | ⟨u0, a2, u1, u2, u3⟩
          · refine Or.inl ⟨?_, ?_⟩
            · show cl_children (va_up (nj_kept s) k _ q) = 0
              rw [eu]; exact u1
            · exact (er 0 (by omega)).trans u2
          · refine Or.inr ⟨u0, a2, u1, u2, ?_⟩
            show RK (va_up (nj_kept s) k _ q) _ _ _
            rw [eu]
            exact u3.cong er
  · rw [hb]
    exact Same.of h _
theorem op_on {s : NjS} {m : MdS} (h : Rel s m) (x : Int32) : Same (mo_Nj_on s x) (mo_Md_on m x) := by
  obtain ⟨a, n, K, Q, hdc, h0, hn40⟩ := h.ak
  have hn6 := Q.1.1
  have hkp : mo_Nj_isKeptPlace x = some (decide (0 ≤ x) && decide (x < nI 3)) := by
    rw [mo_Nj_isKeptPlace]; exact c_range x 3 (by decide)
  rw [mo_Nj_on, mo_Md_on, hkp, r_in02]
  simp only [Option.bind_some]
  rcases in_or x 3 (by decide) with ⟨k, hk, rfl, hb⟩ | hb
  · have ez : nI (576 * (1 + k)) + (0 : Int32) = nI (576 * (1 + k)) := Int32.add_zero _
    rw [hb, pu_in_t hk (by decide), pu_n (by omega), e576, ez, pu_in_t (by omega : 576 * (1 + k) < 2304) (by decide), pu_n (by omega)]
    simp only [cond_true]
    obtain ⟨a0, K0, g1, g2, g3⟩ := h.2.2.1
    rcases g3 k hk with ⟨u1, u2⟩ | ⟨u0, a2, u1, u2, u3⟩
    · rw [u1, u2, if_pos rfl, if_neg m1_nle]
      exact (f_found h 1 (by decide)).b
    · have hn2 := u3.1.1.1
      obtain ⟨R2, M2, W2, n2, ds, d1, d2, d3, d4⟩ := u3
      have e1 : ¬ cl_children (nj_kept s k) = 0 := by
        rw [R2.1.2]
        exact nI_ne0 (by omega) (by omega)
      have e2 : (0 : Int32) ≤ md_row m (576 * (1 + k)) := by rw [d3]; exact nI_pos' (by omega)
      have hcc : mo_Md_copyClub m (nI (576 * (1 + k))) (0 : Int32) = _ := r_copyClub m (f1 := 576 * (1 + k)) (f2 := 0) (by omega) (by omega) (by omega)
      rw [if_neg e1, if_pos e2, hcc]
      have e3 : md_row (ms_row m (va_cpy (md_row m) (md_row m) (576 * (1 + k)) 0 576)) 0 = nI n2 := by
        show va_cpy (md_row m) (md_row m) (576 * (1 + k)) 0 576 0 = nI n2
        rw [pk_cpy_in (by omega) (by omega)]
        exact d3
      simp only [Option.bind_some]
      rw [e3]
      have K2 : RK (c_bec (nj_club s) (nj_kept s k)) (va_cpy (md_row m) (md_row m) (576 * (1 + k)) 0 576) 0 a2 := by
        refine RK.bec (RK.move (B := 576 * (1 + k)) ⟨R2, M2, W2, n2, ds, d1, d2, d3, d4⟩ (fun j hj => ?_))
        rw [pk_cpy_in (by omega) (by omega)]
        congr 1
        omega
      refine ⟨nI n2, ns_club s (c_bec (nj_club s) (nj_kept s k)), ms_row m (va_cpy (md_row m) (md_row m) (576 * (1 + k)) 0 576), ?_, rfl, h.1, h.2.1, h.2.2.1.set (a2 := a2) (by rw [u1]; exact g1) (fun i hi => by rw [u1] at hi; rw [u2 i hi]; exact g2 i hi) K2 (fun j hj => pk_cpy_out (by omega)), h.2.2.2⟩
      rw [← d2]
      rfl
  · rw [hb]
    exact Same.of h _
