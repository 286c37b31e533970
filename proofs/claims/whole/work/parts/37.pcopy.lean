/-! pure: copy -/
theorem c_hasPlaces {r : RowS} {n : Nat} (hn : n ≤ 40) (hs : ro_size r = nI n) (y z : Int32) (hz : 0 ≤ z) : mo_Row_hasPlaces r y z = some (decide (0 ≤ y.toInt) && decide (y.toInt + z.toInt ≤ n)) := by
  rw [mo_Row_hasPlaces, hs]
  have hz2 : 0 ≤ z.toInt := by have := (fa_le 0 z).1 hz; simpa using this
  have e0 : (y < 0) ↔ y.toInt < 0 := by rw [fa_lt]; rfl
  have e1 : (nI n < z) ↔ (n : Int) < z.toInt := by rw [fa_lt, nI_toInt (by omega)]
  have hzb := fb_rng z
  by_cases g0 : y < 0
  · have : ¬ 0 ≤ y.toInt := by have := e0.1 g0; omega
    simp [g0, this]
  · have g0' : 0 ≤ y.toInt := by
      have : ¬ y.toInt < 0 := fun q => g0 (e0.2 q)
      omega
    rw [if_neg g0]
    by_cases g1 : nI n < z
    · have : ¬ (y.toInt + z.toInt ≤ n) := by have := e1.1 g1; omega
      simp [g1, this]
    · have g1' : z.toInt ≤ n := by
        have : ¬ (n : Int) < z.toInt := fun q => g1 (e1.2 q)
        omega
      rw [if_neg g1]
      have e2 : (nI n - z < y) ↔ (n : Int) - z.toInt < y.toInt := by
        rw [fa_lt, fb_subI (by rw [nI_toInt (by omega)]; omega) (by rw [nI_toInt (by omega)]; omega), nI_toInt (by omega)]
      by_cases g2 : nI n - z < y
      · have : ¬ (y.toInt + z.toInt ≤ n) := by have := e2.1 g2; omega
        simp [g2, this]
      · have : y.toInt + z.toInt ≤ n := by
          have : ¬ (n : Int) - z.toInt < y.toInt := fun q => g2 (e2.2 q)
          omega
        simp [g2, this, g0']
theorem r_isSpan {m : MdS} {r n : Nat} (hr : r < 6) (hn : n ≤ 40) (hs : md_sizes m r = nI n) (y z : Int32) (hz : 0 ≤ z) : mo_Md_isSpan m (nI r) y z = some (decide (0 ≤ y.toInt) && decide (y.toInt + z.toInt ≤ n)) := by
  rw [mo_Md_isSpan, pu_in_t hr (by decide), pu_n (by omega), hs]
  have hz2 : 0 ≤ z.toInt := by have := (fa_le 0 z).1 hz; simpa using this
  have hzb := fb_rng z
  have hyb := fb_rng y
  have e0 : (y < 0) ↔ y.toInt < 0 := by rw [fa_lt]; rfl
  by_cases g0 : y < 0
  · have : ¬ 0 ≤ y.toInt := by have := e0.1 g0; omega
    simp [g0, this]
  · have g0' : 0 ≤ y.toInt := by
      have : ¬ y.toInt < 0 := fun q => g0 (e0.2 q)
      omega
    rw [if_neg g0]
    have e1 : (Int32.toInt64 (nI n) < Int32.toInt64 y + Int32.toInt64 z) ↔ (n : Int) < y.toInt + z.toInt := by
      rw [fa_lt64, fb_addL (by rw [Int32.toInt_toInt64, Int32.toInt_toInt64]; omega) (by rw [Int32.toInt_toInt64, Int32.toInt_toInt64]; omega), Int32.toInt_toInt64, Int32.toInt_toInt64, Int32.toInt_toInt64, nI_toInt (by omega)]
    by_cases g1 : Int32.toInt64 (nI n) < Int32.toInt64 y + Int32.toInt64 z
    · have : ¬ (y.toInt + z.toInt ≤ n) := by have := e1.1 g1; omega
      simp [g1, this]
    · have : y.toInt + z.toInt ≤ n := by
        have : ¬ (n : Int) < y.toInt + z.toInt := fun q => g1 (e1.2 q)
        omega
      simp [g1, this, g0']
theorem cpy_fwd (f : Nat → Int32) {sp dp k : Nat} (h : sp + k < dp ∨ dp + k ≤ sp + k) : upd (va_cpy f f sp dp k) (dp + k) (va_cpy f f sp dp k (sp + k)) = va_cpy f f sp dp (k + 1) := by
  funext j
  have h0 : va_cpy f f sp dp k (sp + k) = f (sp + k) := pk_cpy_out (by omega)
  rw [h0]
  unfold upd
  by_cases g : j = dp + k
  · subst g
    rw [if_pos rfl, pk_cpy_in (by omega) (by omega)]
    congr 1
    omega
  · rw [if_neg g]
    by_cases g2 : dp ≤ j ∧ j < dp + k
    · rw [pk_cpy_in g2.1 g2.2, pk_cpy_in g2.1 (by omega)]
    · rw [pk_cpy_out (by omega), pk_cpy_out (by omega)]
theorem cpy_bwd (f : Nat → Int32) {sp dp c k : Nat} (hk : k < c) (h : sp + (c - 1 - k) < dp + (c - k) ∨ dp + c ≤ sp + (c - 1 - k)) : upd (va_cpy f f (sp + (c - k)) (dp + (c - k)) k) (dp + (c - 1 - k)) (va_cpy f f (sp + (c - k)) (dp + (c - k)) k (sp + (c - 1 - k))) = va_cpy f f (sp + (c - (k + 1))) (dp + (c - (k + 1))) (k + 1) := by
  funext j
  have h0 : va_cpy f f (sp + (c - k)) (dp + (c - k)) k (sp + (c - 1 - k)) = f (sp + (c - 1 - k)) := pk_cpy_out (by omega)
  rw [h0]
  unfold upd
  by_cases g : j = dp + (c - 1 - k)
  · subst g
    rw [if_pos rfl, pk_cpy_in (by omega) (by omega)]
    congr 1
    omega
  · rw [if_neg g]
    by_cases g2 : dp + (c - k) ≤ j ∧ j < dp + (c - k) + k
    · rw [pk_cpy_in g2.1 g2.2, pk_cpy_in (by omega) (by omega)]
      congr 1
      omega
    · rw [pk_cpy_out (by omega), pk_cpy_out (by omega)]
theorem r_copy (m : MdS) {r1 r3 p q c : Nat} (h1 : r1 < 6) (h3 : r3 < 6) (hp : p + c ≤ 40) (hq : q + c ≤ 40) : ((if nI q ≤ nI p then (some (0 : Int32)) else (some (1 : Int32))) : Option (Int32)).bind (fun p15 => lo_Md_copy_96 (nI r1) (nI p) (nI r3) (nI q) (nI c) p15 nj_fu m (0 : Int32)) = some (ms_items m (va_cpy (md_items m) (md_items m) (40 * r1 + p) (40 * r3 + q) c)) := by
  have eI : ∀ r a k : Nat, ((40 : Int32) * nI r) + nI a + nI k = nI (40 * r + a + k) := fun r a k => by rw [e40, nI_add]
  by_cases g : q ≤ p
  · have g' : nI q ≤ nI p := nI_le g (by omega)
    rw [if_pos g']
    have h := pu_loop (fun f (st : MdS) i => lo_Md_copy_96 (nI r1) (nI p) (nI r3) (nI q) (nI c) 0 f st i) c (fun k => ms_items m (va_cpy (md_items m) (md_items m) (40 * r1 + p) (40 * r3 + q) k)) (some (ms_items m (va_cpy (md_items m) (md_items m) (40 * r1 + p) (40 * r3 + q) c)))
      (fun f => by rw [lo_Md_copy_96, if_pos (nI_le (Nat.le_refl _) (by omega))])
      (fun f k hk => by
        rw [lo_Md_copy_96, if_neg (nI_ge hk (by omega)), if_pos rfl]
        simp only [Option.bind_some]
        rw [eI, eI, pu_in_t (by omega : 40 * r1 + p + k < 240) (by decide), pu_in_t (by omega : 40 * r3 + q + k < 240) (by decide), pu_n (by omega), pu_n (by omega), nI_1]
        rw [← cpy_fwd (md_items m) (by omega)]
        rfl)
      c nj_fu 0 (by omega) (pu_fu (by omega))
    have e0 : va_cpy (md_items m) (md_items m) (40 * r1 + p) (40 * r3 + q) 0 = md_items m := funext fun j => pk_cpy_out (by omega)
    rw [e0] at h
    exact h
  · have g' : ¬ nI q ≤ nI p := nI_ge (by omega) (by omega)
    rw [if_neg g']
    have h := pu_loop (fun f (st : MdS) i => lo_Md_copy_96 (nI r1) (nI p) (nI r3) (nI q) (nI c) 1 f st i) c (fun k => ms_items m (va_cpy (md_items m) (md_items m) (40 * r1 + p + (c - k)) (40 * r3 + q + (c - k)) k)) (some (ms_items m (va_cpy (md_items m) (md_items m) (40 * r1 + p) (40 * r3 + q) c)))
      (fun f => by
        rw [lo_Md_copy_96, if_pos (nI_le (Nat.le_refl _) (by omega))]
        rw [Nat.sub_self]
        rfl)
      (fun f k hk => by
        have e9 : (nI c - (1 : Int32)) - nI k = nI (c - 1 - k) := by
          have : nI c - (1 : Int32) = nI (c - 1) := pk_sub (b := 1) (by omega)
          rw [this, pk_sub (by omega)]
        have e8 : ¬ ((1 : Int32) = 0) := by decide
        rw [lo_Md_copy_96, if_neg (nI_ge hk (by omega)), if_neg e8, e9]
        simp only [Option.bind_some]
        rw [eI, eI, pu_in_t (by omega : 40 * r1 + p + (c - 1 - k) < 240) (by decide), pu_in_t (by omega : 40 * r3 + q + (c - 1 - k) < 240) (by decide), pu_n (by omega), pu_n (by omega), nI_1]
        rw [← cpy_bwd (md_items m) hk (by omega)]
        rfl)
      c nj_fu 0 (by omega) (pu_fu (by omega))
    have e0 : va_cpy (md_items m) (md_items m) (40 * r1 + p + (c - 0)) (40 * r3 + q + (c - 0)) 0 = md_items m := funext fun j => pk_cpy_out (by omega)
    rw [e0] at h
    exact h
theorem op_copy {s : NjS} {m : MdS} (h : Rel s m) (x1 x2 x3 x4 x5 : Int32) : Same (mo_Nj_copy s x1 x2 x3 x4 x5) (mo_Md_copy m x1 x2 x3 x4 x5) := by
  rw [mo_Nj_copy, mo_Md_copy, c_isRow, r_isRow, c_isRow, r_isRow]
  simp only [Option.bind_some]
  rcases in_or x1 6 (by decide) with ⟨r1, h1, rfl, hb⟩ | hb
  · rw [hb]
    simp only [cond_true]
    rcases in_or x3 6 (by decide) with ⟨r3, h3, rfl, hb3⟩ | hb3
    · rw [hb3]
      simp only [cond_true, pu_in_t h1 (by decide), pu_n (by omega : r1 < 2 ^ 31), pu_in_t h3 (by decide), pu_n (by omega : r3 < 2 ^ 31)]
      by_cases g5 : 0 ≤ x5
      · rw [if_pos g5, if_pos g5]
        rcases (h.1 r1 h1).inv with ⟨e1, e2⟩ | ⟨n1, hn1, e1, e2, e3⟩
        · rw [mo_Row_isMissing, e2, if_neg m1_nle, e1, if_pos m1_lt]
          exact (f_found h 1 (by decide)).b
        · have p1 : (0 : Int32) ≤ nI n1 := nI_pos' (by omega)
          have p1' : ¬ nI n1 < (0 : Int32) := nI_pos (by omega)
          rw [mo_Row_isMissing, e2, if_pos p1, e1, if_neg p1']
          simp only [Option.bind_some, cond_false]
          rcases (h.1 r3 h3).inv with ⟨f1, f2⟩ | ⟨n3, hn3, f1, f2, f3⟩
          · rw [mo_Row_isMissing, f2, if_neg m1_nle, f1, if_neg m1_nle]
            exact (f_found h 1 (by decide)).b
          · have p3 : (0 : Int32) ≤ nI n3 := nI_pos' (by omega)
            rw [mo_Row_isMissing, f2, if_pos p3, f1, if_pos p3, c_hasPlaces hn1 e2 x2 x5 g5, c_hasPlaces hn3 f2 x4 x5 g5, r_isSpan h1 hn1 e1 x2 x5 g5, r_isSpan h3 hn3 f1 x4 x5 g5]
            simp only [Option.bind_some, cond_false]
            have g5' : ¬ x5 < 0 := fun q => (fa_of_lt q).2.1 g5
            obtain ⟨c, hc, rfl⟩ := nI_of g5'
            rw [nI_toInt hc]
            by_cases gA : 0 ≤ x2.toInt ∧ x2.toInt + c ≤ n1
            · obtain ⟨p, hp, rfl⟩ := nI_of (x := x2) (fun q => by have := (fa_lt x2 0).1 q; have e : (0 : Int32).toInt = 0 := rfl; omega)
              rw [nI_toInt hp] at gA ⊢
              have gA1 : (decide (0 ≤ (p : Int)) && decide ((p : Int) + c ≤ n1)) = true := by simp [gA.2]
              rw [gA1]
              simp only [cond_true]
              by_cases gB : 0 ≤ x4.toInt ∧ x4.toInt + c ≤ n3
              · obtain ⟨q, hq, rfl⟩ := nI_of (x := x4) (fun q => by have := (fa_lt x4 0).1 q; have e : (0 : Int32).toInt = 0 := rfl; omega)
                rw [nI_toInt hq] at gB ⊢
                have gB1 : (decide (0 ≤ (q : Int)) && decide ((q : Int) + c ≤ n3)) = true := by simp [gB.2]
                rw [gB1]
                simp only [cond_true]
                have A := gA.2
                have B := gB.2
                have hcond : (¬ nI p < 0 ∧ ¬ nI q < 0 ∧ ¬ nI c < 0 ∧ nj_n (nI p) + nj_n (nI c) ≤ 40 ∧ nj_n (nI q) + nj_n (nI c) ≤ 40) := by
                  rw [pu_n hp, pu_n hq, pu_n hc]
                  exact ⟨nI_pos hp, nI_pos hq, nI_pos hc, by omega, by omega⟩
                rw [if_pos hcond, pu_n hp, pu_n hq, pu_n hc]
                have hr := r_copy m h1 h3 (p := p) (q := q) (c := c) (by omega) (by omega)
                have hr2 : (((if nI q ≤ nI p then (some (0 : Int32)) else (some (1 : Int32))) : Option (Int32)).bind (fun p15 => ((lo_Md_copy_96 (nI r1) (nI p) (nI r3) (nI q) (nI c) p15 nj_fu m (0 : Int32)).bind (fun x20 => (some ((1 : Int32), x20)))))) = some (1, ms_items m (va_cpy (md_items m) (md_items m) (40 * r1 + p) (40 * r3 + q) c)) := by
                  have : ∀ (o : Option Int32) (F : Int32 → Option MdS) , o.bind (fun z => (F z).bind (fun w => some ((1 : Int32), w))) = (o.bind F).bind (fun w => some (1, w)) := fun o F => by cases o <;> rfl
                  rw [this, hr]
                  rfl
                rw [hr2]
                refine ⟨_, _, _, rfl, rfl, ?_, h.2⟩
                have g := h.1.set h3 (x := rs_places (nj_rows s r3) (va_cpy (ro_places (nj_rows s r1)) (ro_places (nj_rows s r3)) p q c)) (sz := md_sizes m r3) (it := va_cpy (md_items m) (md_items m) (40 * r1 + p) (40 * r3 + q) c)
                  (fun j hj => pk_cpy_out (by omega)) ⟨f2.trans f1.symm, Or.inr ⟨n3, hn3, f1, fun j hj => by
                    show va_cpy (ro_places (nj_rows s r1)) (ro_places (nj_rows s r3)) p q c j = va_cpy (md_items m) (md_items m) (40 * r1 + p) (40 * r3 + q) c (40 * r3 + j)
                    by_cases g : q ≤ j ∧ j < q + c
                    · rw [pk_cpy_in g.1 g.2, pk_cpy_in (by omega) (by omega), e3 _ (by omega)]
                      congr 1
                      omega
                    · rw [pk_cpy_out (by omega), pk_cpy_out (by omega), f3 j hj]⟩⟩
                have e : upd (md_sizes m) r3 (md_sizes m r3) = md_sizes m := fa_upd_same rfl
                rw [e] at g
                exact g
              · have gB1 : (decide (0 ≤ x4.toInt) && decide (x4.toInt + c ≤ n3)) = false := by
                  by_cases u : 0 ≤ x4.toInt
                  · have : ¬ x4.toInt + c ≤ n3 := fun w => gB ⟨u, w⟩
                    simp [this]
                  · simp [u]
                rw [gB1]
                exact (f_found h 2 (by decide)).b
            · have gA1 : (decide (0 ≤ x2.toInt) && decide (x2.toInt + c ≤ n1)) = false := by
                by_cases u : 0 ≤ x2.toInt
                · have : ¬ x2.toInt + c ≤ n1 := fun w => gA ⟨u, w⟩
                  simp [this]
                · simp [u]
              rw [gA1]
              exact (f_found h 2 (by decide)).b
      · rw [if_neg g5, if_neg g5]
        exact (f_found h 5 (by decide)).b
    · rw [hb3]
      exact Same.of h _
  · rw [hb]
    exact Same.of h _
