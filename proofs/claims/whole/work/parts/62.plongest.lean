/-! pure: longest -/
/-- the one whom a longest order puts out first -/
def p_fd (a : AC) (S i : Nat) : Prop := (p_out a S).testBit i = true ∧ 1 + p_L a (p_an S (2 ^ i)) = p_L a S
theorem p_fd_ex {a : AC} (hn : a_n a ≤ 6) {S : Nat} (hS : S < 64) (h : 0 < p_L a S) : ∃ i, p_fd a S i ∧ ∀ j, j < i → ¬ p_fd a S j := by
  refine pk_least (p_fd a S) ?_
  have h2 := h
  rw [p_L_gk hn hS] at h2
  obtain ⟨k, k1, k2⟩ := q_mx_at h2
  rw [← p_L_gk hn hS] at k2
  unfold p_gk at k2
  by_cases g : (p_out a S).testBit k = true
  · rw [if_pos g] at k2
    exact ⟨k, g, k2⟩
  · rw [if_neg g] at k2
    omega
theorem c_first {c : CluS} {a : AC} (R : RC c a) (o : Nat → Int32) {S i0 : Nat} (hS : S < 64) (hL : 0 < p_L a S) (ho : o S = nI (p_L a S)) (ho2 : ∀ i, S.testBit i = true → o (p_an S (2 ^ i)) = nI (p_L a (p_an S (2 ^ i)))) (h1 : p_fd a S i0) (h2 : ∀ j, j < i0 → ¬ p_fd a S j) : ∀ (d j f : Nat), j + d = i0 → d < f → lo_Orders_firstOfLongest_9 o c (nI S) (nI (p_out a S)) f (nI j) = some (nI i0) := by
  have hn := R.1.1
  have hi0 := (p_out_in h1.1).1
  have hL6 := p_L_6 hn hS
  have e1 : nI (p_L a S) - (1 : Int32) = nI (p_L a S - 1) := pk_sub (b := 1) (by omega)
  intro d
  induction d with
  | zero =>
    intro j f hj hf
    obtain ⟨f, rfl⟩ : ∃ z, f = z + 1 := ⟨f - 1, by omega⟩
    have : j = i0 := by omega
    subst this
    have hb := h1.1
    have e := pu_and (p_out a S) j (by omega)
    have hl2 : p_an S (2 ^ j) < 2 ^ 6 := p_an_le _ _ hS
    have hq := h1.2
    rw [lo_Orders_firstOfLongest_9, R.1.2, if_neg (nI_ge hi0 (by omega)), if_neg (fun q => by have := e.1 q; rw [hb] at this; cases this), pu_sh j (by omega), p_an_nI, pu_in_t hl2 (by decide), pu_n (by omega : p_an S (2 ^ j) < 2 ^ 31), pu_in_t hS (by decide), pu_n (by omega : S < 2 ^ 31), ho, ho2 j (p_out_in hb).2, e1]
    simp only [cond_true]
    rw [if_pos]
    congr 1
    omega
  | succ d ih =>
    intro j f hj hf
    obtain ⟨f, rfl⟩ : ∃ z, f = z + 1 := ⟨f - 1, by omega⟩
    have e := pu_and (p_out a S) j (by omega)
    have hl2 : p_an S (2 ^ j) < 2 ^ 6 := p_an_le _ _ hS
    rw [lo_Orders_firstOfLongest_9, R.1.2, if_neg (nI_ge (by omega) (by omega)), nI_1 j, ih (j + 1) f (by omega) (by omega)]
    cases hb : (p_out a S).testBit j
    · rw [if_pos (e.2 hb)]
    · have hq := h2 j (by omega)
      have hp := p_L_6 hn (S := p_an S (2 ^ j)) hl2
      rw [if_neg (fun q => by have := e.1 q; rw [hb] at this; cases this), pu_sh j (by omega), p_an_nI, pu_in_t hl2 (by decide), pu_n (by omega : p_an S (2 ^ j) < 2 ^ 31), pu_in_t hS (by decide), pu_n (by omega : S < 2 ^ 31), ho, ho2 j (p_out_in hb).2, e1]
      simp only [cond_true]
      rw [if_neg]
      intro q
      have := (nI_eq (by omega) (by omega)).1 q
      exact hq ⟨hb, by omega⟩
theorem r_first {m : MdS} {a : AC} (hn : a_n a ≤ 6) (x : Int32) {S i0 t u : Nat} (hS : S < 64) (hL : 0 < p_L a S) (htu : t - u = p_L a S) (ht : t ≤ 6) (ho : md_outOf m S = nI (p_out a S)) (ho2 : ∀ i, S.testBit i = true → md_longer m (p_an S (2 ^ i)) = nI (p_L a (p_an S (2 ^ i)))) (h1 : p_fd a S i0) (h2 : ∀ j, j < i0 → ¬ p_fd a S j) : ∀ (d j f : Nat), j + d = i0 → d < f → lo_Md_longest_55 m x (nI S) (nI t) (nI u) f (nI j) = some (nI i0) := by
  have hi0 := (p_out_in h1.1).1
  have hL6 := p_L_6 hn hS
  have hol := p_out_lt hn S
  have e1 : (nI t - nI u) - (1 : Int32) = nI (p_L a S - 1) := by
    rw [pk_sub (by omega), htu]
    exact pk_sub (b := 1) (by omega)
  intro d
  induction d with
  | zero =>
    intro j f hj hf
    obtain ⟨f, rfl⟩ : ∃ z, f = z + 1 := ⟨f - 1, by omega⟩
    have : j = i0 := by omega
    subst this
    have hb := h1.1
    have hl2 : p_an S (2 ^ j) < 2 ^ 6 := p_an_le _ _ hS
    have hq := h1.2
    rw [lo_Md_longest_55, pu_in_t hS (by decide), pu_n (by omega : S < 2 ^ 31), ho, r_has (by omega) (by omega), hb, pu_sh j (by omega), p_an_nI, pu_in_t hl2 (by decide), pu_n (by omega : p_an S (2 ^ j) < 2 ^ 31), ho2 j (p_out_in hb).2, e1]
    simp only [cond_true, Option.bind_some]
    rw [if_pos]
    congr 1
    omega
  | succ d ih =>
    intro j f hj hf
    obtain ⟨f, rfl⟩ : ∃ z, f = z + 1 := ⟨f - 1, by omega⟩
    have hl2 : p_an S (2 ^ j) < 2 ^ 6 := p_an_le _ _ hS
    rw [lo_Md_longest_55, pu_in_t hS (by decide), pu_n (by omega : S < 2 ^ 31), ho, r_has (by omega) (by omega), nI_1 j, ih (j + 1) f (by omega) (by omega)]
    cases hb : (p_out a S).testBit j
    · rfl
    · have hq := h2 j (by omega)
      have hp := p_L_6 hn (S := p_an S (2 ^ j)) hl2
      rw [pu_sh j (by omega), p_an_nI, pu_in_t hl2 (by decide), pu_n (by omega : p_an S (2 ^ j) < 2 ^ 31), ho2 j (p_out_in hb).2, e1]
      simp only [cond_true, Option.bind_some]
      rw [if_neg]
      intro q
      have := (nI_eq (by omega) (by omega)).1 q
      exact hq ⟨hb, by omega⟩
theorem it_it (m : MdS) (x y : Nat → Int32) : ms_items (ms_items m x) y = ms_items m y := rfl
theorem it_self (m : MdS) : ms_items m (md_items m) = m := rfl
theorem f_long {c : CluS} {a : AC} (R : RC c a) (o : Nat → Int32) (ho : ∀ T, p_an T (a_b a) = 0 → o T = nI (p_L a T)) {r len : Nat} (hr : r < 6) (hlen : len ≤ 6) : ∀ (d j S f1 f2 : Nat) (x : RowS) (m : MdS), j + d = len → p_L a S = d → p_an S (a_b a) = 0 → d < f1 → d < f2 → (∀ T, T < 2 ^ a_n a → md_outOf m T = nI (p_out a T) ∧ md_longer m T = nI (p_L a T)) → (∀ k, k < j → ro_places x k = md_items m (40 * r + k)) → ∃ x2 it2, lo_Orders_layLongest_27 o c (nI len) f1 x (nI S) (nI j) = some x2 ∧ lo_Md_longest_46 (nI r) (nI len) f2 m (nI S) (nI j) = some (ms_items m it2) ∧ ro_size x2 = ro_size x ∧ (∀ k, k < len → ro_places x2 k = it2 (40 * r + k)) ∧ ∀ k, (k < 40 * r ∨ 40 * r + 40 ≤ k) → it2 k = md_items m k := by
  have hn := R.1.1
  have h6 := pow6 hn
  have hb := R.2.2.2.2.2.1.2
  intro d
  induction d with
  | zero =>
    intro j S f1 f2 x m hj hL hsub h1 h2 hm hx
    obtain ⟨f1, rfl⟩ : ∃ z, f1 = z + 1 := ⟨f1 - 1, by omega⟩
    obtain ⟨f2, rfl⟩ : ∃ z, f2 = z + 1 := ⟨f2 - 1, by omega⟩
    refine ⟨x, md_items m, ?_, ?_, rfl, fun k hk => hx k (by omega), fun k _ => rfl⟩
    · rw [lo_Orders_layLongest_27, if_pos (nI_le (by omega) (by omega))]
    · rw [lo_Md_longest_46, if_pos (nI_le (by omega) (by omega)), it_self]
  | succ d ih =>
    intro j S f1 f2 x m hj hL hsub h1 h2 hm hx
    obtain ⟨f1, rfl⟩ : ∃ z, f1 = z + 1 := ⟨f1 - 1, by omega⟩
    obtain ⟨f2, rfl⟩ : ∃ z, f2 = z + 1 := ⟨f2 - 1, by omega⟩
    have hSb := p_an_zero_le hsub
    have hS : S < 64 := by omega
    obtain ⟨i, q1, q2⟩ := p_fd_ex hn hS (by omega : 0 < p_L a S)
    have hi := (p_out_in q1.1).1
    have hi2 := (p_out_in q1.1).2
    have c1 : mo_Orders_firstOfLongest o c (nI S) = some (nI i) := by
      rw [mo_Orders_firstOfLongest, c_putOutOf R]
      exact c_first R o hS (by omega) (ho S hsub) (fun k _ => ho _ (an_sub hsub)) q1 q2 i 0 nj_fu (by omega) (pu_fu (by omega))
    have r1 : lo_Md_longest_55 m (nI r) (nI S) (nI len) (nI j) nj_fu 0 = some (nI i) := r_first hn (nI r) hS (by omega) (by omega) hlen (hm S (by omega)).1 (fun k hk => (hm _ (by
      have : p_an S (2 ^ k) < 2 ^ a_n a := p_an_le _ _ (by omega)
      exact this)).2) q1 q2 i 0 nj_fu (by omega) (pu_fu (by omega))
    obtain ⟨x2, it2, t1, t2, t3, t4, t5⟩ := ih (j + 1) (p_an S (2 ^ i)) f1 f2 (rs_places x (upd (ro_places x) j (nI i))) (ms_items m (upd (md_items m) (40 * r + j) (nI i))) (by omega) (by have := q1.2; omega) (an_sub hsub) (by omega) (by omega) hm (fun k hk => by
      show upd (ro_places x) j (nI i) k = upd (md_items m) (40 * r + j) (nI i) (40 * r + k)
      by_cases g : k = j
      · rw [g, pk_us, pk_us]
      · rw [pk_un (by omega), pk_un (by omega)]
        exact hx k (by omega))
    refine ⟨x2, it2, ?_, ?_, ?_, t4, fun k hk => ?_⟩
    · rw [lo_Orders_layLongest_27, if_neg (nI_ge (by omega) (by omega)), f_ob c1, pu_in_t (by omega : j < 40) (by decide), pu_n (by omega : j < 2 ^ 31), pu_sh i (by omega), p_an_nI, nI_1 j]
      exact t1
    · rw [it_it] at t2
      rw [lo_Md_longest_46, if_neg (nI_ge (by omega) (by omega)), f_ob r1, e40, pu_in_t (by omega : 40 * r + j < 240) (by decide), pu_n (by omega : 40 * r + j < 2 ^ 31), pu_sh i (by omega), p_an_nI, nI_1 j]
      exact t2
    · rw [t3]
    · rw [t5 k hk]
      exact pk_un (by omega)
theorem op_longest {s : NjS} {m : MdS} (h : Rel s m) (x : Int32) : Same (mo_Nj_longest s x) (mo_Md_longest m x) := by
  obtain ⟨a, R, Q, W⟩ := h.ac
  have hn := R.1.1
  have h6 := pow6 hn
  have hb := Q.1.2.2.2.2
  rw [mo_Nj_longest, mo_Md_longest, c_isRow, r_isRow]
  simp only [Option.bind_some]
  rcases in_or x 6 (by decide) with ⟨r, hr, rfl, hbb⟩ | hbb
  · rw [hbb, R.1.2, Q.2.1]
    simp only [cond_true]
    by_cases g : nI (a_n a) = 0
    · rw [if_pos g, if_pos g]
      exact Same.of h _
    · obtain ⟨o, l, w, t1, t2⟩ := r_layOuts Q
      have hL := p_L_6 hn (by omega : a_b a < 64)
      have el : l (a_b a) = nI (p_L a (a_b a)) := (t2 (a_b a) hb).2.1
      rw [if_neg g, if_neg g, pu_in_t hr (by decide), pu_n (by omega : r < 2 ^ 31), mo_Orders_layLongest, f_ob (c_measure R (nj_os s)), R.2.2.2.2.2.1.1, pu_in_t (by omega : a_b a < 64) (by decide), pu_n (by omega : a_b a < 2 ^ 31), q_set_lt (p_C a) (nj_os s) (Nat.lt_succ_self (a_b a)), f_ob t1, sc_r, Q.inn, pu_in_t (by omega : a_b a < 64) (by decide), pu_n (by omega : a_b a < 2 ^ 31), sc_l, el]
      have ec : p_C a (a_b a) = nI (p_L a (a_b a)) := by unfold p_C; rw [if_pos (p_an_self _)]
      rw [ec]
      simp only [cond_true]
      rw [f_ob (c_renew _ (by omega : p_L a (a_b a) ≤ 40)), f_ob (r_makeRow (md_sc m o l w) hr)]
      obtain ⟨x2, it2, u1, u2, u3, u4, u5⟩ := f_long R (q_set (p_C a) (nj_os s) (a_b a + 1)) (fun T hT => by
        have := p_an_zero_le hT
        rw [q_set_lt (p_C a) (nj_os s) (by omega)]
        unfold p_C
        rw [if_pos hT]) hr hL (p_L a (a_b a)) 0 (a_b a) nj_fu nj_fu (nI (p_L a (a_b a)), p_zero (ro_places (nj_rows s r)) 0 (p_L a (a_b a)) 0) (ms_items (ms_sizes (md_sc m o l w) (upd (md_sizes (md_sc m o l w)) r (nI (p_L a (a_b a))))) (p_zero (md_items (md_sc m o l w)) (40 * r) 40 0)) (by omega) rfl (p_an_self _) (pu_fu (by omega)) (pu_fu (by omega)) (fun T hT => ⟨(t2 T hT).1, (t2 T hT).2.1⟩) (fun k hk => by omega)
      have u1' : lo_Orders_layLongest_27 (q_set (p_C a) (nj_os s) (a_b a + 1)) (nj_club s) (nI (p_L a (a_b a))) nj_fu (nI (p_L a (a_b a)), p_zero (ro_places (nj_rows s r)) 0 (p_L a (a_b a)) 0) (nI (a_b a)) 0 = some x2 := u1
      rw [it_it] at u2
      have u2' : lo_Md_longest_46 (nI r) (nI (p_L a (a_b a))) nj_fu (ms_items (ms_sizes (md_sc m o l w) (upd (md_sizes (md_sc m o l w)) r (nI (p_L a (a_b a))))) (p_zero (md_items (md_sc m o l w)) (40 * r) 40 0)) (nI (a_b a)) 0 = some (ms_items (ms_sizes (md_sc m o l w) (upd (md_sizes (md_sc m o l w)) r (nI (p_L a (a_b a))))) it2) := u2
      rw [f_ob u1', f_ob u2']
      refine ⟨_, _, _, rfl, rfl, h.1.set hr (fun k hk => ?_) ⟨u3, Or.inr ⟨p_L a (a_b a), by omega, rfl, fun k hk => u4 k hk⟩⟩, h.2⟩
      refine (u5 k hk).trans ?_
      show p_zero (md_items m) (40 * r) 40 0 k = md_items m k
      unfold p_zero
      rw [if_neg (by omega)]
  · rw [hbb]
    exact Same.of h _
