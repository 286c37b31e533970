/-! pure: lay, tear, mean, text, put -/
theorem op_lay {s : NjS} {m : MdS} (h : Rel s m) (x y z : Int32) : Same (mo_Nj_lay s x y z) (mo_Md_lay m x y z) := by
  rw [mo_Nj_lay, mo_Md_lay]
  rcases op_place h x y with ⟨r, k, n, hr, hk, hn, rfl, rfl, e1, q1, q2⟩ | ⟨v, s', m', hv, q1, q2, q3⟩
  · rw [q1, q2]
    simp only [Option.bind_some, if_true]
    rw [e40, pu_in_t (by omega : 40 * r + k < 240) (by decide), pu_n (by omega), pu_in_t hr (by decide), pu_n (by omega), pu_in_t (by omega : k < 40) (by decide), pu_n (by omega)]
    obtain ⟨w1, w2⟩ := h.1 r hr
    rcases w2 with w2 | ⟨n2, a1, a2, a3⟩
    · rw [e1] at w2
      exact absurd (w2 ▸ nI_pos' (by omega : n < 2 ^ 31)) m1_nle
    · have hn2 : n2 = n := (nI_eq (by omega) (by omega)).1 (a2.symm.trans e1)
      subst hn2
      refine ⟨1, _, _, rfl, rfl, ?_, h.2.1, h.2.2.1, h.2.2.2.1, ?_, h.2.2.2.2.2⟩
      · have g := h.1.set hr (x := rs_places (nj_rows s r) (upd (ro_places (nj_rows s r)) k z)) (sz := md_sizes m r) (it := upd (md_items m) (40 * r + k) z)
          (fun j hj => pk_un (by omega)) ⟨w1, Or.inr ⟨n2, a1, a2, fun j hj => by
            show upd (ro_places (nj_rows s r)) k z j = upd (md_items m) (40 * r + k) z (40 * r + j)
            unfold upd
            by_cases g : j = k
            · subst g; simp
            · rw [if_neg g, if_neg (by omega), a3 j hj]⟩⟩
        have e : upd (md_sizes m) r (md_sizes m r) = md_sizes m := fa_upd_same rfl
        rw [e] at g
        exact g
      · exact a3 k hk
  · rw [q1, q2]
    simp only [Option.bind_some, if_neg hv]
    exact ⟨v, s', m', rfl, rfl, q3⟩
theorem op_tear {s : NjS} {m : MdS} (h : Rel s m) (x : Int32) : Same (mo_Nj_tear s x) (mo_Md_tear m x) := by
  rw [mo_Nj_tear, mo_Md_tear, c_isRow, r_isRow]
  simp only [Option.bind_some]
  rcases in_or x 6 (by decide) with ⟨r, hr, rfl, hb⟩ | hb
  · rw [hb]
    simp only [cond_true, pu_in_t hr (by decide), pu_n (by omega : r < 2 ^ 31)]
    rcases (h.1 r hr).inv with ⟨e1, e2⟩ | ⟨n, hn, e1, e2, e3⟩
    · rw [mo_Row_isMissing, e2, if_neg m1_nle, e1, if_neg m1_nle]
      exact (f_found h 1 (by decide)).b
    · have p1 : (0 : Int32) ≤ nI n := nI_pos' (by omega)
      rw [mo_Row_isMissing, e2, if_pos p1, e1, if_pos p1]
      refine ⟨1, _, _, rfl, rfl, h.1.set hr (fun _ _ => rfl) ⟨rfl, Or.inl rfl⟩, h.2⟩
  · rw [hb]
    exact Same.of h _
def p_sl (f : Nat → Int32) : Nat → Int64
  | 0 => 0
  | n + 1 => p_sl f n + (f n).toInt64
theorem p_sl_cong {f g : Nat → Int32} : ∀ {n : Nat}, (∀ k, k < n → f k = g k) → p_sl f n = p_sl g n
  | 0, _ => rfl
  | n + 1, h => by rw [p_sl, p_sl, p_sl_cong (fun k hk => h k (by omega)), h n (by omega)]
theorem c_sum (r : RowS) {n : Nat} (hn : n ≤ 40) (hs : ro_size r = nI n) : mo_Row_sum r = some (p_sl (ro_places r) n) := by
  have h := pu_loop (fun f st i => lo_Row_sum_4 r f st i) n (fun k => p_sl (ro_places r) k) (some (p_sl (ro_places r) n))
    (fun f => by rw [lo_Row_sum_4, hs, if_pos (nI_le (Nat.le_refl _) (by omega))])
    (fun f k hk => by rw [lo_Row_sum_4, hs, if_neg (nI_ge hk (by omega)), pu_in_t (by omega : k < 40) (by decide), pu_n (by omega), nI_1]; rfl)
    n nj_fu 0 (by omega) (pu_fu (by omega))
  have h2 : lo_Row_sum_4 r nj_fu 0 0 = some (p_sl (ro_places r) n) := h
  rw [mo_Row_sum, h2]
  rfl
theorem op_mean {s : NjS} {m : MdS} (h : Rel s m) (x : Int32) : Same (mo_Nj_mean s x) (mo_Md_mean m x) := by
  rw [mo_Nj_mean, mo_Md_mean, c_isRow, r_isRow]
  simp only [Option.bind_some]
  rcases in_or x 6 (by decide) with ⟨r, hr, rfl, hb⟩ | hb
  · rw [hb]
    simp only [cond_true, pu_in_t hr (by decide), pu_n (by omega : r < 2 ^ 31)]
    rcases (h.1 r hr).inv with ⟨e1, e2⟩ | ⟨n, hn, e1, e2, e3⟩
    · rw [mo_Row_isMissing, e2, if_neg m1_nle, e1, if_neg m1_nle]
      exact (f_found h 1 (by decide)).b
    · have p1 : (0 : Int32) ≤ nI n := nI_pos' (by omega)
      rw [mo_Row_isMissing, e2, if_pos p1, e1, if_pos p1]
      simp only [Option.bind_some, cond_false]
      have e0 : (nI n = (0 : Int32)) ↔ n = 0 := nI_eq (b := 0) (by omega) (by decide)
      by_cases g : n = 0
      · rw [if_pos (e0.2 g), if_pos (e0.2 g)]
        exact (f_found h 4 (by decide)).b
      · rw [if_neg (fun q => g (e0.1 q)), if_neg (fun q => g (e0.1 q)), c_sum _ hn e2]
        have hl := pu_loop (fun f st i => lo_Md_mean_44 m (nI r) f st i) n (fun k => p_sl (fun k => md_items m (40 * r + k)) k) (some (p_sl (fun k => md_items m (40 * r + k)) n))
          (fun f => by rw [lo_Md_mean_44, pu_in_t hr (by decide), pu_n (by omega), e1, if_pos (nI_le (Nat.le_refl _) (by omega))]; rfl)
          (fun f k hk => by rw [lo_Md_mean_44, pu_in_t hr (by decide), pu_n (by omega), e1, if_neg (nI_ge hk (by omega)), e40, pu_in_t (by omega : 40 * r + k < 240) (by decide), pu_n (by omega), nI_1]; rfl)
          n nj_fu 0 (by omega) (pu_fu (by omega))
        have hl2 : lo_Md_mean_44 m (nI r) nj_fu 0 0 = some (p_sl (fun k => md_items m (40 * r + k)) n) := hl
        rw [hl2, ← p_sl_cong e3]
        have e5 : ¬ (Int32.toInt64 (nI n)) = 0 := by
          rw [nI_l (by omega)]
          exact fun q => g ((lN_eq (b := 0) (by omega) (by decide)).1 q)
        simp only [Option.bind_some, e5, not_false_eq_true, if_true]
        exact ⟨1, _, _, rfl, rfl, h.1, h.2.1, h.2.2.1, h.2.2.2.1, rfl, h.2.2.2.2.2⟩
  · rw [hb]
    exact Same.of h _
theorem GT.set {texts : Nat → TexS} {lengths bytes : Nat → Int32} (h : GT texts lengths bytes) {r : Nat} (hr : r < 4) {x : TexS} {sz : Int32} {it : Nat → Int32} (ho : ∀ k, (k < 60 * r ∨ 60 * r + 60 ≤ k) → it k = bytes k) (hx : RT x sz (fun k => it (60 * r + k))) : GT (va_up texts r x) (upd lengths r sz) it := by
  intro q hq
  unfold va_up upd
  by_cases g : q = r
  · subst g; simp; exact hx
  · rw [if_neg g, if_neg g]
    obtain ⟨h1, h2⟩ := h q hq
    refine ⟨h1, ?_⟩
    rcases h2 with h2 | ⟨n, a1, a2, a3⟩
    · exact Or.inl h2
    · refine Or.inr ⟨n, a1, a2, fun k hk => ?_⟩
      rw [a3 k hk]
      exact (ho (60 * q + k) (by omega)).symm
theorem c_renewT (r : TexS) {n : Nat} (hn : n ≤ 60) : mo_Text_renew r (nI n) = some (nI n, p_zero (te_bytes r) 0 n 32) := by
  have e32 : vp_nar .byte (32 : Int32) = 32 := by decide
  have h := pu_loop (fun f (st : TexS) i => lo_Text_renew_7 (nI n) f st i) n (fun k => (nI n, p_zero (te_bytes r) 0 k 32)) (some (nI n, p_zero (te_bytes r) 0 n 32))
    (fun f => by rw [lo_Text_renew_7, if_pos (nI_le (Nat.le_refl _) (by omega))])
    (fun f k hk => by
      rw [lo_Text_renew_7, if_neg (nI_ge hk (by omega)), pu_in_t (by omega : k < 60) (by decide), pu_n (by omega), nI_1, e32]
      show lo_Text_renew_7 (nI n) f (nI n, upd (p_zero (te_bytes r) 0 k 32) k 32) (nI (k + 1)) = _
      have := p_zero_s (te_bytes r) 0 k 32
      rw [Nat.zero_add] at this
      rw [this])
    n nj_fu 0 (by omega) (pu_fu (by omega))
  have h2 : lo_Text_renew_7 (nI n) nj_fu (ts_size r (nI n)) 0 = some (nI n, p_zero (te_bytes r) 0 n 32) := by
    rw [p_zero_0] at h
    exact h
  rw [mo_Text_renew, h2]
  rfl
theorem op_text {s : NjS} {m : MdS} (h : Rel s m) (x y : Int32) : Same (mo_Nj_text s x y) (mo_Md_text m x y) := by
  rw [mo_Nj_text, mo_Md_text, c_isText, r_isText]
  simp only [Option.bind_some]
  rcases in_or x 4 (by decide) with ⟨r, hr, rfl, hb⟩ | hb
  · rw [hb]
    simp only [cond_true]
    by_cases g1 : y ≤ 60
    · rw [if_pos g1, if_pos g1]
      by_cases g2 : 0 ≤ y
      · rw [if_pos g2, if_pos g2]
        obtain ⟨n, hn, rfl⟩ := nI_of2 (M := 60) (n := 60) (by decide) (fun q => (fa_of_lt q).2.1 g2) g1
        rw [pu_in_t hr (by decide), pu_n (by omega), c_renewT _ hn]
        have hl := pu_loop (fun f (st : MdS) i => lo_Md_text_34 (nI r) (nI n) f st i) 60 (fun k => ms_bytes (ms_lengths m (upd (md_lengths m) r (nI n))) (p_zero (md_bytes m) (60 * r) k 32)) (some (ms_bytes (ms_lengths m (upd (md_lengths m) r (nI n))) (p_zero (md_bytes m) (60 * r) 60 32)))
          (fun f => by
            have e0 : (60 : Int32) ≤ nI 60 := nI_le (Nat.le_refl 60) (by decide)
            rw [lo_Md_text_34, if_pos e0])
          (fun f k hk => by
            have e2 : ¬ ((60 : Int32) ≤ nI k) := nI_ge hk (by decide)
            rw [lo_Md_text_34, if_neg e2, e60, pu_in_t (by omega : 60 * r + k < 240) (by decide), pu_n (by omega), nI_1, ← p_zero_s]
            rfl)
          60 nj_fu 0 (by omega) (pu_fu (by omega))
        rw [p_zero_0] at hl
        have hl2 : lo_Md_text_34 (nI r) (nI n) nj_fu (ms_lengths m (upd (md_lengths m) r (nI n))) 0 = some (ms_bytes (ms_lengths m (upd (md_lengths m) r (nI n))) (p_zero (md_bytes m) (60 * r) 60 32)) := hl
        rw [hl2]
        refine ⟨_, _, _, rfl, rfl, h.1, h.2.1.set hr (fun k hk => by
          show p_zero (md_bytes m) (60 * r) 60 32 k = md_bytes m k
          unfold p_zero
          rw [if_neg (by omega)]) ⟨rfl, Or.inr ⟨n, hn, rfl, fun k hk => ?_⟩⟩, h.2.2⟩
        show p_zero _ 0 n 32 k = p_zero _ (60 * r) 60 32 (60 * r + k)
        unfold p_zero
        rw [if_pos (by omega), if_pos (by omega)]
      · rw [if_neg g2, if_neg g2]
        exact (f_found h 5 (by decide)).b
    · rw [if_neg g1, if_neg g1]
      exact Same.of h _
  · rw [hb]
    exact Same.of h _
theorem op_put {s : NjS} {m : MdS} (h : Rel s m) (x y z : Int32) : Same (mo_Nj_put s x y z) (mo_Md_put m x y z) := by
  rw [mo_Nj_put, mo_Md_put, c_isText, r_isText]
  simp only [Option.bind_some]
  rcases in_or x 4 (by decide) with ⟨r, hr, rfl, hb⟩ | hb
  · rw [hb]
    simp only [cond_true, pu_in_t hr (by decide), pu_n (by omega : r < 2 ^ 31)]
    rcases (h.2.1 r hr).inv with ⟨e1, e2⟩ | ⟨n, hn, e1, e2, e3⟩
    · rw [mo_Text_isMissing, e2, if_neg m1_nle, e1, if_neg m1_nle]
      exact (f_found h 1 (by decide)).b
    · have p1 : (0 : Int32) ≤ nI n := nI_pos' (by omega)
      rw [mo_Text_isMissing, e2, if_pos p1, e1, if_pos p1, r_inN y (by omega), mo_Text_hasPlace, e2, c_range y n (by omega)]
      simp only [Option.bind_some, cond_false]
      rcases in_or y n (by omega) with ⟨k, hk, rfl, hb2⟩ | hb2
      · rw [hb2, e60, pu_in_t (by omega : 60 * r + k < 240) (by decide), pu_n (by omega), pu_in_t (by omega : k < 60) (by decide), pu_n (by omega), pk_vb, e3 k hk]
        simp only [cond_true]
        refine ⟨_, _, _, rfl, rfl, h.1, ?_, h.2.2⟩
        have g := h.2.1.set hr (x := ts_bytes (nj_texts s r) (upd (te_bytes (nj_texts s r)) k z.toInt8.toInt32)) (sz := md_lengths m r) (it := upd (md_bytes m) (60 * r + k) z.toInt8.toInt32)
          (fun j hj => pk_un (by omega)) ⟨e2.trans e1.symm, Or.inr ⟨n, hn, e1, fun j hj => by
            show upd (te_bytes (nj_texts s r)) k z.toInt8.toInt32 j = upd (md_bytes m) (60 * r + k) z.toInt8.toInt32 (60 * r + j)
            unfold upd
            by_cases g : j = k
            · subst g; simp
            · rw [if_neg g, if_neg (by omega), e3 j hj]⟩⟩
        have e : upd (md_lengths m) r (md_lengths m r) = md_lengths m := fa_upd_same rfl
        rw [e] at g
        exact g
      · rw [hb2]
        exact (f_found h 2 (by decide)).b
  · rw [hb]
    exact Same.of h _
