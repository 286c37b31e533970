/-! pure: club -/
/-- the reference with another club -/
def md_cl (m : MdS) (row kinds : Nat → Int32) (cn : Int32) : MdS := (row, cn, kinds, m.2.2.2.1, m.2.2.2.2.1, m.2.2.2.2.2.1, m.2.2.2.2.2.2.1, m.2.2.2.2.2.2.2.1, m.2.2.2.2.2.2.2.2.1, m.2.2.2.2.2.2.2.2.2.1, m.2.2.2.2.2.2.2.2.2.2.1, m.2.2.2.2.2.2.2.2.2.2.2.1, m.2.2.2.2.2.2.2.2.2.2.2.2.1, m.2.2.2.2.2.2.2.2.2.2.2.2.2.1, m.2.2.2.2.2.2.2.2.2.2.2.2.2.2.1, m.2.2.2.2.2.2.2.2.2.2.2.2.2.2.2.1, m.2.2.2.2.2.2.2.2.2.2.2.2.2.2.2.2.1, m.2.2.2.2.2.2.2.2.2.2.2.2.2.2.2.2.2.1, m.2.2.2.2.2.2.2.2.2.2.2.2.2.2.2.2.2.2.1, m.2.2.2.2.2.2.2.2.2.2.2.2.2.2.2.2.2.2.2.1, m.2.2.2.2.2.2.2.2.2.2.2.2.2.2.2.2.2.2.2.2.1, m.2.2.2.2.2.2.2.2.2.2.2.2.2.2.2.2.2.2.2.2.2.1, m.2.2.2.2.2.2.2.2.2.2.2.2.2.2.2.2.2.2.2.2.2.2)
theorem cl_0 (m : MdS) (x : Int32) : ms_children m x = md_cl m (md_row m) (md_kinds m) x := rfl
theorem cl_row (m : MdS) (row kinds : Nat → Int32) (cn : Int32) (x : Nat → Int32) : ms_row (md_cl m row kinds cn) x = md_cl m x kinds cn := rfl
theorem cl_grow (m : MdS) (row kinds : Nat → Int32) (cn : Int32) : md_row (md_cl m row kinds cn) = row := rfl
theorem cl_gcn (m : MdS) (row kinds : Nat → Int32) (cn : Int32) : md_children (md_cl m row kinds cn) = cn := rfl
theorem cl_grule (m : MdS) (row kinds : Nat → Int32) (cn : Int32) : md_readRule (md_cl m row kinds cn) = md_readRule m := rfl
theorem h_47 (f : Nat) (m : MdS) (row kinds : Nat → Int32) (cn : Int32) (x : Int32) : lo_Md_club_47 (f + 1) (md_cl m row kinds cn) x = if (576 : Int32) ≤ x then some (md_cl m row kinds cn) else (bif nj_in x 2304 then lo_Md_club_47 f (md_cl m (upd row (nj_n x) 0) kinds cn) (x + 1) else none) := rfl
theorem h_94 (f : Nat) (m : MdS) (row kinds : Nat → Int32) (cn : Int32) (x : Int32) : lo_Md_club_94 (f + 1) (md_cl m row kinds cn) x = if cn ≤ x then some (md_cl m row kinds cn) else (bif nj_in ((2 : Int32) * x) 12 then (bif nj_in x 6 then (bif nj_in (((2 : Int32) * x) + (1 : Int32)) 12 then (bif nj_in ((3 : Int32) + x) 2304 then (bif nj_in x 6 then (bif nj_in ((9 : Int32) + x) 2304 then lo_Md_club_94 f (md_cl m (upd (upd row (nj_n ((3 : Int32) + x)) (md_readChildren m (nj_n (((2 : Int32) * x) + (1 : Int32))))) (nj_n ((9 : Int32) + x)) (md_readLikes m (nj_n x))) (upd kinds (nj_n x) (md_readChildren m (nj_n ((2 : Int32) * x)))) cn) (x + 1) else none) else none) else none) else none) else none) else none) := rfl
theorem h_157 (f : Nat) (m : MdS) (row kinds : Nat → Int32) (cn : Int32) (x : Int32) : lo_Md_club_157 (f + 1) (md_cl m row kinds cn) x = if (4 : Int32) ≤ x then some (md_cl m row kinds cn) else (bif nj_in (((576 : Int32) * x) + (0 : Int32)) 2304 then lo_Md_club_157 f (md_cl m (upd row (nj_n (((576 : Int32) * x) + (0 : Int32))) (-1)) kinds cn) (x + 1) else none) := rfl
theorem r_47 (m : MdS) (row kinds : Nat → Int32) (cn : Int32) : lo_Md_club_47 nj_fu (md_cl m row kinds cn) 0 = some (md_cl m (q_set (fun _ => 0) row 576) kinds cn) := by
  have h := pu_loop (fun f (st : MdS) i => lo_Md_club_47 f st i) 576 (fun k => md_cl m (q_set (fun _ => 0) row k) kinds cn) (some (md_cl m (q_set (fun _ => 0) row 576) kinds cn))
    (fun f => by
      have e0 : (576 : Int32) ≤ nI 576 := nI_le (Nat.le_refl 576) (by decide)
      rw [h_47, if_pos e0])
    (fun f k hk => by
      have e0 : ¬ (576 : Int32) ≤ nI k := nI_ge (b := 576) hk (by omega)
      rw [h_47, if_neg e0, pu_in_t (by omega : k < 2304) (by decide), pu_n (by omega), nI_1, ← q_set_s]
      rfl)
    576 nj_fu 0 (by omega) (pu_fu (by omega))
  rw [q_set_0] at h
  exact h
def p_r9 (row ch lk : Nat → Int32) (k : Nat) : Nat → Int32 := fun j => if 3 ≤ j ∧ j < 3 + k then ch (2 * (j - 3) + 1) else if 9 ≤ j ∧ j < 9 + k then lk (j - 9) else row j
theorem p_r9_0 (row ch lk : Nat → Int32) : p_r9 row ch lk 0 = row := by
  funext j
  unfold p_r9
  rw [if_neg (by omega), if_neg (by omega)]
theorem p_r9_s (row ch lk : Nat → Int32) {k : Nat} (hk : k < 6) : upd (upd (p_r9 row ch lk k) (3 + k) (ch (2 * k + 1))) (9 + k) (lk k) = p_r9 row ch lk (k + 1) := by
  funext j
  by_cases g1 : j = 9 + k
  · rw [g1, pk_us]
    unfold p_r9
    rw [if_neg (by omega), if_pos (by omega)]
    congr 1
    omega
  · rw [pk_un g1]
    by_cases g2 : j = 3 + k
    · rw [g2, pk_us]
      unfold p_r9
      rw [if_pos (by omega)]
      congr 1
      omega
    · rw [pk_un g2]
      unfold p_r9
      by_cases g3 : 3 ≤ j ∧ j < 3 + k
      · rw [if_pos g3, if_pos (show 3 ≤ j ∧ j < 3 + (k + 1) by omega)]
      · rw [if_neg g3, if_neg (show ¬ (3 ≤ j ∧ j < 3 + (k + 1)) by omega)]
        by_cases g4 : 9 ≤ j ∧ j < 9 + k
        · rw [if_pos g4, if_pos (show 9 ≤ j ∧ j < 9 + (k + 1) by omega)]
        · rw [if_neg g4, if_neg (show ¬ (9 ≤ j ∧ j < 9 + (k + 1)) by omega)]
theorem r_94 (m : MdS) (row kinds : Nat → Int32) {n : Nat} (hn : n ≤ 6) : lo_Md_club_94 nj_fu (md_cl m row kinds (nI n)) 0 = some (md_cl m (p_r9 row (md_readChildren m) (md_readLikes m) n) (q_set (fun j => md_readChildren m (2 * j)) kinds n) (nI n)) := by
  have h := pu_loop (fun f (st : MdS) i => lo_Md_club_94 f st i) n (fun k => md_cl m (p_r9 row (md_readChildren m) (md_readLikes m) k) (q_set (fun j => md_readChildren m (2 * j)) kinds k) (nI n)) (some (md_cl m (p_r9 row (md_readChildren m) (md_readLikes m) n) (q_set (fun j => md_readChildren m (2 * j)) kinds n) (nI n)))
    (fun f => by
      rw [h_94, if_pos (nI_le (Nat.le_refl _) (by omega))])
    (fun f k hk => by
      have e2 : (2 : Int32) * nI k = nI (2 * k) := pk_mul 2 k
      have e21 : nI (2 * k) + (1 : Int32) = nI (2 * k + 1) := nI_add _ 1
      rw [h_94, if_neg (nI_ge hk (by omega)), e2, e21, e3, e9, pu_in_t (by omega : 2 * k < 12) (by decide), pu_in_t (by omega : k < 6) (by decide), pu_in_t (by omega : 2 * k + 1 < 12) (by decide), pu_in_t (by omega : 3 + k < 2304) (by decide), pu_in_t (by omega : 9 + k < 2304) (by decide), pu_n (by omega : 2 * k < 2 ^ 31), pu_n (by omega : k < 2 ^ 31), pu_n (by omega : 2 * k + 1 < 2 ^ 31), pu_n (by omega : 3 + k < 2 ^ 31), pu_n (by omega : 9 + k < 2 ^ 31), nI_1, p_r9_s _ _ _ (by omega : k < 6), ← q_set_s]
      rfl)
    n nj_fu 0 (by omega) (pu_fu (by omega))
  rw [p_r9_0, q_set_0] at h
  exact h
def p_m1 (row : Nat → Int32) (k : Nat) : Nat → Int32 := fun j => if j % 576 = 0 ∧ 576 ≤ j ∧ j < 576 * k then -1 else row j
theorem p_m1_1 (row : Nat → Int32) : p_m1 row 1 = row := by
  funext j
  unfold p_m1
  rw [if_neg (by omega)]
theorem p_m1_s (row : Nat → Int32) {k : Nat} (hk : 1 ≤ k) : upd (p_m1 row k) (576 * k) (-1) = p_m1 row (k + 1) := by
  funext j
  by_cases g : j = 576 * k
  · rw [g, pk_us]
    unfold p_m1
    rw [if_pos (by omega)]
  · rw [pk_un g]
    unfold p_m1
    by_cases g2 : j % 576 = 0 ∧ 576 ≤ j ∧ j < 576 * k
    · rw [if_pos g2, if_pos (by omega)]
    · rw [if_neg g2, if_neg (by omega)]
theorem r_157 (m : MdS) (row kinds : Nat → Int32) (cn : Int32) : lo_Md_club_157 nj_fu (md_cl m row kinds cn) 1 = some (md_cl m (p_m1 row 4) kinds cn) := by
  have key : ∀ (d k f : Nat), k + d = 4 → 1 ≤ k → d < f → lo_Md_club_157 f (md_cl m (p_m1 row k) kinds cn) (nI k) = some (md_cl m (p_m1 row 4) kinds cn) := by
    intro d
    induction d with
    | zero =>
      intro k f hk h1 hf
      obtain ⟨f, rfl⟩ : ∃ z, f = z + 1 := ⟨f - 1, by omega⟩
      have : k = 4 := by omega
      subst this
      have e0 : (4 : Int32) ≤ nI 4 := nI_le (Nat.le_refl 4) (by decide)
      rw [h_157, if_pos e0]
    | succ d ih =>
      intro k f hk h1 hf
      obtain ⟨f, rfl⟩ : ∃ z, f = z + 1 := ⟨f - 1, by omega⟩
      have e0 : ¬ (4 : Int32) ≤ nI k := nI_ge (b := 4) (by omega) (by omega)
      have e5 : ((576 : Int32) * nI k) + (0 : Int32) = nI (576 * k) := by
        have : (576 : Int32) * nI k = nI (576 * k) := pk_mul 576 _
        rw [this]
        exact nI_add _ 0
      rw [h_157, if_neg e0, e5, pu_in_t (by omega : 576 * k < 2304) (by decide), pu_n (by omega), p_m1_s row h1, nI_1]
      exact ih (k + 1) f (by omega) (by omega) (by omega)
  have := key 3 1 nj_fu (by omega) (by omega) (pu_fu (by omega))
  rw [p_m1_1] at this
  exact this
def c_clr (c : CluS) : CluS := cs_dc (cs_tin (cs_inn (cs_rule (cs_children c 0) 0) 0) 0) 0
theorem vup_set (g f : Nat → CluS) (k : Nat) : va_up (q_set g f k) k (g k) = q_set g f (k + 1) := by
  funext S
  unfold va_up q_set
  by_cases h : S = k
  · subst h
    simp
  · rw [if_neg h]
    by_cases h2 : S < k
    · rw [if_pos h2, if_pos (by omega)]
    · rw [if_neg h2, if_neg (by omega)]
theorem kp_kp (s : NjS) (x y : Nat → CluS) : ns_kept (ns_kept s x) y = ns_kept s y := rfl
theorem kp_self (s : NjS) : ns_kept s (nj_kept s) = s := rfl
theorem c_65 (s : NjS) : lo_Nj_club_65 nj_fu s 0 = some (ns_kept s (q_set (fun j => c_clr (nj_kept s j)) (nj_kept s) 3)) := by
  have h := pu_loop (fun f (st : NjS) i => lo_Nj_club_65 f st i) 3 (fun k => ns_kept s (q_set (fun j => c_clr (nj_kept s j)) (nj_kept s) k)) (some (ns_kept s (q_set (fun j => c_clr (nj_kept s j)) (nj_kept s) 3)))
    (fun f => by
      have e0 : (3 : Int32) ≤ nI 3 := nI_le (Nat.le_refl 3) (by decide)
      rw [lo_Nj_club_65, if_pos e0])
    (fun f k hk => by
      have e0 : ¬ (3 : Int32) ≤ nI k := nI_ge (b := 3) hk (by omega)
      have ec : mo_Club_clear (nj_kept (ns_kept s (q_set (fun j => c_clr (nj_kept s j)) (nj_kept s) k)) k) = some (c_clr (nj_kept s k)) := by
        show some (c_clr (q_set (fun j => c_clr (nj_kept s j)) (nj_kept s) k k)) = _
        have : q_set (fun j => c_clr (nj_kept s j)) (nj_kept s) k k = nj_kept s k := if_neg (Nat.lt_irrefl k)
        rw [this]
      have ev : va_up (nj_kept (ns_kept s (q_set (fun j => c_clr (nj_kept s j)) (nj_kept s) k))) k (c_clr (nj_kept s k)) = q_set (fun j => c_clr (nj_kept s j)) (nj_kept s) (k + 1) := vup_set (fun j => c_clr (nj_kept s j)) (nj_kept s) k
      rw [lo_Nj_club_65, if_neg e0, pu_in_t hk (by decide), pu_n (by omega), nI_1, f_ob ec, kp_kp, ev]
      rfl)
    3 nj_fu 0 (by omega) (pu_fu (by omega))
  rw [q_set_0] at h
  exact h
theorem op_club {s : NjS} {m : MdS} (h : Rel s m) (x : Int32) : Same (mo_Nj_club s x) (mo_Md_club m x) := by
  rw [mo_Nj_club, mo_Md_club, c_isText, r_isText]
  simp only [Option.bind_some]
  rcases in_or x 4 (by decide) with ⟨t, ht, rfl, hb⟩ | hb
  · rw [hb, pu_in_t ht (by decide), pu_n (by omega)]
    simp only [cond_true]
    rcases (h.2.1 t ht).inv with ⟨e1, e2⟩ | ⟨N, hN, e1, e2, e3⟩
    · rw [mo_Text_isMissing, e2, e1, if_neg m1_nle, if_neg m1_nle]
      exact (f_found h 1 (by decide)).b
    · have X : TX (nj_texts s t) m t N := ⟨hN, ht, e2, e3⟩
      have p1 : (0 : Int32) ≤ nI N := nI_pos' (by omega)
      obtain ⟨r, d2, c2, p2, ru2, ch2, n2, lk2, q2, u1, u2, u3⟩ := f_read X e1 (nj_rd s) (nj_draft s)
      rw [mo_Text_isMissing, e2, e1, if_pos p1, if_pos p1, f_ob rfl]
      simp only [cond_false]
      rw [f_ob u1, f_ob u2]
      by_cases g : r = -9
      · obtain ⟨a, rfl, hpos, rfl, R, W, hbf, htin, hdc, hch, hlk⟩ := u3 g
        have hn := R.1.1
        have eb : mo_Club_become (nj_club s) c2 = some (c_bec (nj_club s) c2) := rfl
        rw [if_pos g, if_pos g, f_ob eb, f_ob (c_65 _), g_many, cl_0, f_ob (r_47 _ _ _ _), cl_row, cl_grow, cl_gcn, cl_grule, pu_full hn, f_ob (r_94 _ _ _ hn), f_ob (r_157 _ _ _ _)]
        have gru : md_readRule (rd_at m t N p2 (nI (a_r a)) ch2 (a_n a) lk2 q2) = nI (a_r a) := rfl
        have gch : md_readChildren (rd_at m t N p2 (nI (a_r a)) ch2 (a_n a) lk2 q2) = ch2 := rfl
        have glk : md_readLikes (rd_at m t N p2 (nI (a_r a)) ch2 (a_n a) lk2 q2) = lk2 := rfl
        have grw : md_row (rd_at m t N p2 (nI (a_r a)) ch2 (a_n a) lk2 q2) = md_row m := rfl
        have gkn : md_kinds (rd_at m t N p2 (nI (a_r a)) ch2 (a_n a) lk2 q2) = md_kinds m := rfl
        rw [gru, gch, glk, grw, gkn, cl_gcn]
        have hrow : ∀ j, j < 576 → p_m1 (p_r9 (upd (upd (q_set (fun _ => 0) (md_row m) 576) 15 (nI (a_r a))) 1 (nI (2 ^ a_n a - 1))) ch2 lk2 (a_n a)) 4 j = p_r9 (upd (upd (q_set (fun _ => 0) (md_row m) 576) 15 (nI (a_r a))) 1 (nI (2 ^ a_n a - 1))) ch2 lk2 (a_n a) j := fun j hj => by
          unfold p_m1
          rw [if_neg (by omega)]
        have K : RK (c_bec (nj_club s) c2) (p_m1 (p_r9 (upd (upd (q_set (fun _ => 0) (md_row m) 576) 15 (nI (a_r a))) 1 (nI (2 ^ a_n a - 1))) ch2 lk2 (a_n a)) 4) 0 a := by
          refine ⟨R.bec, ⟨?_, ?_, fun i hi => ?_, fun i hi => ?_, ?_⟩, W, 0, (fun _ => 0), by omega, ?_, ?_, fun j hj => absurd hj (Nat.not_lt_zero _), fun j hj => absurd hj (Nat.not_lt_zero _)⟩
          · rw [hrow _ (by omega)]
            unfold p_r9
            rw [if_neg (by omega), if_neg (by omega), hbf]
            exact pk_us
          · rw [hrow _ (by omega)]
            unfold p_r9
            rw [if_neg (by omega), if_neg (by omega), pk_un (by omega), pk_un (by omega), q_set_lt (fun _ => (0 : Int32)) _ (by omega), htin]
          · rw [hrow _ (by omega)]
            unfold p_r9
            rw [if_pos (by omega)]
            have : 2 * (0 + 3 + i - 3) + 1 = 2 * i + 1 := by omega
            rw [this]
            exact (hch i hi).2
          · rw [hrow _ (by omega)]
            unfold p_r9
            rw [if_neg (by omega), if_pos (by omega)]
            have : 0 + 9 + i - 9 = i := by omega
            rw [this]
            exact hlk i (by omega)
          · rw [hrow _ (by omega)]
            unfold p_r9
            rw [if_neg (by omega), if_neg (by omega), pk_un (by omega)]
            exact pk_us
          · show cl_dc c2 = nI 0
            rw [hdc]
            rfl
          · rw [hrow _ (by omega)]
            unfold p_r9
            rw [if_neg (by omega), if_neg (by omega), pk_un (by omega), pk_un (by omega), q_set_lt (fun _ => (0 : Int32)) _ (by omega)]
            rfl
        have ecc : cl_children c2 = nI (a_n a) := R.1.2
        show Same (some (cl_children c2, _)) _
        rw [ecc]
        refine ⟨_, _, _, rfl, rfl, h.1, h.2.1, ⟨a, K, rfl, fun i hi => ?_, fun k hk => Or.inl ⟨?_, ?_⟩⟩, h.2.2.2⟩
        · show q_set (fun j => ch2 (2 * j)) (md_kinds m) (a_n a) i = _
          rw [q_set_lt (fun j => ch2 (2 * j)) _ hi]
          exact (hch i hi).1
        · show cl_children (q_set (fun j => c_clr (nj_kept s j)) (nj_kept s) 3 k) = 0
          rw [q_set_lt (fun j => c_clr (nj_kept s j)) _ hk]
          rfl
        · show p_m1 _ 4 (576 * (1 + k)) = -1
          unfold p_m1
          rw [if_pos (by omega)]
      · rw [if_neg g, if_neg g]
        exact ⟨_, _, _, rfl, rfl, h.1, h.2⟩
  · rw [hb]
    exact Same.of h _
