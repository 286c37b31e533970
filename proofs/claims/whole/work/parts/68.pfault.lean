/-! pure: reading a text whole; fault -/
def rd_gen (m : MdS) (fr pl st ru : Int32) (ch : Nat → Int32) (mn : Int32) (lk : Nat → Int32) (pr : Int32) : MdS := (m.1, m.2.1, m.2.2.1, m.2.2.2.1, m.2.2.2.2.1, m.2.2.2.2.2.1, m.2.2.2.2.2.2.1, m.2.2.2.2.2.2.2.1, m.2.2.2.2.2.2.2.2.1, m.2.2.2.2.2.2.2.2.2.1, m.2.2.2.2.2.2.2.2.2.2.1, m.2.2.2.2.2.2.2.2.2.2.2.1, fr, pl, st, ru, ch, mn, lk, pr, m.2.2.2.2.2.2.2.2.2.2.2.2.2.2.2.2.2.2.2.2.1, m.2.2.2.2.2.2.2.2.2.2.2.2.2.2.2.2.2.2.2.2.2.1, m.2.2.2.2.2.2.2.2.2.2.2.2.2.2.2.2.2.2.2.2.2.2)
theorem k_from (m : MdS) (x : Int32) : ms_from m x = rd_gen m x (md_place m) (md_stop m) (md_readRule m) (md_readChildren m) (md_readMany m) (md_readLikes m) (md_readPairs m) := rfl
theorem k_place (m : MdS) (fr pl st ru : Int32) (ch : Nat → Int32) (mn : Int32) (lk : Nat → Int32) (pr : Int32) (x : Int32) : ms_place (rd_gen m fr pl st ru ch mn lk pr) x = rd_gen m fr x st ru ch mn lk pr := rfl
theorem k_stop (m : MdS) (fr pl st ru : Int32) (ch : Nat → Int32) (mn : Int32) (lk : Nat → Int32) (pr : Int32) (x : Int32) : ms_stop (rd_gen m fr pl st ru ch mn lk pr) x = rd_gen m fr pl x ru ch mn lk pr := rfl
theorem k_many (m : MdS) (fr pl st ru : Int32) (ch : Nat → Int32) (mn : Int32) (lk : Nat → Int32) (pr : Int32) (x : Int32) : ms_readMany (rd_gen m fr pl st ru ch mn lk pr) x = rd_gen m fr pl st ru ch x lk pr := rfl
theorem k_pairs (m : MdS) (fr pl st ru : Int32) (ch : Nat → Int32) (mn : Int32) (lk : Nat → Int32) (pr : Int32) (x : Int32) : ms_readPairs (rd_gen m fr pl st ru ch mn lk pr) x = rd_gen m fr pl st ru ch mn lk x := rfl
theorem k_at (m : MdS) (t N p : Nat) (ru : Int32) (ch : Nat → Int32) (n : Nat) (lk : Nat → Int32) (q : Nat) : rd_gen m (nI (60 * t)) (nI p) (nI N) ru ch (nI n) lk (nI q) = (rd_at m t N p ru ch n lk q) := rfl
theorem h_35 (f : Nat) (m : MdS) (t N p : Nat) (ru : Int32) (ch : Nat → Int32) (n : Nat) (lk : Nat → Int32) (q : Nat) (x : Int32) : lo_Md_faultOf_35 (f + 1) (rd_at m t N p ru ch n lk q) x = if (6 : Int32) ≤ x then some (rd_at m t N p ru ch n lk q) else (bif nj_in x 6 then lo_Md_faultOf_35 f (ms_readLikes (rd_at m t N p ru ch n lk q) (upd (md_readLikes (rd_at m t N p ru ch n lk q)) (nj_n x) 0)) (x + 1) else none) := rfl
theorem s_likes (m : MdS) (t N p : Nat) (ru : Int32) (ch : Nat → Int32) (n : Nat) (lk : Nat → Int32) (q : Nat) (k : Nat) : ms_readLikes (rd_at m t N p ru ch n lk q) (upd (md_readLikes (rd_at m t N p ru ch n lk q)) k 0) = rd_at m t N p ru ch n (upd lk k 0) q := rfl
theorem h_67 (f : Nat) (m : MdS) (t N p : Nat) (ru : Int32) (ch : Nat → Int32) (n : Nat) (lk : Nat → Int32) (q : Nat) (x : Int32) : lo_Md_faultOf_67 (f + 1) (rd_at m t N p ru ch n lk q) x = if x = 0 then some ((rd_at m t N p ru ch n lk q), x) else if nI N ≤ nI p then some ((rd_at m t N p ru ch n lk q), x) else (mo_Md_here (rd_at m t N p ru ch n lk q)).bind (fun w10 => ((if w10 = (108 : Int32) then (mo_Md_readsPair (rd_at m t N p ru ch n lk q)).bind (fun w15 => some (nj_b w15.1, w15.2)) else (mo_Md_readsChild (rd_at m t N p ru ch n lk q)).bind (fun w13 => some (nj_b w13.1, w13.2))) : Option (Int32 × MdS)).bind (fun p12 => if p12.1 = 0 then lo_Md_faultOf_67 f p12.2 p12.1 else (mo_Md_skip p12.2).bind (fun w17 => lo_Md_faultOf_67 f w17 p12.1))) := rfl
theorem r_35 (m : MdS) (t N : Nat) (ru : Int32) (ch lk : Nat → Int32) : lo_Md_faultOf_35 nj_fu (rd_at m t N 0 ru ch 0 lk 0) 0 = some (rd_at m t N 0 ru ch 0 (q_set (fun _ => 0) lk 6) 0) := by
  have h := pu_loop (fun f (st : MdS) i => lo_Md_faultOf_35 f st i) 6 (fun k => rd_at m t N 0 ru ch 0 (q_set (fun _ => 0) lk k) 0) (some (rd_at m t N 0 ru ch 0 (q_set (fun _ => 0) lk 6) 0))
    (fun f => by
      have e0 : (6 : Int32) ≤ nI 6 := nI_le (Nat.le_refl 6) (by decide)
      rw [h_35, if_pos e0])
    (fun f k hk => by
      have e0 : ¬ (6 : Int32) ≤ nI k := nI_ge (b := 6) hk (by omega)
      rw [h_35, if_neg e0, pu_in_t hk (by decide), pu_n (by omega), nI_1, s_likes, ← q_set_s]
      rfl)
    6 nj_fu 0 (by omega) (pu_fu (by omega))
  rw [q_set_0] at h
  exact h
theorem f_loop {T : TexS} {m : MdS} {t N : Nat} (X : TX T m t N) : ∀ (d p p0 q v f1 f2 : Nat) (a : AC) (c : CluS) (ch lk : Nat → Int32), N - p ≤ d → p ≤ N → p0 ≤ p → v ≤ p0 → q ≤ 12 → d < f1 → d + 1 < f2 → (∀ (c : CluS) (y : Int32), mo_Reader_skipBlanks (nI p0, y) T c = some (nI p, y)) → RP c a ch lk → ∃ (r : Int32) (d2 : RdS) (c2 : CluS) (p2 : Nat) (ch2 : Nat → Int32) (n2 : Nat) (lk2 : Nat → Int32) (q2 : Nat) (fl : Int32), lo_Reader_readClub_35 T f1 (nI p0, nI q) c (nI v) = some (r, d2, c2) ∧ lo_Md_faultOf_67 f2 (rd_at m t N p (nI (a_r a)) ch (a_n a) lk q) 1 = some (rd_at m t N p2 (nI (a_r a)) ch2 n2 lk2 q2, fl) ∧ p2 ≤ N ∧ ((fl = 0 ∧ r = nI p2) ∨ (fl = 1 ∧ ∃ a2, n2 = a_n a2 ∧ a_r a2 = a_r a ∧ RP c2 a2 ch2 lk2 ∧ r = if a_n a2 = 0 then nI p2 else -9)) := by
  have hN := X.1
  have z1 : ¬ (1 : Int32) = 0 := by decide
  have zb1 : nj_b true = 1 := rfl
  have zb0 : nj_b false = 0 := rfl
  intro d
  induction d with
  | zero =>
    intro p p0 q v f1 f2 a c ch lk hd hp hp0 hv hq h1 h2 hsk H
    obtain ⟨f1, rfl⟩ : ∃ z, f1 = z + 1 := ⟨f1 - 1, by omega⟩
    obtain ⟨f2, rfl⟩ : ∃ z, f2 = z + 1 := ⟨f2 - 1, by omega⟩
    have hn := H.1.1.1
    have e60 : ¬ (60 : Int32) < nI v := fun z => (fa_of_lt z).2.1 (nI_le (b := 60) (by omega) (by decide))
    have elt : ¬ nI p < nI N := fun z => (fa_of_lt z).2.1 (nI_le (by omega) (by omega))
    have ec : (nI (a_n a) ≤ (0 : Int32)) ↔ a_n a = 0 := by
      have := nI_leI (a := a_n a) (b := 0) (by omega) (by decide)
      exact this.trans (by omega)
    refine ⟨if a_n a = 0 then nI p else -9, (nI p, nI q), c, p, ch, a_n a, lk, q, 1, ?_, ?_, hp, Or.inr ⟨rfl, a, rfl, rfl, H, rfl⟩⟩
    · rw [lo_Reader_readClub_35, if_neg e60, f_ob (hsk c (nI q)), X.2.2.1, if_neg elt, H.1.1.2]
      by_cases g : a_n a = 0
      · rw [if_pos (ec.2 g), if_pos g]
      · rw [if_neg (fun z => g (ec.1 z)), if_neg g]
    · rw [h_67, if_neg z1, if_pos (nI_le (by omega) (by omega))]
  | succ d ih =>
    intro p p0 q v f1 f2 a c ch lk hd hp hp0 hv hq h1 h2 hsk H
    obtain ⟨f1, rfl⟩ : ∃ z, f1 = z + 1 := ⟨f1 - 1, by omega⟩
    obtain ⟨f2, rfl⟩ : ∃ z, f2 = z + 1 := ⟨f2 - 1, by omega⟩
    have hn := H.1.1.1
    have e60 : ¬ (60 : Int32) < nI v := fun z => (fa_of_lt z).2.1 (nI_le (b := 60) (by omega) (by decide))
    by_cases gp : p = N
    · have elt : ¬ nI p < nI N := fun z => (fa_of_lt z).2.1 (nI_le (by omega) (by omega))
      have ec : (nI (a_n a) ≤ (0 : Int32)) ↔ a_n a = 0 := by
        have := nI_leI (a := a_n a) (b := 0) (by omega) (by decide)
        exact this.trans (by omega)
      refine ⟨if a_n a = 0 then nI p else -9, (nI p, nI q), c, p, ch, a_n a, lk, q, 1, ?_, ?_, hp, Or.inr ⟨rfl, a, rfl, rfl, H, rfl⟩⟩
      · rw [lo_Reader_readClub_35, if_neg e60, f_ob (hsk c (nI q)), X.2.2.1, if_neg elt, H.1.1.2]
        by_cases g : a_n a = 0
        · rw [if_pos (ec.2 g), if_pos g]
        · rw [if_neg (fun z => g (ec.1 z)), if_neg g]
      · rw [h_67, if_neg z1, if_pos (nI_le (by omega) (by omega))]
    · have hlt : p < N := by omega
      have hsg := c_sign X (by omega : p ≤ 100)
      rw [if_pos hlt] at hsg
      have hsg2 : mo_Text_signAt T (rd_place (nI p, nI q)) = some (md_bytes m (60 * t + p)) := hsg
      rw [lo_Reader_readClub_35, if_neg e60, f_ob (hsk c (nI q)), X.2.2.1, if_pos (nI_lt hlt (by omega)), f_ob hsg2, h_67, if_neg z1, if_neg (nI_ge hlt (by omega)), f_ob (r_here X hlt (nI (a_r a)) ch (a_n a) lk q)]
      by_cases g8 : md_bytes m (60 * t + p) = 108
      · rw [if_pos g8, if_pos g8]
        rcases f_pair X H hlt hq (nI (a_r a)) with ⟨p2, w1, w2, w3⟩ | ⟨c2, a2, lk2, w1, w2, w3, w4, w5, w6, w7⟩
        · rw [f_ob w2, f_ob w3]
          obtain ⟨f3, rfl⟩ : ∃ z, f2 = z + 1 := ⟨f2 - 1, by omega⟩
          refine ⟨nI p2, (nI p2, nI q), c, p2, ch, a_n a, lk, q, 0, ?_, ?_, w1, Or.inl ⟨rfl, rfl⟩⟩
          · rw [f_ob rfl]
            rfl
          · rw [f_ob rfl]
            show (if nj_b false = 0 then lo_Md_faultOf_67 (f3 + 1) (rd_at m t N p2 (nI (a_r a)) ch (a_n a) lk q) (nj_b false) else _) = _
            rw [zb0, if_pos rfl, h_67, if_pos rfl]
        · rw [f_ob w6, f_ob w7]
          obtain ⟨p4, y1, y2, y3, y4⟩ := f_skip2 X w1
          have hi := ih p4 (p + 3) (q + 1) (v + 1) f1 f2 a2 c2 ch lk2 (by omega) y2 y1 (by omega) w2 (by omega) (by omega) y3 w5
          rw [w3, w4] at hi
          obtain ⟨r, d3, c3, p3, ch3, n3, lk3, q3, fl, v1, v2, v3, v4⟩ := hi
          refine ⟨r, d3, c3, p3, ch3, n3, lk3, q3, fl, ?_, ?_, v3, v4⟩
          · rw [f_ob rfl]
            show (if nj_b true = 0 then _ else lo_Reader_readClub_35 T f1 (nI (p + 3), nI (q + 1)) c2 (nI v + 1)) = _
            rw [zb1, if_neg z1, nI_1]
            exact v1
          · rw [f_ob rfl]
            show (if nj_b true = 0 then _ else (mo_Md_skip (rd_at m t N (p + 3) (nI (a_r a)) ch (a_n a) lk2 (q + 1))).bind (fun w17 => lo_Md_faultOf_67 f2 w17 (nj_b true))) = _
            rw [zb1, if_neg z1, f_ob (y4 (nI (a_r a)) ch (a_n a) lk2 (q + 1))]
            exact v2
      · rw [if_neg g8, if_neg g8]
        rcases f_child X H hlt hq (nI (a_r a)) with ⟨p2, w1, w2, w3⟩ | ⟨c2, a2, ch2, w1, w4, w5, w6, w7⟩
        · rw [f_ob w2, f_ob w3]
          obtain ⟨f3, rfl⟩ : ∃ z, f2 = z + 1 := ⟨f2 - 1, by omega⟩
          refine ⟨nI p2, (nI p2, nI q), c, p2, ch, a_n a, lk, q, 0, ?_, ?_, w1, Or.inl ⟨rfl, rfl⟩⟩
          · rw [f_ob rfl]
            rfl
          · rw [f_ob rfl]
            show (if nj_b false = 0 then lo_Md_faultOf_67 (f3 + 1) (rd_at m t N p2 (nI (a_r a)) ch (a_n a) lk q) (nj_b false) else _) = _
            rw [zb0, if_pos rfl, h_67, if_pos rfl]
        · rw [f_ob w6, f_ob w7]
          obtain ⟨p4, y1, y2, y3, y4⟩ := f_skip2 X w1
          have hi := ih p4 (p + 2) q (v + 1) f1 f2 a2 c2 ch2 lk (by omega) y2 y1 (by omega) hq (by omega) (by omega) y3 w5
          rw [w4] at hi
          obtain ⟨r, d3, c3, p3, ch3, n3, lk3, q3, fl, v1, v2, v3, v4⟩ := hi
          refine ⟨r, d3, c3, p3, ch3, n3, lk3, q3, fl, ?_, ?_, v3, v4⟩
          · rw [f_ob rfl]
            show (if nj_b true = 0 then _ else lo_Reader_readClub_35 T f1 (nI (p + 2), nI q) c2 (nI v + 1)) = _
            rw [zb1, if_neg z1, nI_1]
            exact v1
          · rw [f_ob rfl]
            show (if nj_b true = 0 then _ else (mo_Md_skip (rd_at m t N (p + 2) (nI (a_r a)) ch2 (a_n a2) lk q)).bind (fun w17 => lo_Md_faultOf_67 f2 w17 (nj_b true))) = _
            rw [zb1, if_neg z1, f_ob (y4 (nI (a_r a)) ch2 (a_n a2) lk q)]
            exact v2
theorem f_read {T : TexS} {m : MdS} {t N : Nat} (X : TX T m t N) (hlen : md_lengths m t = nI N) (d0 : RdS) (c0 : CluS) : ∃ (r : Int32) (d2 : RdS) (c2 : CluS) (p2 : Nat) (ru2 : Int32) (ch2 : Nat → Int32) (n2 : Nat) (lk2 : Nat → Int32) (q2 : Nat), mo_Reader_readClub d0 T c0 = some (r, d2, c2) ∧ mo_Md_faultOf m (nI t) = some (r, rd_at m t N p2 ru2 ch2 n2 lk2 q2) ∧ (r = -9 → ∃ a2, n2 = a_n a2 ∧ 0 < a_n a2 ∧ ru2 = nI (a_r a2) ∧ RP c2 a2 ch2 lk2) := by
  have hN := X.1
  have ht := X.2.1
  have e60 : (60 : Int32) * nI t = nI (60 * t) := pk_mul 60 t
  have z1 : ¬ (1 : Int32) = 0 := by decide
  have k0 : rd_gen m (nI (60 * t)) 0 (nI N) (md_readRule m) (md_readChildren m) 0 (md_readLikes m) 0 = rd_at m t N 0 (md_readRule m) (md_readChildren m) 0 (md_readLikes m) 0 := rfl
  obtain ⟨p, y1, y2, y3, y4⟩ := f_skip2 X (Nat.zero_le N)
  have cs : ∀ c, mo_Reader_skipBlanks (ds_pairs (ds_place d0 (0 : Int32)) (0 : Int32)) T c = some (nI p, 0) := fun c => y3 c 0
  have hcl : mo_Club_clear c0 = some (cs_dc (cs_tin (cs_inn (cs_rule (cs_children c0 0) 0) 0) 0) 0) := rfl
  rw [mo_Reader_readClub, f_ob hcl, f_ob (cs _), mo_Md_faultOf, pu_in_t ht (by decide), pu_n (by omega), hlen, e60, k_from, k_place, k_stop, k_many, k_pairs, k0]
  simp only [cond_true]
  rw [f_ob (r_35 m t N _ _ _), h_rule, f_ob (y4 _ _ _ _ _), g_place, g_stop, mo_Reader_readRule]
  have hsg := c_sign X (by omega : p ≤ 100)
  have hsg2 : mo_Text_signAt T (rd_place (nI p, (0 : Int32))) = _ := hsg
  rw [f_ob hsg2]
  have epN : (nI p = nI N) ↔ p = N := nI_eq (by omega) (by omega)
  have f0 : nj_fu = 999 + 1 := rfl
  have zb0 : nj_b false = 0 := rfl
  by_cases g : p < N
  · have hne : ¬ nI p = nI N := fun z => by have := epN.1 z; omega
    rw [if_pos g, if_neg hne, f_ob (r_here X g _ _ _ _ _)]
    by_cases g2 : md_bytes m (60 * t + p) = 114
    · have e1 : rd_place (nI p, (0 : Int32)) + 1 = nI (p + 1) := nI_add p 1
      have e2 : nI (p + 1) + 1 = nI (p + 2) := nI_add (p + 1) 1
      rw [if_pos g2, if_pos g2, e1, e2, h_place]
      have ff := f_fig X (A := 4) (by omega : p + 1 ≤ N) (by decide) (by decide) (md_readRule m) (md_readChildren m) 0 (q_set (fun _ => 0) (md_readLikes m) 6) 0
      have c4 : nI 4 = (4 : Int32) := rfl
      have c3 : nI (4 - 1) = (3 : Int32) := rfl
      rw [c4, c3] at ff
      rcases ff with ⟨v, hv, hp1, u1, u2⟩ | ⟨u1, u2⟩
      · rw [f_ob u1, f_ob u2, if_pos (nI_pos' (by omega))]
        simp only [if_neg (e_m9 (by omega : v < 100))]
        rw [f_ob rfl, f_ob rfl, s_rule]
        simp only [cond_true]
        obtain ⟨p3, x1, x2, x3, x4⟩ := f_skip2 X (by omega : p + 2 ≤ N)
        have H : RP (cs_rule (cs_dc (cs_tin (cs_inn (cs_rule (cs_children c0 0) 0) 0) 0) 0) (nI v)) (0, (fun _ => 0), (fun _ => 0), (fun _ => 0), v, 0, 0) (md_readChildren m) (q_set (fun _ => 0) (md_readLikes m) 6) := by
          refine ⟨⟨⟨by show 0 ≤ 6; omega, rfl⟩, fun i hi => absurd hi (Nat.not_lt_zero _), fun i hi => absurd hi (Nat.not_lt_zero _), fun i hi => absurd hi (Nat.not_lt_zero _), ⟨rfl, hv⟩, ⟨rfl, by show 0 < 2 ^ 0; decide⟩, rfl⟩, ⟨⟨by show 0 ≤ 6; omega, fun i hi => absurd hi (Nat.not_lt_zero _), fun i hi => absurd hi (Nat.not_lt_zero _), hv, by show 0 < 2 ^ 0; decide⟩, fun i hi => absurd hi (Nat.not_lt_zero _), fun i hi => absurd hi (Nat.not_lt_zero _)⟩, rfl, rfl, rfl, fun i hi => absurd hi (Nat.not_lt_zero _), fun i hi => ?_⟩
          rw [q_set_lt (fun _ => (0 : Int32)) _ hi]
          rfl
        obtain ⟨r, d3, c3, p5, ch3, n3, lk3, q3, fl, v1, v2, v3, v4⟩ := f_loop X (N - p3) p3 (p + 2) 0 0 nj_fu nj_fu _ _ _ _ (Nat.le_refl _) x2 x1 (Nat.zero_le _) (Nat.zero_le _) (pu_fu (by omega)) (pu_fu (by omega)) x3 H
        have x4' := x4 (nI v) (md_readChildren m) 0 (q_set (fun _ => 0) (md_readLikes m) 6) 0
        have v1' : lo_Reader_readClub_35 T nj_fu (ds_place (nI p, (0 : Int32)) (nI (p + 2))) (cs_rule (cs_dc (cs_tin (cs_inn (cs_rule (cs_children c0 0) 0) 0) 0) 0) (nI v)) 0 = some (r, d3, c3) := v1
        have v2' : lo_Md_faultOf_67 nj_fu (rd_at m t N p3 (nI v) (md_readChildren m) 0 (q_set (fun _ => 0) (md_readLikes m) 6) 0) (nj_b true) = some (rd_at m t N p5 (nI v) ch3 n3 lk3 q3, fl) := v2
        rw [v1']
        have x4'' : ((mo_Md_skip (rd_at m t N (p + 1 + 1) (nI v) (md_readChildren m) 0 (q_set (fun _ => 0) (md_readLikes m) 6) 0)).bind fun w8 => some w8) = some (rd_at m t N p3 (nI v) (md_readChildren m) 0 (q_set (fun _ => 0) (md_readLikes m) 6) 0) := f_ob x4'
        rw [f_ob x4'', f_ob v2']
        rcases v4 with ⟨rfl, rfl⟩ | ⟨rfl, a2, rfl, w2, w3, rfl⟩
        · refine ⟨nI p5, d3, c3, p5, nI v, ch3, n3, lk3, q3, rfl, ?_, fun z => absurd z (e_m9 (by omega))⟩
          rw [if_pos rfl, g_place]
        · have hn2 := w3.1.1.1
          have ec : (nI (a_n a2) ≤ (0 : Int32)) ↔ a_n a2 = 0 := by
            have := nI_leI (a := a_n a2) (b := 0) (by omega) (by decide)
            exact this.trans (by omega)
          refine ⟨_, d3, c3, p5, nI v, ch3, a_n a2, lk3, q3, rfl, ?_, fun z => ?_⟩
          · rw [if_neg z1, g_many]
            by_cases g5 : a_n a2 = 0
            · rw [if_pos (ec.2 g5), if_pos g5, g_place]
            · rw [if_neg (fun z => g5 (ec.1 z)), if_neg g5]
          · by_cases g5 : a_n a2 = 0
            · rw [if_pos g5] at z
              exact absurd z (e_m9 (by omega))
            · exact ⟨a2, rfl, by omega, by rw [w2], w3⟩
      · have z9 : ¬ (0 : Int32) ≤ -9 := by decide
        rw [f_ob u1, f_ob u2, if_neg z9, if_pos rfl, f_ob rfl, f_ob rfl, s_rule]
        simp only [cond_false]
        rw [f_ob rfl, f0, h_67, if_pos zb0]
        refine ⟨nI (p + 1), _, _, p + 1, -9, md_readChildren m, 0, q_set (fun _ => 0) (md_readLikes m) 6, 0, rfl, ?_, fun z => absurd z (e_m9 (by omega))⟩
        rfl
    · rw [if_neg g2, if_neg g2, f_ob rfl, f_ob rfl]
      simp only [cond_false]
      rw [f_ob rfl, f0, h_67, if_pos zb0]
      refine ⟨nI p, _, _, p, md_readRule m, md_readChildren m, 0, q_set (fun _ => 0) (md_readLikes m) 6, 0, rfl, ?_, fun z => absurd z (e_m9 (by omega))⟩
      rfl
  · have z114 : ¬ (0 : Int32) = 114 := by decide
    rw [if_neg g, if_pos (epN.2 (by omega)), if_neg z114, f_ob rfl, f_ob rfl]
    simp only [cond_false]
    rw [f_ob rfl, f0, h_67, if_pos zb0]
    refine ⟨nI p, _, _, p, md_readRule m, md_readChildren m, 0, q_set (fun _ => 0) (md_readLikes m) 6, 0, rfl, ?_, fun z => absurd z (e_m9 (by omega))⟩
    rfl
theorem op_fault {s : NjS} {m : MdS} (h : Rel s m) (x : Int32) : Same (mo_Nj_fault s x) (mo_Md_fault m x) := by
  rw [mo_Nj_fault, mo_Md_fault, c_isText, r_isText]
  simp only [Option.bind_some]
  rcases in_or x 4 (by decide) with ⟨t, ht, rfl, hb⟩ | hb
  · rw [hb, pu_in_t ht (by decide), pu_n (by omega)]
    simp only [cond_true]
    rcases (h.2.1 t ht).inv with ⟨e1, e2⟩ | ⟨N, hN, e1, e2, e3⟩
    · rw [mo_Text_isMissing, e2, e1, if_neg m1_nle, if_neg m1_nle]
      exact (f_found h 1 (by decide)).b
    · have X : TX (nj_texts s t) m t N := ⟨hN, ht, e2, e3⟩
      have p1 : (0 : Int32) ≤ nI N := nI_pos' (by omega)
      obtain ⟨r, d2, c2, p2, ru2, ch2, n2, lk2, q2, u1, u2, u3⟩ := f_read X e1 (nj_rd s) (nj_draft s)
      rw [mo_Text_isMissing, e2, e1, if_pos p1, if_pos p1, f_ob rfl]
      simp only [cond_false]
      rw [f_ob u1, f_ob u2]
      exact ⟨_, _, _, rfl, rfl, h.1, h.2⟩
  · rw [hb]
    exact Same.of h _
