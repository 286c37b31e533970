/-! pure: deeds and their pasts -/
theorem p_undo1_n (a : AC) (d : Nat) : a_n (p_undo1 a d) = a_n a := by
  unfold p_undo1
  split
  · rfl
  · split
    · rfl
    · split <;> rfl
theorem p_undo1_K (a : AC) (d : Nat) : a_K (p_undo1 a d) = a_K a := by
  unfold p_undo1
  split
  · rfl
  · split
    · rfl
    · split <;> rfl
theorem p_undo1_r (a : AC) (d : Nat) : a_r (p_undo1 a d) = a_r a := by
  unfold p_undo1
  split
  · rfl
  · split
    · rfl
    · split <;> rfl
theorem p_back_n (a : AC) (ds : Nat → Nat) (n : Nat) : ∀ j, a_n (p_back a ds n j) = a_n a
  | 0 => rfl
  | j + 1 => by rw [p_back, p_undo1_n, p_back_n]
theorem p_back_K (a : AC) (ds : Nat → Nat) (n : Nat) : ∀ j, a_K (p_back a ds n j) = a_K a
  | 0 => rfl
  | j + 1 => by rw [p_back, p_undo1_K, p_back_K]
theorem p_back_r (a : AC) (ds : Nat → Nat) (n : Nat) : ∀ j, a_r (p_back a ds n j) = a_r a
  | 0 => rfl
  | j + 1 => by rw [p_back, p_undo1_r, p_back_r]
theorem p_back_k (a : AC) (ds : Nat → Nat) (n k : Nat) : ∀ j, p_back (p_back a ds n k) ds (n - k) j = p_back a ds n (k + j)
  | 0 => rfl
  | j + 1 => by
    rw [p_back, p_back_k, ← Nat.add_assoc, p_back]
    congr 2
    omega
theorem RK.cong {c : CluS} {row row2 : Nat → Int32} {B : Nat} {a : AC} (h : RK c row B a) (e : ∀ j, j < 576 → row2 (B + j) = row (B + j)) : RK c row2 B a := by
  obtain ⟨h1, h2, h3, n, ds, d1, d2, d3, d4, d5⟩ := h
  have hn := h1.1.1
  refine ⟨h1, ?_, h3, n, ds, d1, d2, ?_, d4, ?_⟩
  · obtain ⟨r1, r2, r3, r4, r5⟩ := h2
    refine ⟨by rw [e 1 (by omega), r1], by rw [e 2 (by omega), r2], fun i hi => ?_, fun i hi => ?_, by rw [e 15 (by omega), r5]⟩
    · rw [Nat.add_assoc, e (3 + i) (by omega), ← Nat.add_assoc, r3 i hi]
    · rw [Nat.add_assoc, e (9 + i) (by omega), ← Nat.add_assoc, r4 i hi]
  · have := e 0 (by omega)
    rw [Nat.add_zero] at this
    rw [this, d3]
  · intro j hj
    obtain ⟨w, p1, p2, p3, p4⟩ := d5 j hj
    have ee : ∀ q, q < 560 → row2 (B + 16 + q) = row (B + 16 + q) := fun q hq => by
      rw [Nat.add_assoc, e (16 + q) (by omega)]
    refine ⟨w, ?_, ?_, fun i hi => ?_, fun i hi => ?_⟩
    · show row2 (B + 16 + 14 * (n - 1 - j)) = _
      rw [ee _ (by omega)]
      exact p1
    · show row2 (B + 16 + 14 * (n - 1 - j) + 1) = _
      rw [Nat.add_assoc, ee _ (by omega), ← Nat.add_assoc]
      exact p2
    · show row2 (B + 16 + 14 * (n - 1 - j) + 2 + i) = _
      rw [Nat.add_assoc, Nat.add_assoc, ee _ (by omega), ← Nat.add_assoc, ← Nat.add_assoc]
      exact p3 i hi
    · show row2 (B + 16 + 14 * (n - 1 - j) + 8 + i) = _
      rw [Nat.add_assoc, Nat.add_assoc, ee _ (by omega), ← Nat.add_assoc, ← Nat.add_assoc]
      exact p4 i hi
theorem GC.set {club club2 : CluS} {kept : Nat → CluS} {row row2 kinds : Nat → Int32} {children : Int32} {a2 : AC} (h : GC club kept row kinds children) (hc : children = nI (a_n a2)) (hk : ∀ i, i < a_n a2 → kinds i = nI (a_K a2 i)) (K : RK club2 row2 0 a2) (ho : ∀ j, 576 ≤ j → row2 j = row j) : GC club2 kept row2 kinds children := by
  obtain ⟨a, K0, h1, h2, h3⟩ := h
  have hn0 := K0.1.1.1
  have hn := K.1.1.1
  have en : a_n a = a_n a2 := (nI_eq (by omega) (by omega)).1 (h1.symm.trans hc)
  refine ⟨a2, K, hc, hk, fun k hk3 => ?_⟩
  rcases h3 k hk3 with ⟨g1, g2⟩ | ⟨g0, a3, g1, g2, g3⟩
  · exact Or.inl ⟨g1, by rw [ho _ (by omega), g2]⟩
  · refine Or.inr ⟨by omega, a3, by omega, fun i hi => ?_, g3.cong (fun j _ => ho _ (by omega))⟩
    rw [g2 i (by omega)]
    have b1 := (K0.1.2.1 i (by omega)).2
    have b2 := (K.1.2.1 i hi).2
    exact (nI_eq (by omega) (by omega)).1 ((h2 i (by omega)).symm.trans (hk i hi))
theorem Rel.ak {s : NjS} {m : MdS} (h : Rel s m) : ∃ a n, RK (nj_club s) (md_row m) 0 a ∧ RM m a ∧ cl_dc (nj_club s) = nI n ∧ md_row m 0 = nI n ∧ n ≤ 40 := by
  obtain ⟨a, K, h5, h6, h7⟩ := h.2.2.1
  obtain ⟨n, ds, d1, d2, d3, d4⟩ := K.2.2.2
  exact ⟨a, n, K, ⟨K.1.wa, h5, h6, K.2.1⟩, d2, d3, d1⟩
theorem RK.deed {c c1 : CluS} {row row2 : Nat → Int32} {a a2 : AC} {d n : Nat} (h : RK c row 0 a) (hdc : cl_dc c = nI n) (hn40 : n < 40) (e1 : RC c1 a2) (e2 : cl_deeds c1 = cl_deeds c) (hd : p_okd (a_n a) d) (hu : p_undo1 a2 d = a) (W : WB a2) (r0 : row2 0 = nI (n + 1)) (r1 : RMr row2 0 a2) (r2 : ∀ v, v < 14 → row2 (16 + 14 * n + v) = row (1 + v)) (r3 : ∀ j, 16 ≤ j → j < 16 + 14 * n → row2 j = row j) : RK (cs_dc (cs_deeds c1 (upd (cl_deeds c1) n (nI d))) (nI (n + 1))) row2 0 a2 := by
  obtain ⟨h1, h2, h3, n', ds, d1, d2, d3, d4, d5⟩ := h
  have en : n' = n := (nI_eq (by omega) (by omega)).1 (d2.symm.trans hdc)
  subst en
  have hnn : a_n a2 = a_n a := by rw [← hu, p_undo1_n]
  have hn6 := h1.1.1
  let ds2 : Nat → Nat := fun j => if j = n' then d else ds j
  have hb : ∀ j, j ≤ n' → p_back a2 ds2 (n' + 1) (j + 1) = p_back a ds n' j := by
    intro j
    induction j with
    | zero =>
      intro _
      show p_undo1 a2 (ds2 (n' + 1 - 1 - 0)) = a
      have : ds2 (n' + 1 - 1 - 0) = d := if_pos (by omega)
      rw [this, hu]
    | succ j ih =>
      intro hj
      rw [p_back, ih (by omega), p_back]
      have : ds2 (n' + 1 - 1 - (j + 1)) = ds (n' - 1 - j) := by
        show (if n' + 1 - 1 - (j + 1) = n' then d else ds (n' + 1 - 1 - (j + 1))) = _
        rw [if_neg (by omega)]
        congr 1
        omega
      rw [this]
  refine ⟨e1, r1, W, n' + 1, ds2, by omega, rfl, r0, ?_, ?_⟩
  · intro j hj
    show upd (cl_deeds c1) n' (nI d) j = nI (ds2 j) ∧ p_okd (a_n a2) (ds2 j)
    rw [hnn]
    by_cases g : j = n'
    · subst g
      rw [pk_us]
      have : ds2 j = d := if_pos rfl
      rw [this]
      exact ⟨rfl, hd⟩
    · rw [pk_un g, e2]
      have : ds2 j = ds j := if_neg g
      rw [this]
      exact d4 j (by omega)
  · intro j hj
    rw [hb j (by omega), hnn]
    rcases j with - | j
    · obtain ⟨q1, q2, q3, q4, q5⟩ := h2
      have eq0 : (0 : Nat) + 16 + 14 * (n' + 1 - 1 - 0) = 16 + 14 * n' := by omega
      refine ⟨h3, ?_, ?_, fun i hi => ?_, fun i hi => ?_⟩
      · show row2 (0 + 16 + 14 * (n' + 1 - 1 - 0)) = nI (a_b a)
        rw [eq0]
        exact (r2 0 (by omega)).trans q1
      · show row2 (0 + 16 + 14 * (n' + 1 - 1 - 0) + 1) = a_t a
        rw [eq0]
        exact (r2 1 (by omega)).trans q2
      · show row2 (0 + 16 + 14 * (n' + 1 - 1 - 0) + 2 + i) = a_P a i
        rw [eq0, Nat.add_assoc, r2 (2 + i) (by omega), ← q3 i hi]
        congr 1
        omega
      · show row2 (0 + 16 + 14 * (n' + 1 - 1 - 0) + 8 + i) = nI (p_lk a i)
        rw [eq0, Nat.add_assoc, r2 (8 + i) (by omega), ← q4 i hi]
        congr 1
        omega
    · obtain ⟨w, p1, p2, p3, p4⟩ := d5 j (by omega)
      have eq0 : (0 : Nat) + 16 + 14 * (n' + 1 - 1 - (j + 1)) = 0 + 16 + 14 * (n' - 1 - j) := by omega
      refine ⟨w, ?_, ?_, fun i hi => ?_, fun i hi => ?_⟩
      · show row2 (0 + 16 + 14 * (n' + 1 - 1 - (j + 1))) = _
        rw [eq0, r3 _ (by omega) (by omega)]
        exact p1
      · show row2 (0 + 16 + 14 * (n' + 1 - 1 - (j + 1)) + 1) = _
        rw [eq0, r3 _ (by omega) (by omega)]
        exact p2
      · show row2 (0 + 16 + 14 * (n' + 1 - 1 - (j + 1)) + 2 + i) = _
        rw [eq0, r3 _ (by omega) (by omega)]
        exact p3 i hi
      · show row2 (0 + 16 + 14 * (n' + 1 - 1 - (j + 1)) + 8 + i) = _
        rw [eq0, r3 _ (by omega) (by omega)]
        exact p4 i hi
theorem c_note {c : CluS} {n k o : Nat} (hd : cl_dc c = nI n) (hn : n < 40) : mo_Club_note c (nI k) (nI o) = some (cs_dc (cs_deeds c (upd (cl_deeds c) n (nI (64 * k + o)))) (nI (n + 1))) := by
  have e1 : ¬ (40 : Int32) ≤ nI n := nI_ge hn (by decide)
  have e2 : ((64 : Int32) * nI k) + nI o = nI (64 * k + o) := by
    have : (64 : Int32) * nI k = nI (64 * k) := pk_mul 64 k
    rw [this, nI_add]
  rw [mo_Club_note, hd, if_neg e1, e2, pu_in_t (by omega : n < 40) (by decide), pu_n (by omega), nI_1]
  rfl
theorem okd_0 {n i : Nat} (hn : n ≤ 6) (hi : i < n) : p_okd n i := ⟨by omega, fun _ => by omega, fun q => by omega⟩
theorem okd_1 {n i : Nat} (hn : n ≤ 6) (hi : i < n) : p_okd n (64 + i) := ⟨by omega, fun _ => by omega, fun q => by omega⟩
theorem okd_2 {n M : Nat} (h : M < 64) : p_okd n (64 * 2 + M) := ⟨by omega, fun q => by omega, fun q => by omega⟩
theorem okd_3 {n i k : Nat} (hn : n ≤ 6) (hi : i < n) (hk : k < n) : p_okd n (64 * 3 + (6 * i + k)) := by
  have e0 : (64 * 3 + (6 * i + k)) % 64 = 6 * i + k := by omega
  refine ⟨by omega, fun q => by omega, fun _ => ?_⟩
  rw [e0]
  omega
/-- the row of the reference once its past is kept -/
def p_kp (row : Nat → Int32) (n : Nat) : Nat → Int32 := upd (va_cpy row row 1 (16 + 14 * n) 14) 0 (nI (n + 1))
theorem r_keepPast {m : MdS} {n : Nat} (h0 : md_row m 0 = nI n) (hn : n < 40) : mo_Md_keepPast m = some (ms_row m (p_kp (md_row m) n)) := by
  have h := pu_loop (fun f (st : MdS) i => lo_Md_keepPast_2 f st i) 14 (fun k => ms_row m (va_cpy (md_row m) (md_row m) 1 (16 + 14 * n) k)) (some (ms_row m (va_cpy (md_row m) (md_row m) 1 (16 + 14 * n) 14)))
    (fun f => by
      have e0 : (14 : Int32) ≤ nI 14 := nI_le (Nat.le_refl 14) (by decide)
      rw [lo_Md_keepPast_2, if_pos e0])
    (fun f k hk => by
      have e2 : ¬ ((14 : Int32) ≤ nI k) := nI_ge hk (by decide)
      have e3 : md_row (ms_row m (va_cpy (md_row m) (md_row m) 1 (16 + 14 * n) k)) 0 = nI n := by
        show va_cpy (md_row m) (md_row m) 1 (16 + 14 * n) k 0 = nI n
        rw [pk_cpy_out (by omega), h0]
      have e4 : ((16 : Int32) + ((14 : Int32) * nI n)) + nI k = nI (16 + 14 * n + k) := by
        have : (14 : Int32) * nI n = nI (14 * n) := pk_mul 14 n
        rw [this]
        have : (16 : Int32) + nI (14 * n) = nI (16 + 14 * n) := nI_add 16 (14 * n)
        rw [this, nI_add]
      have e5 : (1 : Int32) + nI k = nI (1 + k) := nI_add 1 k
      rw [lo_Md_keepPast_2, if_neg e2, e3, e4, e5, pu_in_t (by omega : 1 + k < 2304) (by decide), pu_in_t (by omega : 16 + 14 * n + k < 2304) (by decide), pu_n (by omega), pu_n (by omega), nI_1, ← cpy_fwd (md_row m) (by omega)]
      rfl)
    14 nj_fu 0 (by omega) (pu_fu (by omega))
  have e0 : va_cpy (md_row m) (md_row m) 1 (16 + 14 * n) 0 = md_row m := funext fun j => pk_cpy_out (by omega)
  rw [e0] at h
  have h2 : lo_Md_keepPast_2 nj_fu m 0 = some (ms_row m (va_cpy (md_row m) (md_row m) 1 (16 + 14 * n) 14)) := h
  rw [mo_Md_keepPast, h2]
  simp only [Option.bind_some]
  have e1 : md_row (ms_row m (va_cpy (md_row m) (md_row m) 1 (16 + 14 * n) 14)) 0 = nI n := by
    show va_cpy (md_row m) (md_row m) 1 (16 + 14 * n) 14 0 = nI n
    rw [pk_cpy_out (by omega), h0]
  rw [e1, nI_1]
  rfl
theorem p_kp_low (row : Nat → Int32) (n : Nat) {j : Nat} (h1 : 1 ≤ j) (h2 : j < 16 + 14 * n) : p_kp row n j = row j := by
  unfold p_kp
  rw [pk_un (by omega), pk_cpy_out (by omega)]
theorem p_kp_past (row : Nat → Int32) (n : Nat) {v : Nat} (h : v < 14) : p_kp row n (16 + 14 * n + v) = row (1 + v) := by
  unfold p_kp
  rw [pk_un (by omega), pk_cpy_in (by omega) (by omega)]
  congr 1
  omega
theorem p_kp_high (row : Nat → Int32) {n j : Nat} (hn : n < 40) (h : 576 ≤ j) : p_kp row n j = row j := by
  unfold p_kp
  rw [pk_un (by omega), pk_cpy_out (by omega)]
theorem p_kp_0 (row : Nat → Int32) (n : Nat) : p_kp row n 0 = nI (n + 1) := pk_us
/-- a deed done in both -/
theorem Rel.deed {s : NjS} {m : MdS} {c1 : CluS} {row2 : Nat → Int32} {a a2 : AC} {d n : Nat} (h : Rel s m) (K : RK (nj_club s) (md_row m) 0 a) (Q : RM m a) (hdc : cl_dc (nj_club s) = nI n) (hn40 : n < 40) (e1 : RC c1 a2) (e2 : cl_deeds c1 = cl_deeds (nj_club s)) (hd : p_okd (a_n a) d) (hu : p_undo1 a2 d = a) (W : WB a2) (r1 : RMr row2 0 a2) (r2 : ∀ j, (j = 0 ∨ 16 ≤ j) → row2 j = p_kp (md_row m) n j) : Rel (ns_club s (cs_dc (cs_deeds c1 (upd (cl_deeds c1) n (nI d))) (nI (n + 1)))) (ms_row m row2) := by
  have hnn : a_n a2 = a_n a := by rw [← hu, p_undo1_n]
  have hKK : a_K a2 = a_K a := by rw [← hu, p_undo1_K]
  have K2 : RK (cs_dc (cs_deeds c1 (upd (cl_deeds c1) n (nI d))) (nI (n + 1))) row2 0 a2 := K.deed hdc hn40 e1 e2 hd hu W (by rw [r2 0 (by omega), p_kp_0]) r1 (fun v hv => by rw [r2 _ (by omega), p_kp_past _ _ hv]) (fun j h1 h2 => by rw [r2 _ (by omega), p_kp_low _ _ (by omega) h2])
  refine ⟨h.1, h.2.1, h.2.2.1.set (a2 := a2) (by rw [hnn]; exact Q.2.1) (by rw [hnn, hKK]; exact Q.2.2.1) K2 (fun j hj => ?_), h.2.2.2⟩
  show row2 j = md_row m j
  rw [r2 _ (by omega), p_kp_high _ hn40 hj]
