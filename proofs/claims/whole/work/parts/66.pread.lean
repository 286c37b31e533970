/-! pure: reading a text, the reference's and the class's steps -/
/-- the reference as it reads -/
def rd_at (m : MdS) (t N p : Nat) (ru : Int32) (ch : Nat → Int32) (n : Nat) (lk : Nat → Int32) (q : Nat) : MdS := (m.1, m.2.1, m.2.2.1, m.2.2.2.1, m.2.2.2.2.1, m.2.2.2.2.2.1, m.2.2.2.2.2.2.1, m.2.2.2.2.2.2.2.1, m.2.2.2.2.2.2.2.2.1, m.2.2.2.2.2.2.2.2.2.1, m.2.2.2.2.2.2.2.2.2.2.1, m.2.2.2.2.2.2.2.2.2.2.2.1, nI (60 * t), nI p, nI N, ru, ch, nI n, lk, nI q, m.2.2.2.2.2.2.2.2.2.2.2.2.2.2.2.2.2.2.2.2.1, m.2.2.2.2.2.2.2.2.2.2.2.2.2.2.2.2.2.2.2.2.2.1, m.2.2.2.2.2.2.2.2.2.2.2.2.2.2.2.2.2.2.2.2.2.2)
theorem h_here (m : MdS) (t N p : Nat) (ru : Int32) (ch : Nat → Int32) (n : Nat) (lk : Nat → Int32) (q : Nat) : mo_Md_here (rd_at m t N p ru ch n lk q) = (bif nj_in (nI (60 * t) + nI p) 240 then some (md_bytes m (nj_n (nI (60 * t) + nI p))) else none) := rfl
theorem h_skip (f : Nat) (m : MdS) (t N p : Nat) (ru : Int32) (ch : Nat → Int32) (n : Nat) (lk : Nat → Int32) (q : Nat) : lo_Md_skip_0 (f + 1) (rd_at m t N p ru ch n lk q) = if nI N ≤ nI p then some (rd_at m t N p ru ch n lk q) else (mo_Md_here (rd_at m t N p ru ch n lk q)).bind (fun w1 => if w1 = (32 : Int32) then lo_Md_skip_0 f (ms_place (rd_at m t N p ru ch n lk q) (nI p + 1)) else some (rd_at m t N p ru ch n lk q)) := rfl
theorem h_place (m : MdS) (t N p : Nat) (ru : Int32) (ch : Nat → Int32) (n : Nat) (lk : Nat → Int32) (q : Nat) (p2 : Nat) : ms_place (rd_at m t N p ru ch n lk q) (nI p2) = rd_at m t N p2 ru ch n lk q := rfl
theorem h_figure (m : MdS) (t N p : Nat) (ru : Int32) (ch : Nat → Int32) (n : Nat) (lk : Nat → Int32) (q : Nat) (x : Int32) : mo_Md_figure (rd_at m t N p ru ch n lk q) x = if nI p = nI N then some ((-9 : Int32), (rd_at m t N p ru ch n lk q)) else (mo_Md_here (rd_at m t N p ru ch n lk q)).bind (fun w1 => (mo_Md_in (Int32.toInt64 w1) (48 : Int64) (Int32.toInt64 ((48 : Int32) + x))).bind (fun w3 => bif w3 then (bif nj_in ((nI (60 * t) + (nI p + 1)) - 1) 240 then some (md_bytes m (nj_n ((nI (60 * t) + (nI p + 1)) - 1)) - (48 : Int32), ms_place (rd_at m t N p ru ch n lk q) (nI p + 1)) else none) else some ((-9 : Int32), (rd_at m t N p ru ch n lk q)))) := rfl
theorem h_rule (m : MdS) (t N p : Nat) (ru : Int32) (ch : Nat → Int32) (n : Nat) (lk : Nat → Int32) (q : Nat) : mo_Md_readsRule (rd_at m t N p ru ch n lk q) = (mo_Md_skip (rd_at m t N p ru ch n lk q)).bind (fun w1 => if md_place w1 = md_stop w1 then some (false, w1) else (mo_Md_here w1).bind (fun w3 => if w3 = (114 : Int32) then (mo_Md_figure (ms_place w1 (md_place w1 + (1 : Int32))) (3 : Int32)).bind (fun w5 => if w5.1 = (-9 : Int32) then some (false, ms_readRule w5.2 w5.1) else some (true, ms_readRule w5.2 w5.1)) else some (false, w1))) := rfl
theorem g_place (m : MdS) (t N p : Nat) (ru : Int32) (ch : Nat → Int32) (n : Nat) (lk : Nat → Int32) (q : Nat) : md_place (rd_at m t N p ru ch n lk q) = nI p := rfl
theorem g_stop (m : MdS) (t N p : Nat) (ru : Int32) (ch : Nat → Int32) (n : Nat) (lk : Nat → Int32) (q : Nat) : md_stop (rd_at m t N p ru ch n lk q) = nI N := rfl
theorem g_many (m : MdS) (t N p : Nat) (ru : Int32) (ch : Nat → Int32) (n : Nat) (lk : Nat → Int32) (q : Nat) : md_readMany (rd_at m t N p ru ch n lk q) = nI n := rfl
theorem s_rule (m : MdS) (t N p : Nat) (ru : Int32) (ch : Nat → Int32) (n : Nat) (lk : Nat → Int32) (q : Nat) (x : Int32) : ms_readRule (rd_at m t N p ru ch n lk q) x = rd_at m t N p x ch n lk q := rfl
/-- one text, in both -/
def TX (T : TexS) (m : MdS) (t N : Nat) : Prop := N ≤ 60 ∧ t < 4 ∧ te_size T = nI N ∧ ∀ k, k < N → te_bytes T k = md_bytes m (60 * t + k)
theorem c_sign {T : TexS} {m : MdS} {t N : Nat} (X : TX T m t N) {p : Nat} (hp : p ≤ 100) : mo_Text_signAt T (nI p) = some (if p < N then md_bytes m (60 * t + p) else 0) := by
  obtain ⟨hN, ht, hs, hb⟩ := X
  have e0 : ¬ nI p < 0 := fun q => (fa_of_lt q).2.1 (nI_pos' (by omega))
  rw [mo_Text_signAt, mo_Text_hasPlace, if_neg e0, hs]
  by_cases g : p < N
  · rw [if_neg (nI_ge g (by omega)), if_pos g, pu_in_t (by omega : p < 60) (by decide), pu_n (by omega), hb p g]
    rfl
  · rw [if_pos (nI_le (by omega) (by omega)), if_neg g]
    rfl
theorem r_here {T : TexS} {m : MdS} {t N : Nat} (X : TX T m t N) {p : Nat} (hp : p < N) (ru : Int32) (ch : Nat → Int32) (n : Nat) (lk : Nat → Int32) (q : Nat) : mo_Md_here (rd_at m t N p ru ch n lk q) = some (md_bytes m (60 * t + p)) := by
  obtain ⟨hN, ht, hs, hb⟩ := X
  rw [h_here, nI_add, pu_in_t (by omega : 60 * t + p < 240) (by decide), pu_n (by omega)]
  rfl
theorem f_skip {T : TexS} {m : MdS} {t N : Nat} (X : TX T m t N) : ∀ (d p f1 f2 : Nat), p + d = N → d < f1 → d < f2 → ∃ p2, p ≤ p2 ∧ p2 ≤ N ∧ (∀ (c : CluS) (y : Int32), lo_Reader_skipBlanks_0 T c f1 (nI p, y) = some (nI p2, y)) ∧ ∀ (ru : Int32) (ch : Nat → Int32) (n : Nat) (lk : Nat → Int32) (q : Nat), lo_Md_skip_0 f2 (rd_at m t N p ru ch n lk q) = some (rd_at m t N p2 ru ch n lk q) := by
  have hN := X.1
  intro d
  induction d with
  | zero =>
    intro p f1 f2 hp h1 h2
    obtain ⟨f1, rfl⟩ : ∃ z, f1 = z + 1 := ⟨f1 - 1, by omega⟩
    obtain ⟨f2, rfl⟩ : ∃ z, f2 = z + 1 := ⟨f2 - 1, by omega⟩
    refine ⟨p, Nat.le_refl _, by omega, fun c y => ?_, fun ru ch n lk q => ?_⟩
    · rw [lo_Reader_skipBlanks_0, X.2.2.1, if_pos (nI_le (by omega) (by omega))]
    · rw [h_skip, if_pos (nI_le (by omega) (by omega))]
  | succ d ih =>
    intro p f1 f2 hp h1 h2
    obtain ⟨f1, rfl⟩ : ∃ z, f1 = z + 1 := ⟨f1 - 1, by omega⟩
    obtain ⟨f2, rfl⟩ : ∃ z, f2 = z + 1 := ⟨f2 - 1, by omega⟩
    have hc := c_sign X (by omega : p ≤ 100)
    rw [if_pos (by omega : p < N)] at hc
    by_cases g : md_bytes m (60 * t + p) = 32
    · obtain ⟨p2, a1, a2, a3, a4⟩ := ih (p + 1) f1 f2 (by omega) (by omega) (by omega)
      refine ⟨p2, by omega, a2, fun c y => ?_, fun ru ch n lk q => ?_⟩
      · rw [lo_Reader_skipBlanks_0, X.2.2.1, if_neg (nI_ge (by omega) (by omega)), f_ob hc, if_pos g, nI_1]
        exact a3 c y
      · rw [h_skip, if_neg (nI_ge (by omega) (by omega)), f_ob (r_here X (by omega) ru ch n lk q), if_pos g, nI_1, h_place]
        exact a4 ru ch n lk q
    · refine ⟨p, Nat.le_refl _, by omega, fun c y => ?_, fun ru ch n lk q => ?_⟩
      · rw [lo_Reader_skipBlanks_0, X.2.2.1, if_neg (nI_ge (by omega) (by omega)), f_ob hc, if_neg g]
      · rw [h_skip, if_neg (nI_ge (by omega) (by omega)), f_ob (r_here X (by omega) ru ch n lk q), if_neg g]
theorem f_skip2 {T : TexS} {m : MdS} {t N : Nat} (X : TX T m t N) {p : Nat} (hp : p ≤ N) : ∃ p2, p ≤ p2 ∧ p2 ≤ N ∧ (∀ (c : CluS) (y : Int32), mo_Reader_skipBlanks (nI p, y) T c = some (nI p2, y)) ∧ ∀ (ru : Int32) (ch : Nat → Int32) (n : Nat) (lk : Nat → Int32) (q : Nat), mo_Md_skip (rd_at m t N p ru ch n lk q) = some (rd_at m t N p2 ru ch n lk q) := by
  have hN := X.1
  obtain ⟨p2, a1, a2, a3, a4⟩ := f_skip X (N - p) p nj_fu nj_fu (by omega) (pu_fu (by omega)) (pu_fu (by omega))
  refine ⟨p2, a1, a2, fun c y => ?_, fun ru ch n lk q => ?_⟩
  · rw [mo_Reader_skipBlanks, f_ob (a3 c y)]
  · rw [mo_Md_skip, f_ob (a4 ru ch n lk q)]
/-- a figure, or none: as each tests it -/
theorem fig_or (x : Int32) {A : Nat} (h1 : 1 ≤ A) (hA : A ≤ 10) : (∃ v, v < A ∧ x = nI (48 + v)) ∨ ((x - 48 < 0 ∨ nI A ≤ x - 48) ∧ (decide ((48 : Int32) ≤ x) && decide (x ≤ (48 : Int32) + nI (A - 1))) = false) := by
  have ea : (48 : Int32) + nI (A - 1) = nI (48 + (A - 1)) := nI_add 48 _
  by_cases g : (48 : Int32) ≤ x ∧ x ≤ (48 : Int32) + nI (A - 1)
  · left
    obtain ⟨g1, g2⟩ := g
    rw [ea] at g2
    have e1 : ¬ x < 0 := fun q => by
      rw [fa_le] at g1
      rw [fa_lt] at q
      have z1 : (48 : Int32).toInt = 48 := by decide
      have z2 : (0 : Int32).toInt = 0 := by decide
      omega
    obtain ⟨k, hk, rfl⟩ := nI_of2 (M := nI (48 + (A - 1))) (n := 48 + (A - 1)) (by rw [nI_toInt (by omega)]) e1 g2
    have g3 : 48 ≤ k := (nI_leI (a := 48) (by decide) (by omega)).1 g1
    exact ⟨k - 48, by omega, by congr 1; omega⟩
  · right
    constructor
    · by_cases q1 : x - 48 < 0
      · exact Or.inl q1
      · by_cases q2 : nI A ≤ x - 48
        · exact Or.inr q2
        · exfalso
          obtain ⟨u, hu, eu⟩ := nI_of2 (M := nI (A - 1)) (n := A - 1) (by rw [nI_toInt (by omega)]) q1 (by
            have := fa_of_nle q2
            have e : A = (A - 1) + 1 := by omega
            rw [e] at this
            exact (pu_lt1 _ _ (by omega)).2 this)
          have ex : x = nI (48 + u) := by
            have : x - 48 + 48 = nI u + 48 := by rw [eu]
            rw [Int32.sub_add_cancel] at this
            rw [this]
            have z : nI u + (48 : Int32) = nI (u + 48) := nI_add u 48
            rw [z]
            congr 1
            omega
          apply g
          rw [ex, ea]
          exact ⟨nI_le (a := 48) (by omega) (by omega), nI_le (by omega) (by omega)⟩
    · by_cases q1 : (48 : Int32) ≤ x
      · have q2 : ¬ x ≤ (48 : Int32) + nI (A - 1) := fun z => g ⟨q1, z⟩
        simp [q2]
      · simp [q1]
theorem f_fig {T : TexS} {m : MdS} {t N : Nat} (X : TX T m t N) {p A : Nat} (hp : p ≤ N) (h1 : 1 ≤ A) (hA : A ≤ 10) (ru : Int32) (ch : Nat → Int32) (n : Nat) (lk : Nat → Int32) (q : Nat) : (∃ v, v < A ∧ p < N ∧ mo_Text_figureAt T (nI p) (nI A) = some (nI v) ∧ mo_Md_figure (rd_at m t N p ru ch n lk q) (nI (A - 1)) = some (nI v, rd_at m t N (p + 1) ru ch n lk q)) ∨ (mo_Text_figureAt T (nI p) (nI A) = some (-9) ∧ mo_Md_figure (rd_at m t N p ru ch n lk q) (nI (A - 1)) = some (-9, rd_at m t N p ru ch n lk q)) := by
  have hN := X.1
  have ht := X.2.1
  have e0 : (nI p = nI N) ↔ p = N := nI_eq (by omega) (by omega)
  have hc := c_sign X (by omega : p ≤ 100)
  by_cases g : p < N
  · have hne : ¬ nI p = nI N := fun z => by have := e0.1 z; omega
    rw [if_pos g] at hc
    rw [mo_Text_figureAt, f_ob hc, h_figure, if_neg hne, f_ob (r_here X g ru ch n lk q)]
    have hin : mo_Md_in (Int32.toInt64 (md_bytes m (60 * t + p))) (48 : Int64) (Int32.toInt64 ((48 : Int32) + nI (A - 1))) = some (decide ((48 : Int32) ≤ md_bytes m (60 * t + p)) && decide (md_bytes m (60 * t + p) ≤ (48 : Int32) + nI (A - 1))) := r_in _ 48 _
    rw [f_ob hin]
    rcases fig_or (md_bytes m (60 * t + p)) h1 hA with ⟨v, hv, ev⟩ | ⟨w1, w2⟩
    · left
      have e1 : nI (48 + v) - (48 : Int32) = nI v := by
        have : nI (48 + v) - (48 : Int32) = nI (48 + v - 48) := pk_sub (b := 48) (by omega)
        rw [this]
        congr 1
        omega
      have e2 : ¬ nI v < 0 := fun z => (fa_of_lt z).2.1 (nI_pos' (by omega))
      have e3 : (decide ((48 : Int32) ≤ nI (48 + v)) && decide (nI (48 + v) ≤ (48 : Int32) + nI (A - 1))) = true := by
        have z1 : (48 : Int32) ≤ nI (48 + v) := nI_le (a := 48) (by omega) (by omega)
        have z2 : nI (48 + v) ≤ (48 : Int32) + nI (A - 1) := by
          have : (48 : Int32) + nI (A - 1) = nI (48 + (A - 1)) := nI_add 48 _
          rw [this]
          exact nI_le (by omega) (by omega)
        simp [z1, z2]
      have e4 : nI (60 * t) + (nI p + 1) - 1 = nI (60 * t + p) := by
        rw [nI_1, nI_add]
        exact pk_sub (b := 1) (by omega)
      refine ⟨v, hv, g, ?_, ?_⟩
      · rw [ev, e1, if_neg e2, if_neg (nI_ge hv (by omega))]
      · rw [e4, pu_in_t (by omega : 60 * t + p < 240) (by decide), pu_n (by omega), ev, e3, e1, nI_1, h_place]
        rfl
    · right
      refine ⟨?_, ?_⟩
      · rcases w1 with z | z
        · rw [if_pos z]
        · by_cases z2 : md_bytes m (60 * t + p) - 48 < 0
          · rw [if_pos z2]
          · rw [if_neg z2, if_pos z]
      · rw [w2]
        rfl
  · right
    have e5 : (0 : Int32) - 48 < 0 := by decide
    have hpe : nI p = nI N := e0.2 (by omega)
    rw [if_neg g] at hc
    rw [mo_Text_figureAt, f_ob hc, h_figure, if_pos hpe, if_pos e5]
    exact ⟨rfl, rfl⟩
