/-! pure: who is put out, in the class -/
theorem p_vs_mono (a : AC) {S T : Nat} (h : ∀ i, S.testBit i = true → T.testBit i = true) : p_vs a S ≤ p_vs a T := by
  apply p_sm_le
  intro k _
  unfold p_vf
  by_cases hs : S.testBit k = true
  · rw [if_pos hs, if_pos (h k hs)]; exact Nat.le_refl _
  · rw [if_neg hs]; exact Nat.zero_le _
theorem p_vs_le {a : AC} (hn : a_n a ≤ 6) (S : Nat) : p_vs a S ≤ 18 := by
  have := p_sm_bound (f := p_vf a S) (c := 3) (n := a_n a) (fun k _ => p_vf_le a S k)
  unfold p_vs
  omega
def p_ye (a : AC) (i S L : Nat) : Nat := p_vs a (p_an (p_an S L) (2 ^ i))
def p_no (a : AC) (i S L : Nat) : Nat := p_vs a S - p_ye a i S L
theorem p_ye_le (a : AC) (i S L : Nat) : p_ye a i S L ≤ p_vs a S := p_vs_mono a (fun j h => by
  rw [p_an_bit, p_an_bit] at h
  simp only [Bool.and_eq_true] at h
  exact h.1.1)
def p_car (a : AC) (i y no r : Nat) : Bool := if r = 1 then decide (2 * no ≤ y) && decide (0 < y) else if r = 2 then decide (no = p_vt a i) && decide (0 < y) else decide (no < y)
theorem c_isCarried {c : CluS} {a : AC} (R : RC c a) {i y no r : Nat} (hi : i < a_n a) (hy : y < 100) (hno : no < 100) (hr : r < 4) : mo_Club_isCarried c (nI i) (nI y) (nI no) (nI r) = some (p_car a i y no r) := by
  rw [mo_Club_isCarried, c_votesOf R hi]
  have hv := p_vt_le a i
  have e1 : (nI r = (1 : Int32)) ↔ r = 1 := nI_eq (b := 1) (by omega) (by decide)
  have e2 : (nI r = (2 : Int32)) ↔ r = 2 := nI_eq (b := 2) (by omega) (by decide)
  have e3 : ((2 : Int32) * nI no) = nI (2 * no) := pk_mul 2 no
  have e4 : (nI y < nI (2 * no)) ↔ y < 2 * no := nI_ltI (by omega) (by omega)
  have e5 : (nI y ≤ (0 : Int32)) ↔ y ≤ 0 := nI_leI (b := 0) (by omega) (by decide)
  have e6 : (nI no = nI (p_vt a i)) ↔ no = p_vt a i := nI_eq (by omega) (by omega)
  have e7 : (nI y ≤ nI no) ↔ y ≤ no := nI_leI (by omega) (by omega)
  simp only [e1, e2, e3, e4, e5, e6, e7, Option.bind_some, p_car]
  by_cases g1 : r = 1
  · simp only [g1, if_true]
    by_cases g2 : y < 2 * no
    · have : ¬ 2 * no ≤ y := by omega
      simp [g2, this]
    · have h2 : 2 * no ≤ y := by omega
      by_cases g3 : y ≤ 0
      · have : ¬ 0 < y := by omega
        simp [g2, g3, this]
      · have : 0 < y := by omega
        simp [g2, g3, this, h2]
  · by_cases g2 : r = 2
    · simp only [g2, if_true, if_false, show ¬ (2 : Nat) = 1 by decide]
      by_cases g3 : no = p_vt a i
      · by_cases g4 : y ≤ 0
        · have : ¬ 0 < y := by omega
          simp [g3, g4, this]
        · have : 0 < y := by omega
          simp [g3, g4, this]
      · simp [g3]
    · simp only [g1, g2, if_false]
      by_cases g3 : y ≤ no
      · have : ¬ no < y := by omega
        simp [g3, this]
      · have : no < y := by omega
        simp [g3, this]
def p_sis (a : AC) (O L : Nat) : Bool := decide (O &&& p_ak a 5 = 0) || !decide (p_an (O &&& p_ak a 5) L = 0)
theorem p_ak_lt {a : AC} (hn : a_n a ≤ 6) (k : Nat) : p_ak a k < 64 := by
  have h1 := p_mk_lt (fun i => p_ik a i k) (a_n a)
  have h2 := pow6 hn
  unfold p_ak
  omega
theorem p_and_lt {x y : Nat} (h : y < 64) : x &&& y < 64 := Nat.lt_of_le_of_lt Nat.and_le_right h
theorem c_sis {c : CluS} {a : AC} (R : RC c a) (O L : Nat) : mo_Club_doSistersAgree c (nI O) (nI L) = some (p_sis a O L) := by
  have hk := p_ak_lt R.1.1 5
  have h5 : mo_Club_allOfKind c (5 : Int32) = some (nI (p_ak a 5)) := c_allOfKind R (k0 := 5) (by decide)
  rw [mo_Club_doSistersAgree, h5]
  simp only [Option.bind_some]
  rw [fa_and, p_an_nI]
  have hO := p_and_lt (x := O) hk
  have h3 : p_an (O &&& p_ak a 5) L < 2 ^ 6 := p_an_le _ _ hO
  have e1 : (nI (O &&& p_ak a 5) = (0 : Int32)) ↔ O &&& p_ak a 5 = 0 := nI_eq (b := 0) (by omega) (by decide)
  have e2 : (nI (p_an (O &&& p_ak a 5) L) = (0 : Int32)) ↔ p_an (O &&& p_ak a 5) L = 0 := nI_eq (b := 0) (by omega) (by decide)
  simp only [e1, e2, p_sis]
  by_cases g1 : O &&& p_ak a 5 = 0
  · simp [g1]
  · by_cases g2 : p_an (O &&& p_ak a 5) L = 0
    · simp [g1, g2]
    · simp [g1, g2]
/-- whether one is put out: child i, those in S, who likes it L, by the rule r -/
def p_po (a : AC) (i S L r : Nat) : Bool := p_car a i (p_ye a i S L) (p_no a i S L) r && ((!decide (a_K a i = 4) || p_car a i (p_ye a i S L) (p_no a i S L) 2) && ((!decide (r = 3) || p_sis a (p_an S (2 ^ i)) L) && decide ((p_an S (2 ^ i) &&& L) &&& p_ak a 2 = 0)))
theorem c_isPutOut {c : CluS} {a : AC} (R : RC c a) {i r : Nat} (hi : i < a_n a) (hr : r < 4) (S L : Nat) : mo_Club_isPutOut c (nI i) (nI S) (nI L) (nI r) = some (p_po a i S L r) := by
  have hn := R.1.1
  have hi6 : i < 6 := by omega
  obtain ⟨h1, h2⟩ := R.2.1 i hi
  have hcm : p_an (p_an S (2 ^ i)) L = p_an (p_an S L) (2 ^ i) := p_bit_ext (fun j => by
    rw [p_an_bit, p_an_bit, p_an_bit, p_an_bit]
    cases S.testBit j <;> cases L.testBit j <;> cases (2 ^ i).testBit j <;> rfl)
  have hva : mo_Club_votesOfSet c ((nI S &&& (((1 : Int32) <<< (nI i &&& 31)) ^^^ (-1 : Int32))) &&& (nI L ^^^ (-1 : Int32))) = some (nI (p_ye a i S L)) := by
    rw [pu_sh i (by omega), p_an_nI, p_an_nI, c_votesOfSet R, hcm]
    rfl
  have hle := p_ye_le a i S L
  have hS := p_vs_le hn S
  have hno : nI (p_vs a S) - nI (p_ye a i S L) = nI (p_no a i S L) := pk_sub hle
  have hnb : p_no a i S L < 100 := by unfold p_no; omega
  have hc2 : mo_Club_isCarried c (nI i) (nI (p_ye a i S L)) (nI (p_no a i S L)) (2 : Int32) = some (p_car a i (p_ye a i S L) (p_no a i S L) 2) := c_isCarried R hi (r := 2) (by omega) hnb (by decide)
  have hg : mo_Club_allOfKind c (2 : Int32) = some (nI (p_ak a 2)) := c_allOfKind R (k0 := 2) (by decide)
  have hk := p_ak_lt hn 2
  have e1 : (nI (a_K a i) = (4 : Int32)) ↔ a_K a i = 4 := nI_eq (b := 4) (by omega) (by decide)
  have e2 : (nI r = (3 : Int32)) ↔ r = 3 := nI_eq (b := 3) (by omega) (by decide)
  have hO := p_and_lt (x := p_an S (2 ^ i) &&& L) hk
  have e3 : (nI ((p_an S (2 ^ i) &&& L) &&& p_ak a 2) = (0 : Int32)) ↔ (p_an S (2 ^ i) &&& L) &&& p_ak a 2 = 0 := nI_eq (b := 0) (by omega) (by decide)
  rw [mo_Club_isPutOut, hva]
  simp only [Option.bind_some, c_votesOfSet R, hno, c_isCarried R hi (by omega : p_ye a i S L < 100) hnb hr, hc2, hg, pu_in_t hi6 (by decide), pu_n (by omega : i < 2 ^ 31), h1, cond_true, pu_sh i (by omega), p_an_nI, c_sis R, fa_and, e1, e2, e3]
  unfold p_po
  cases p_car a i (p_ye a i S L) (p_no a i S L) r
  · rfl
  · by_cases g1 : a_K a i = 4
    · cases p_car a i (p_ye a i S L) (p_no a i S L) 2
      · simp [g1]
      · by_cases g2 : r = 3
        · cases p_sis a (p_an S (2 ^ i)) L
          · simp [g1, g2]
          · by_cases g3 : (p_an S (2 ^ i) &&& L) &&& p_ak a 2 = 0
            · simp [g1, g2, g3]
            · simp [g1, g2, g3]
        · by_cases g3 : (p_an S (2 ^ i) &&& L) &&& p_ak a 2 = 0
          · simp [g1, g2, g3]
          · simp [g1, g2, g3]
    · by_cases g2 : r = 3
      · cases p_sis a (p_an S (2 ^ i)) L
        · simp [g1, g2]
        · by_cases g3 : (p_an S (2 ^ i) &&& L) &&& p_ak a 2 = 0
          · simp [g1, g2, g3]
          · simp [g1, g2, g3]
      · by_cases g3 : (p_an S (2 ^ i) &&& L) &&& p_ak a 2 = 0
        · simp [g1, g2, g3]
        · simp [g1, g2, g3]
def p_of (a : AC) (S i : Nat) : Bool := S.testBit i && p_po a i S (a_L a i) (a_r a)
def p_out (a : AC) (S : Nat) : Nat := p_mk (p_of a S) (a_n a)
theorem p_out_lt {a : AC} (hn : a_n a ≤ 6) (S : Nat) : p_out a S < 64 := by
  have h1 := p_mk_lt (p_of a S) (a_n a)
  have h2 := pow6 hn
  unfold p_out
  omega
theorem c_putOutOf {c : CluS} {a : AC} (R : RC c a) (S : Nat) : mo_Club_putOutOf c (nI S) = some (nI (p_out a S)) := by
  have hn := R.1.1
  have hc := R.1.2
  have hr := R.2.2.2.2.1
  have h := pu_loop (fun n v i => lo_Club_putOutOf_4 c (nI S) n v i) (a_n a) (fun k => nI (p_mk (p_of a S) k)) (some (nI (p_out a S)))
    (fun n => by
      rw [lo_Club_putOutOf_4, hc, if_pos (nI_le (Nat.le_refl _) (by omega))]
      rfl)
    (fun n k hk => by
      rw [lo_Club_putOutOf_4, hc, if_neg (nI_ge hk (by omega)), nI_1]
      by_cases hb : S.testBit k = true
      · have h1 : ¬ (nI S &&& ((1 : Int32) <<< (nI k &&& 31))) = 0 := by rw [pu_and S k (by omega), hb]; decide
        rw [if_neg h1, pu_in_t (by omega : k < 6) (by decide), pu_n (by omega), (R.2.2.2.1 k hk).1, hr.1, c_isPutOut R hk hr.2]
        simp only [cond_true, Option.bind_some]
        have h3 : p_of a S k = p_po a k S (a_L a k) (a_r a) := by unfold p_of; rw [hb]; rfl
        cases hp : p_po a k S (a_L a k) (a_r a)
        · simp only [cond_false, Option.bind_some]
          rw [p_mk, h3, hp]
          rfl
        · simp only [cond_true, Option.bind_some]
          rw [pu_sh k (by omega), fa_or, p_mk, h3, hp]
          rfl
      · have h1 : (nI S &&& ((1 : Int32) <<< (nI k &&& 31))) = 0 := by rw [pu_and S k (by omega)]; simpa using hb
        have h3 : p_of a S k = false := by unfold p_of; simp [hb]
        rw [if_pos h1]
        simp only [Option.bind_some]
        rw [p_mk, h3]
        rfl)
    (a_n a) nj_fu 0 (by omega) (pu_fu (by omega))
  have h2 : lo_Club_putOutOf_4 c (nI S) nj_fu 0 0 = some (nI (p_out a S)) := h
  rw [mo_Club_putOutOf, h2]
  rfl
theorem c_standsStill {c : CluS} {a : AC} (R : RC c a) (S : Nat) : mo_Club_standsStill c (nI S) = some (decide (p_out a S = 0)) := by
  rw [mo_Club_standsStill, c_putOutOf R]
  have hl := p_out_lt R.1.1 S
  have e1 : (nI (p_out a S) = (0 : Int32)) ↔ p_out a S = 0 := nI_eq (b := 0) (by omega) (by decide)
  simp only [Option.bind_some, e1]
  by_cases g : p_out a S = 0 <;> simp [g]
theorem c_isIn {c : CluS} {a : AC} (R : RC c a) {i : Nat} (hi : i < 31) : mo_Club_isIn c (nI i) = some ((a_b a).testBit i) := by
  rw [mo_Club_isIn, R.2.2.2.2.2.1.1]
  by_cases hb : (a_b a).testBit i = true
  · have h1 : ¬ (nI (a_b a) &&& ((1 : Int32) <<< (nI i &&& 31))) = 0 := by rw [pu_and _ i hi, hb]; decide
    rw [if_neg h1, hb]
  · have h1 : (nI (a_b a) &&& ((1 : Int32) <<< (nI i &&& 31))) = 0 := by rw [pu_and _ i hi]; simpa using hb
    rw [if_pos h1]
    simp at hb
    rw [hb]
def p_mj (a : AC) (i : Nat) : Bool := !(a_b a).testBit i && decide (p_an (a_b a) (a_L a i) = 0)
theorem c_mayJoin {c : CluS} {a : AC} (R : RC c a) {i : Nat} (hi : i < a_n a) : mo_Club_mayJoin c (nI i) = some (p_mj a i) := by
  have hn := R.1.1
  have hb := R.2.2.2.2.2.1
  have h6 := pow6 hn
  have h3 : p_an (a_b a) (a_L a i) < 2 ^ a_n a := p_an_le _ _ hb.2
  have e1 : (nI (p_an (a_b a) (a_L a i)) = (0 : Int32)) ↔ p_an (a_b a) (a_L a i) = 0 := nI_eq (b := 0) (by omega) (by decide)
  rw [mo_Club_mayJoin, c_isIn R (by omega), pu_in_t (by omega : i < 6) (by decide), pu_n (by omega), (R.2.2.2.1 i hi).1, hb.1, p_an_nI]
  simp only [Option.bind_some, cond_true, e1, p_mj]
  cases (a_b a).testBit i
  · by_cases g : p_an (a_b a) (a_L a i) = 0 <;> simp [g]
  · rfl
