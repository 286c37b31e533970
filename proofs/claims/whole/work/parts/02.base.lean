/-! V-layer: refs are positions in a list of cells; nj_V hides the machine's plumbing -/
def nj_T0 : List Cond := lw_tbl.filter goodWord
theorem nj_T0_in {w : Cond} (h : w ∈ lw_tbl) (hg : goodWord w = true) : w ∈ nj_T0 := List.mem_filter.mpr ⟨h, hg⟩
theorem nj_T0_sub : ∀ w ∈ nj_T0, w ∈ lw_tbl := fun _ h => (List.mem_filter.mp h).1
theorem nj_T0_good : ∀ w ∈ nj_T0, goodWord w = true := fun _ h => (List.mem_filter.mp h).2
theorem nj_goodIn {ws : List Cond} (h : ∀ w ∈ ws, w ∈ nj_T0) : GoodIn nj_T0 ws := fun w hw => ⟨h w hw, good_of_word (nj_T0_good w (h w hw))⟩
-- positions and addresses
def nj_pv (ad : Nat → Nat) (v : Value) : Value := match v with
  | .ref k => .ref (ad k)
  | w => w
abbrev nj_AR : Type := (Nat → Int32) ⊕ (Nat → Int64) ⊕ (Nat → UInt32) ⊕ (Nat → UInt64) ⊕ (Nat → Option Nat)
def nj_px (ad : Nat → Nat) (x : nj_AR) : nj_AR := match x with
  | .inl f => .inl f
  | .inr (.inl f) => .inr (.inl f)
  | .inr (.inr (.inl f)) => .inr (.inr (.inl f))
  | .inr (.inr (.inr (.inl f))) => .inr (.inr (.inr (.inl f)))
  | .inr (.inr (.inr (.inr f))) => .inr (.inr (.inr (.inr (fun k => (f k).map ad))))
def nj_pe (ad : Nat → Nat) (dT : Nat → ClassId) (e : va_E) : va_E := match e with
  | .inl a => .inl (dT a.1, a.2.1, nj_px ad a.2.2)
  | .inr o => .inr (o.1, o.2.map (nj_pv ad))
def nj_pw (ad : Nat → Nat) (dT : Nat → ClassId) (hp : List va_E) : va_W := hp.mapIdx (fun k e => (ad k, nj_pe ad dT e))
theorem nj_pw_at {ad : Nat → Nat} {dT : Nat → ClassId} {hp : List va_E} {k : Nat} {e : va_E} (h : hp[k]? = some e) : (nj_pw ad dT hp)[k]? = some (ad k, nj_pe ad dT e) := by
  simp [nj_pw, List.getElem?_mapIdx, h]
theorem nj_pw_of {ad : Nat → Nat} {dT : Nat → ClassId} {hp : List va_E} {k : Nat} {q : Nat × va_E} (h : (nj_pw ad dT hp)[k]? = some q) : ∃ e, hp[k]? = some e ∧ q = (ad k, nj_pe ad dT e) := by
  rw [nj_pw, List.getElem?_mapIdx] at h
  cases he : hp[k]? with
  | none => rw [he] at h; cases h
  | some e => rw [he] at h; exact ⟨e, rfl, (Option.some.inj h).symm⟩
theorem nj_pw_set {ad : Nat → Nat} {dT : Nat → ClassId} {hp : List va_E} {k : Nat} {e : va_E} : (nj_pw ad dT hp).set k (ad k, nj_pe ad dT e) = nj_pw ad dT (hp.set k e) := by
  apply List.ext_getElem?
  intro i
  rw [List.getElem?_set]
  by_cases hk : k = i
  · subst hk
    rw [if_pos rfl]
    by_cases hl : k < hp.length
    · rw [nj_pw_at (List.getElem?_set_self hl), if_pos (by simpa [nj_pw] using hl)]
    · rw [if_neg (by simpa [nj_pw] using hl)]
      simp [nj_pw, List.getElem?_mapIdx, List.getElem?_set, hl]
  · rw [if_neg hk]
    simp [nj_pw, List.getElem?_mapIdx, List.getElem?_set, hk]
theorem nj_pw_len (ad : Nat → Nat) (dT : Nat → ClassId) (hp : List va_E) : (nj_pw ad dT hp).length = hp.length := by simp [nj_pw]
/-- apartness is of the addresses alone -/
theorem nj_D_of {A B : Nat → Prop} {w w' : va_W} (h : va_D A w) (he : ∀ (k : Nat) (q : Nat × va_E), w'[k]? = some q → ∃ q0, w[k]? = some q0 ∧ q0.1 = q.1) (hAB : ∀ q, A q → B q) : va_D B w' := by
  refine ⟨fun i j x y hi hj hxy => ?_, fun k q hk => ?_⟩
  · obtain ⟨x0, h1, h2⟩ := he i x hi
    obtain ⟨y0, h3, h4⟩ := he j y hj
    exact h.1 i j x0 y0 h1 h3 (h2.trans (hxy.trans h4.symm))
  · obtain ⟨q0, h1, h2⟩ := he k q hk
    rw [← h2]
    exact hAB _ (h.2 k q0 h1)
-- the locals
def nj_lm (ad : Nat → Nat) (n : Nat) (lm : Array Slot) (ls : List (Option Value)) : Prop := lm.size = n ∧ lv_wf lm ∧ ∀ (j : Nat) (v : Value), ls[j]? = some (some v) → lm[j]? = some (.val (nj_pv ad v))
def nj_k2 (o : Option Value) : Option Value := match o with
  | some (.long _) => none
  | some (.double _) => none
  | w => w
def nj_s1 : List (Option Value) → Nat → Value → List (Option Value)
  | [], _, _ => []
  | _ :: r, 0, v => some v :: r
  | o :: r, 1, v => nj_k2 o :: nj_s1 r 0 v
  | o :: r, n + 2, v => o :: nj_s1 r (n + 1) v
def nj_s2 : List (Option Value) → Nat → Value → List (Option Value)
  | [], _, _ => []
  | _ :: r, 0, v => some v :: (match r with | [] => [] | _ :: r' => none :: r')
  | o :: r, 1, v => nj_k2 o :: nj_s2 r 0 v
  | o :: r, n + 2, v => o :: nj_s2 r (n + 1) v
theorem nj_k2_of {o : Option Value} {v : Value} (h : nj_k2 o = some v) : o = some v ∧ ¬ v.category = 2 := by
  cases o with
  | none => cases h
  | some w => cases w <;> simp_all [nj_k2, Value.category] <;> (first | (subst h; simp [Value.category]) | skip)
theorem nj_s1_of : ∀ (ls : List (Option Value)) (i : Nat) (v : Value) (j : Nat) (w : Value), (nj_s1 ls i v)[j]? = some (some w) → (j = i ∧ w = v) ∨ (j ≠ i ∧ ls[j]? = some (some w) ∧ (j + 1 = i → ¬ w.category = 2))
  | [], i, v, j, w, h => by simp [nj_s1] at h
  | o :: r, 0, v, j, w, h => by
    cases j with
    | zero => simp [nj_s1] at h; exact Or.inl ⟨rfl, h.symm⟩
    | succ j => simp [nj_s1] at h; exact Or.inr ⟨by omega, by simpa using h, by omega⟩
  | o :: r, 1, v, j, w, h => by
    cases j with
    | zero =>
      simp only [nj_s1, List.getElem?_cons_zero, Option.some.injEq] at h
      obtain ⟨h1, h2⟩ := nj_k2_of h
      exact Or.inr ⟨by omega, by simp [h1], fun _ => h2⟩
    | succ j =>
      simp only [nj_s1, List.getElem?_cons_succ] at h
      rcases nj_s1_of r 0 v j w h with ⟨a, b⟩ | ⟨a, b, c⟩
      · exact Or.inl ⟨by omega, b⟩
      · exact Or.inr ⟨by omega, by simpa using b, by omega⟩
  | o :: r, n + 2, v, j, w, h => by
    cases j with
    | zero =>
      simp only [nj_s1, List.getElem?_cons_zero, Option.some.injEq] at h
      exact Or.inr ⟨by omega, by simp [h], by omega⟩
    | succ j =>
      simp only [nj_s1, List.getElem?_cons_succ] at h
      rcases nj_s1_of r (n + 1) v j w h with ⟨a, b⟩ | ⟨a, b, c⟩
      · exact Or.inl ⟨by omega, b⟩
      · exact Or.inr ⟨by omega, by simpa using b, fun q => c (by omega)⟩
theorem nj_s2_of : ∀ (ls : List (Option Value)) (i : Nat) (v : Value) (j : Nat) (w : Value), (nj_s2 ls i v)[j]? = some (some w) → (j = i ∧ w = v) ∨ (j ≠ i ∧ j ≠ i + 1 ∧ ls[j]? = some (some w) ∧ (j + 1 = i → ¬ w.category = 2))
  | [], i, v, j, w, h => by simp [nj_s2] at h
  | [o], 0, v, j, w, h => by
    cases j with
    | zero => simp [nj_s2] at h; exact Or.inl ⟨rfl, h.symm⟩
    | succ j => simp [nj_s2] at h
  | o :: o2 :: r, 0, v, j, w, h => by
    cases j with
    | zero => simp [nj_s2] at h; exact Or.inl ⟨rfl, h.symm⟩
    | succ j =>
      cases j with
      | zero => simp [nj_s2] at h
      | succ j => simp [nj_s2] at h; exact Or.inr ⟨by omega, by omega, by simpa using h, by omega⟩
  | o :: r, 1, v, j, w, h => by
    cases j with
    | zero =>
      simp only [nj_s2, List.getElem?_cons_zero, Option.some.injEq] at h
      obtain ⟨h1, h2⟩ := nj_k2_of h
      exact Or.inr ⟨by omega, by omega, by simp [h1], fun _ => h2⟩
    | succ j =>
      simp only [nj_s2, List.getElem?_cons_succ] at h
      rcases nj_s2_of r 0 v j w h with ⟨a, b⟩ | ⟨a, a2, b, c⟩
      · exact Or.inl ⟨by omega, b⟩
      · exact Or.inr ⟨by omega, by omega, by simpa using b, by omega⟩
  | o :: r, n + 2, v, j, w, h => by
    cases j with
    | zero =>
      simp only [nj_s2, List.getElem?_cons_zero, Option.some.injEq] at h
      exact Or.inr ⟨by omega, by omega, by simp [h], by omega⟩
    | succ j =>
      simp only [nj_s2, List.getElem?_cons_succ] at h
      rcases nj_s2_of r (n + 1) v j w h with ⟨a, b⟩ | ⟨a, a2, b, c⟩
      · exact Or.inl ⟨by omega, b⟩
      · exact Or.inr ⟨by omega, by omega, by simpa using b, fun q => c (by omega)⟩
theorem nj_cat (ad : Nat → Nat) (v : Value) : (nj_pv ad v).category = v.category := by cases v <;> rfl
/-- the locals as the kit's list -/
def nj_pl (ad : Nat → Nat) (ls : List (Option Value)) : List (Nat × Value) := (ls.mapIdx (fun j o => (j, o))).filterMap (fun q => q.2.map (fun v => (q.1, nj_pv ad v)))
theorem nj_pl_in {ad : Nat → Nat} {ls : List (Option Value)} {j : Nat} {v : Value} (h : ls[j]? = some (some v)) : (j, nj_pv ad v) ∈ nj_pl ad ls := by
  refine List.mem_filterMap.mpr ⟨(j, some v), ?_, rfl⟩
  exact List.mem_of_getElem? (i := j) (by simp [List.getElem?_mapIdx, h])
theorem nj_pl_of {ad : Nat → Nat} {ls : List (Option Value)} {q : Nat × Value} (h : q ∈ nj_pl ad ls) : ∃ v, ls[q.1]? = some (some v) ∧ q.2 = nj_pv ad v := by
  obtain ⟨⟨j, o⟩, h1, h2⟩ := List.mem_filterMap.mp h
  obtain ⟨i, hi⟩ := List.getElem?_of_mem h1
  rw [List.getElem?_mapIdx] at hi
  cases hl : ls[i]? with
  | none => rw [hl] at hi; cases hi
  | some o' =>
    rw [hl] at hi
    cases hi
    cases o with
    | none => cases h2
    | some v => cases h2; exact ⟨v, hl, rfl⟩
theorem nj_lm_has {ad : Nat → Nat} {n : Nat} {lm : Array Slot} {ls : List (Option Value)} (h : nj_lm ad n lm ls) : lv_has lm n (nj_pl ad ls) := by
  refine ⟨h.1, h.2.1, fun q hq => ?_⟩
  obtain ⟨v, h1, h2⟩ := nj_pl_of hq
  rw [h2]
  exact h.2.2 q.1 v h1
theorem nj_lm_s1 {ad : Nat → Nat} {n i : Nat} {lm : Array Slot} {ls : List (Option Value)} {v : Value} (h : lv_has lm n ((i, nj_pv ad v) :: (nj_pl ad ls).filter (fun q => !(q.1 == i) && !(q.1 + 1 == i && q.2.category == 2)))) : nj_lm ad n lm (nj_s1 ls i v) := by
  refine ⟨h.1, h.2.1, fun j w hw => ?_⟩
  rcases nj_s1_of ls i v j w hw with ⟨a, b⟩ | ⟨a, b, c⟩
  · subst a; subst b
    exact h.2.2 _ List.mem_cons_self
  · refine h.2.2 (j, nj_pv ad w) (List.mem_cons_of_mem _ (List.mem_filter.mpr ⟨nj_pl_in b, ?_⟩))
    have hc := nj_cat ad w
    by_cases hj : j + 1 = i
    · simp [a, hc, c hj]
    · simp [a, hj]
theorem nj_lm_s2 {ad : Nat → Nat} {n i : Nat} {lm : Array Slot} {ls : List (Option Value)} {v : Value} (h : lv_has lm n ((i, nj_pv ad v) :: (nj_pl ad ls).filter (fun q => !(q.1 == i) && (!(q.1 == i + 1) && !(q.1 + 1 == i && q.2.category == 2))))) : nj_lm ad n lm (nj_s2 ls i v) := by
  refine ⟨h.1, h.2.1, fun j w hw => ?_⟩
  rcases nj_s2_of ls i v j w hw with ⟨a, b⟩ | ⟨a, a2, b, c⟩
  · subst a; subst b
    exact h.2.2 _ List.mem_cons_self
  · refine h.2.2 (j, nj_pv ad w) (List.mem_cons_of_mem _ (List.mem_filter.mpr ⟨nj_pl_in b, ?_⟩))
    have hc := nj_cat ad w
    by_cases hj : j + 1 = i
    · simp [a, a2, hc, c hj]
    · simp [a, a2, hj]
