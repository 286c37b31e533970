/-! pure: the law, call by call -/
theorem ite_case {c : Prop} [Decidable c] {A B C : Option Unit} (h1 : c → A = C) (h2 : ¬ c → B = C) : (if c then A else B) = C := by
  by_cases g : c
  · rw [if_pos g]
    exact h1 g
  · rw [if_neg g]
    exact h2 g
theorem br_A0  {x : Option (Int32 × NjS)} {y : Option (Int32 × MdS)} (h : Same x y) (f : NjS → MdS → Option Unit) (hf : ∀ s m, Rel s m → f s m = some ()) : (x.bind (fun w => (y.bind (fun w2 => (if (w.1) = (w2.1) then f (w.2) (w2.2) else none))))) = some () := by
  obtain ⟨v, s, m, rfl, rfl, hr⟩ := h
  show (if v = v then f s m else none) = some ()
  rw [if_pos rfl]
  exact hf s m hr
theorem br_A1 {b1 : Bool} (h1 : b1 = true) {x : Option (Int32 × NjS)} {y : Option (Int32 × MdS)} (h : Same x y) (f : NjS → MdS → Option Unit) (hf : ∀ s m, Rel s m → f s m = some ()) : (bif b1 then (x.bind (fun w => (bif b1 then (y.bind (fun w2 => (if (w.1) = (w2.1) then f (w.2) (w2.2) else none))) else none))) else none) = some () := by
  subst h1
  obtain ⟨v, s, m, rfl, rfl, hr⟩ := h
  show (if v = v then f s m else none) = some ()
  rw [if_pos rfl]
  exact hf s m hr
theorem br_A2 {b1 b2 : Bool} (h1 : b1 = true) (h2 : b2 = true) {x : Option (Int32 × NjS)} {y : Option (Int32 × MdS)} (h : Same x y) (f : NjS → MdS → Option Unit) (hf : ∀ s m, Rel s m → f s m = some ()) : (bif b1 then (bif b2 then (x.bind (fun w => (bif b1 then (bif b2 then (y.bind (fun w2 => (if (w.1) = (w2.1) then f (w.2) (w2.2) else none))) else none) else none))) else none) else none) = some () := by
  subst h1
  subst h2
  obtain ⟨v, s, m, rfl, rfl, hr⟩ := h
  show (if v = v then f s m else none) = some ()
  rw [if_pos rfl]
  exact hf s m hr
theorem br_A3 {b1 b2 b3 : Bool} (h1 : b1 = true) (h2 : b2 = true) (h3 : b3 = true) {x : Option (Int32 × NjS)} {y : Option (Int32 × MdS)} (h : Same x y) (f : NjS → MdS → Option Unit) (hf : ∀ s m, Rel s m → f s m = some ()) : (bif b1 then (bif b2 then (bif b3 then (x.bind (fun w => (bif b1 then (bif b2 then (bif b3 then (y.bind (fun w2 => (if (w.1) = (w2.1) then f (w.2) (w2.2) else none))) else none) else none) else none))) else none) else none) else none) = some () := by
  subst h1
  subst h2
  subst h3
  obtain ⟨v, s, m, rfl, rfl, hr⟩ := h
  show (if v = v then f s m else none) = some ()
  rw [if_pos rfl]
  exact hf s m hr
theorem br_A5 {b1 b2 b3 b4 b5 : Bool} (h1 : b1 = true) (h2 : b2 = true) (h3 : b3 = true) (h4 : b4 = true) (h5 : b5 = true) {x : Option (Int32 × NjS)} {y : Option (Int32 × MdS)} (h : Same x y) (f : NjS → MdS → Option Unit) (hf : ∀ s m, Rel s m → f s m = some ()) : (bif b1 then (bif b2 then (bif b3 then (bif b4 then (bif b5 then (x.bind (fun w => (bif b1 then (bif b2 then (bif b3 then (bif b4 then (bif b5 then (y.bind (fun w2 => (if (w.1) = (w2.1) then f (w.2) (w2.2) else none))) else none) else none) else none) else none) else none))) else none) else none) else none) else none) else none) = some () := by
  subst h1
  subst h2
  subst h3
  subst h4
  subst h5
  obtain ⟨v, s, m, rfl, rfl, hr⟩ := h
  show (if v = v then f s m else none) = some ()
  rw [if_pos rfl]
  exact hf s m hr
theorem br_B0 {α : Type} [DecidableEq α]  {x y : Option α} (h : ∃ v, x = some v ∧ y = some v) {r : Option Unit} (hf : r = some ()) : (x.bind (fun w => (y.bind (fun w2 => (if w = w2 then r else none))))) = some () := by
  obtain ⟨v, rfl, rfl⟩ := h
  show (if v = v then r else none) = some ()
  rw [if_pos rfl]
  exact hf
theorem br_B1 {α : Type} [DecidableEq α] {b1 : Bool} (h1 : b1 = true) {x y : Option α} (h : ∃ v, x = some v ∧ y = some v) {r : Option Unit} (hf : r = some ()) : (bif b1 then (x.bind (fun w => (bif b1 then (y.bind (fun w2 => (if w = w2 then r else none))) else none))) else none) = some () := by
  subst h1
  obtain ⟨v, rfl, rfl⟩ := h
  show (if v = v then r else none) = some ()
  rw [if_pos rfl]
  exact hf
theorem br_C1 {b1 : Bool} (h1 : b1 = true) {x : Option Int32} {y : Option (Int32 × MdS)} {m : MdS} (h : ∃ v, x = some v ∧ y = some (v, m)) (f : MdS → Option Unit) (hf : f m = some ()) : (bif b1 then (x.bind (fun w => (bif b1 then (y.bind (fun w2 => (if w = (w2.1) then f (w2.2) else none))) else none))) else none) = some () := by
  subst h1
  obtain ⟨v, rfl, rfl⟩ := h
  show (if v = v then f m else none) = some ()
  rw [if_pos rfl]
  exact hf
theorem law_step (xs : Nat → Int32) (L n : Nat) {s : NjS} {m : MdS} (h : Rel s m) (v : Int32) (h0 : nj_in v L = true) (h1 : nj_in (v + 1) L = true) (h2 : nj_in (v + 2) L = true) (h3 : nj_in (v + 3) L = true) (h4 : nj_in (v + 4) L = true) (h5 : nj_in (v + 5) L = true) (hlt : ¬ (Int32.ofNat L - 6 < v)) (hf : ∀ s m, Rel s m → lo_Law xs L n s m (v + 6) = some ()) : lo_Law xs L (n + 1) s m v = some () := by
  rw [lo_Law, if_neg hlt, h0]
  show (if _ then _ else _) = _
  refine ite_case (fun _ => br_A2 h1 h2 (op_row h _ _) (fun s m => lo_Law xs L n s m (v + 6)) hf) (fun _ => ?_)
  refine ite_case (fun _ => br_A3 h1 h2 h3 (op_lay h _ _ _) (fun s m => lo_Law xs L n s m (v + 6)) hf) (fun _ => ?_)
  refine ite_case (fun _ => br_A2 h1 h2 (op_at h _ _) (fun s m => lo_Law xs L n s m (v + 6)) hf) (fun _ => ?_)
  refine ite_case (fun _ => br_A1 h1 (op_tear h _) (fun s m => lo_Law xs L n s m (v + 6)) hf) (fun _ => ?_)
  refine ite_case (fun _ => br_A5 h1 h2 h3 h4 h5 (op_copy h _ _ _ _ _) (fun s m => lo_Law xs L n s m (v + 6)) hf) (fun _ => ?_)
  refine ite_case (fun _ => br_A1 h1 (op_mean h _) (fun s m => lo_Law xs L n s m (v + 6)) hf) (fun _ => ?_)
  refine ite_case (fun _ => br_A2 h1 h2 (op_text h _ _) (fun s m => lo_Law xs L n s m (v + 6)) hf) (fun _ => ?_)
  refine ite_case (fun _ => br_A3 h1 h2 h3 (op_put h _ _ _) (fun s m => lo_Law xs L n s m (v + 6)) hf) (fun _ => ?_)
  refine ite_case (fun _ => br_A1 h1 (op_fault h _) (fun s m => lo_Law xs L n s m (v + 6)) hf) (fun _ => ?_)
  refine ite_case (fun _ => br_A1 h1 (op_club h _) (fun s m => lo_Law xs L n s m (v + 6)) hf) (fun _ => ?_)
  refine ite_case (fun _ => br_A2 h1 h2 (op_child h _ _) (fun s m => lo_Law xs L n s m (v + 6)) hf) (fun _ => ?_)
  refine ite_case (fun _ => br_A2 h1 h2 (op_mark h _ _) (fun s m => lo_Law xs L n s m (v + 6)) hf) (fun _ => ?_)
  refine ite_case (fun _ => br_A1 h1 (op_rule h _) (fun s m => lo_Law xs L n s m (v + 6)) hf) (fun _ => ?_)
  refine ite_case (fun _ => br_A1 h1 (op_oust h _) (fun s m => lo_Law xs L n s m (v + 6)) hf) (fun _ => ?_)
  refine ite_case (fun _ => br_A1 h1 (op_join h _) (fun s m => lo_Law xs L n s m (v + 6)) hf) (fun _ => ?_)
  refine ite_case (fun _ => br_A0  (op_fee h) (fun s m => lo_Law xs L n s m (v + 6)) hf) (fun _ => ?_)
  refine ite_case (fun _ => br_A2 h1 h2 (op_grudge h _ _) (fun s m => lo_Law xs L n s m (v + 6)) hf) (fun _ => ?_)
  refine ite_case (fun _ => br_A1 h1 (op_undo h _) (fun s m => lo_Law xs L n s m (v + 6)) hf) (fun _ => ?_)
  refine ite_case (fun _ => br_A1 h1 (op_keep h _) (fun s m => lo_Law xs L n s m (v + 6)) hf) (fun _ => ?_)
  refine ite_case (fun _ => br_A1 h1 (op_on h _) (fun s m => lo_Law xs L n s m (v + 6)) hf) (fun _ => ?_)
  refine ite_case (fun _ => br_A1 h1 (op_yes h _) (fun s m => lo_Law xs L n s m (v + 6)) hf) (fun _ => ?_)
  refine ite_case (fun _ => br_A0  (op_can h) (fun s m => lo_Law xs L n s m (v + 6)) hf) (fun _ => ?_)
  refine ite_case (fun _ => br_C1 h1 (op_swing h _) (fun m => lo_Law xs L n s m (v + 6)) (hf s m h)) (fun _ => ?_)
  refine ite_case (fun _ => br_B1 h1 (op_rules h _) (hf s m h)) (fun _ => ?_)
  refine ite_case (fun _ => br_A1 h1 (op_longest h _) (fun s m => lo_Law xs L n s m (v + 6)) hf) (fun _ => ?_)
  refine ite_case (fun _ => br_A1 h1 (op_ways h _) (fun s m => lo_Law xs L n s m (v + 6)) hf) (fun _ => ?_)
  refine ite_case (fun _ => br_A0  (op_alone h) (fun s m => lo_Law xs L n s m (v + 6)) hf) (fun _ => ?_)
  refine ite_case (fun _ => br_A0  (op_stands h) (fun s m => lo_Law xs L n s m (v + 6)) hf) (fun _ => ?_)
  refine ite_case (fun _ => br_A1 h1 (op_run h _) (fun s m => lo_Law xs L n s m (v + 6)) hf) (fun _ => ?_)
  refine ite_case (fun _ => br_A0  (op_splits h) (fun s m => lo_Law xs L n s m (v + 6)) hf) (fun _ => ?_)
  refine ite_case (fun _ => br_A0  (op_peace h) (fun s m => lo_Law xs L n s m (v + 6)) hf) (fun _ => ?_)
  refine ite_case (fun _ => br_A1 h1 (op_power h _) (fun s m => lo_Law xs L n s m (v + 6)) hf) (fun _ => ?_)
  refine ite_case (fun _ => br_A1 h1 (op_share h _) (fun s m => lo_Law xs L n s m (v + 6)) hf) (fun _ => ?_)
  refine ite_case (fun _ => br_B0  (op_secrets h) (hf s m h)) (fun _ => ?_)
  refine ite_case (fun _ => br_A1 h1 (op_told h _) (fun s m => lo_Law xs L n s m (v + 6)) hf) (fun _ => ?_)
  refine ite_case (fun _ => br_A1 h1 (op_minutes h _) (fun s m => lo_Law xs L n s m (v + 6)) hf) (fun _ => ?_)
  refine ite_case (fun _ => br_A1 h1 (op_odds h _) (fun s m => lo_Law xs L n s m (v + 6)) hf) (fun _ => ?_)
  refine ite_case (fun _ => br_A2 h1 h2 (op_lots h _ _) (fun s m => lo_Law xs L n s m (v + 6)) hf) (fun _ => ?_)
  refine ite_case (fun _ => br_B0  (op_asked h) (hf s m h)) (fun _ => ?_)
  refine ite_case (fun _ => br_B0  (op_upper h) (hf s m h)) (fun _ => ?_)
  refine ite_case (fun _ => br_B0  (op_lower h) (hf s m h)) (fun _ => ?_)
  refine ite_case (fun _ => br_B1 h1 (op_count h _) (hf s m h)) (fun _ => ?_)
  refine ite_case (fun _ => br_B0  (op_finding h) (hf s m h)) (fun _ => ?_)
  refine ite_case (fun _ => br_B1 h1 (op_findings h _) (hf s m h)) (fun _ => ?_)
  refine ite_case (fun _ => br_B0  (op_digest h) (hf s m h)) (fun _ => ?_)
  exact hf s m h
theorem law_all (xs : Nat → Int32) (L : Nat) (hL : L ≤ 384) : ∀ (d k : Nat) (s : NjS) (m : MdS), L < 6 * (k + d) + 6 → 6 * k ≤ 400 → Rel s m → lo_Law xs L (d + 1) s m (nI (6 * k)) = some () := by
  have h6 : (6 : Int32) = nI 6 := rfl
  have hlt : ∀ k, 6 * k ≤ 400 → ((Int32.ofNat L - 6 < nI (6 * k)) ↔ L < 6 * k + 6) := fun k hk => by
    have e : (Int32.ofNat L - 6).toInt = (L : Int) - 6 := pk_sub_toInt (a := L) (b := 6) (by omega) (by decide)
    rw [fa_lt, e, nI_toInt (by omega)]
    omega
  intro d
  induction d with
  | zero =>
    intro k s m h1 h2 h
    rw [lo_Law, if_pos ((hlt k h2).2 (by omega))]
  | succ d ih =>
    intro k s m h1 h2 h
    by_cases g : L < 6 * k + 6
    · rw [lo_Law, if_pos ((hlt k h2).2 g)]
    · have ei : ∀ j, j < 6 → nj_in (nI (6 * k + j)) L = true := fun j hj => pu_in_t (by omega) (by omega)
      have a1 : nI (6 * k) + (1 : Int32) = nI (6 * k + 1) := nI_add _ 1
      have a2 : nI (6 * k) + (2 : Int32) = nI (6 * k + 2) := nI_add _ 2
      have a3 : nI (6 * k) + (3 : Int32) = nI (6 * k + 3) := nI_add _ 3
      have a4 : nI (6 * k) + (4 : Int32) = nI (6 * k + 4) := nI_add _ 4
      have a5 : nI (6 * k) + (5 : Int32) = nI (6 * k + 5) := nI_add _ 5
      have a6 : nI (6 * k) + (6 : Int32) = nI (6 * (k + 1)) := nI_add _ 6
      refine law_step xs L (d + 1) h (nI (6 * k)) (ei 0 (by omega)) (by rw [a1]; exact ei 1 (by omega)) (by rw [a2]; exact ei 2 (by omega)) (by rw [a3]; exact ei 3 (by omega)) (by rw [a4]; exact ei 4 (by omega)) (by rw [a5]; exact ei 5 (by omega)) (fun q => g ((hlt k h2).1 q)) (fun s2 m2 hr => ?_)
      rw [a6]
      exact ih (k + 1) s2 m2 (by omega) (by omega) hr
