def nj_RClub : String := "NobodyJoins$Club"
def nj_FClub : u_T := fun k => match k with
  | 0 => ("NobodyJoins$Club", "kinds", "[I", true)
  | 1 => ("NobodyJoins$Club", "pence", "[I", true)
  | 2 => ("NobodyJoins$Club", "likedBy", "[I", true)
  | 3 => ("NobodyJoins$Club", "deeds", "[I", true)
  | 4 => ("NobodyJoins$Club", "children", "I", false)
  | 5 => ("NobodyJoins$Club", "rule", "I", false)
  | 6 => ("NobodyJoins$Club", "in", "I", false)
  | 7 => ("NobodyJoins$Club", "tin", "I", false)
  | _ => ("NobodyJoins$Club", "deedCount", "I", false)
def nj_tClub : Nat → FieldType := fun k => match k with
  | 0 => (.array .int)
  | 1 => (.array .int)
  | 2 => (.array .int)
  | 3 => (.array .int)
  | 4 => .int
  | 5 => .int
  | 6 => .int
  | 7 => .int
  | _ => .int
def nj_ROrders : String := "NobodyJoins$Orders"
def nj_FOrders : u_T := fun k => match k with
  | _ => ("NobodyJoins$Orders", "ofSet", "[I", true)
def nj_tOrders : Nat → FieldType := fun k => match k with
  | _ => (.array .int)
def nj_RReader : String := "NobodyJoins$Reader"
def nj_FReader : u_T := fun k => match k with
  | 0 => ("NobodyJoins$Reader", "place", "I", false)
  | _ => ("NobodyJoins$Reader", "pairs", "I", false)
def nj_tReader : Nat → FieldType := fun k => match k with
  | 0 => .int
  | _ => .int
def nj_RRow : String := "NobodyJoins$Row"
def nj_FRow : u_T := fun k => match k with
  | 0 => ("NobodyJoins$Row", "places", "[I", true)
  | _ => ("NobodyJoins$Row", "size", "I", false)
def nj_tRow : Nat → FieldType := fun k => match k with
  | 0 => (.array .int)
  | _ => .int
def nj_RText : String := "NobodyJoins$Text"
def nj_FText : u_T := fun k => match k with
  | 0 => ("NobodyJoins$Text", "bytes", "[B", true)
  | _ => ("NobodyJoins$Text", "size", "I", false)
def nj_tText : Nat → FieldType := fun k => match k with
  | 0 => (.array .byte)
  | _ => .int
def nj_RNj : String := "NobodyJoins"
def nj_FNj : u_T := fun k => match k with
  | 0 => ("NobodyJoins", "rows", "[LNobodyJoins$Row;", true)
  | 1 => ("NobodyJoins", "texts", "[LNobodyJoins$Text;", true)
  | 2 => ("NobodyJoins", "club", "LNobodyJoins$Club;", true)
  | 3 => ("NobodyJoins", "draft", "LNobodyJoins$Club;", true)
  | 4 => ("NobodyJoins", "kept", "[LNobodyJoins$Club;", true)
  | 5 => ("NobodyJoins", "reader", "LNobodyJoins$Reader;", true)
  | 6 => ("NobodyJoins", "orders", "LNobodyJoins$Orders;", true)
  | 7 => ("NobodyJoins", "findingCounts", "[I", true)
  | 8 => ("NobodyJoins", "latestFinding", "I", false)
  | 9 => ("NobodyJoins", "answer", "I", false)
  | 10 => ("NobodyJoins", "upperNumber", "J", false)
  | _ => ("NobodyJoins", "lowerNumber", "J", false)
def nj_tNj : Nat → FieldType := fun k => match k with
  | 0 => (.array (.object "NobodyJoins$Row"))
  | 1 => (.array (.object "NobodyJoins$Text"))
  | 2 => (.object "NobodyJoins$Club")
  | 3 => (.object "NobodyJoins$Club")
  | 4 => (.array (.object "NobodyJoins$Club"))
  | 5 => (.object "NobodyJoins$Reader")
  | 6 => (.object "NobodyJoins$Orders")
  | 7 => (.array .int)
  | 8 => .int
  | 9 => .int
  | 10 => .long
  | _ => .long
def nj_RMd : String := "NobodyJoinsModel"
def nj_FMd : u_T := fun k => match k with
  | 0 => ("NobodyJoinsModel", "row", "[I", true)
  | 1 => ("NobodyJoinsModel", "children", "I", false)
  | 2 => ("NobodyJoinsModel", "kinds", "[I", true)
  | 3 => ("NobodyJoinsModel", "sizes", "[I", true)
  | 4 => ("NobodyJoinsModel", "items", "[I", true)
  | 5 => ("NobodyJoinsModel", "lengths", "[I", true)
  | 6 => ("NobodyJoinsModel", "bytes", "[I", true)
  | 7 => ("NobodyJoinsModel", "asked", "I", false)
  | 8 => ("NobodyJoinsModel", "upper", "J", false)
  | 9 => ("NobodyJoinsModel", "lower", "J", false)
  | 10 => ("NobodyJoinsModel", "finding", "I", false)
  | 11 => ("NobodyJoinsModel", "findings", "[I", true)
  | 12 => ("NobodyJoinsModel", "from", "I", false)
  | 13 => ("NobodyJoinsModel", "place", "I", false)
  | 14 => ("NobodyJoinsModel", "end", "I", false)
  | 15 => ("NobodyJoinsModel", "readRule", "I", false)
  | 16 => ("NobodyJoinsModel", "readChildren", "[I", true)
  | 17 => ("NobodyJoinsModel", "readMany", "I", false)
  | 18 => ("NobodyJoinsModel", "readLikes", "[I", true)
  | 19 => ("NobodyJoinsModel", "readPairs", "I", false)
  | 20 => ("NobodyJoinsModel", "outOf", "[I", true)
  | 21 => ("NobodyJoinsModel", "longer", "[I", true)
  | _ => ("NobodyJoinsModel", "ways", "[J", true)
def nj_tMd : Nat → FieldType := fun k => match k with
  | 0 => (.array .int)
  | 1 => .int
  | 2 => (.array .int)
  | 3 => (.array .int)
  | 4 => (.array .int)
  | 5 => (.array .int)
  | 6 => (.array .int)
  | 7 => .int
  | 8 => .long
  | 9 => .long
  | 10 => .int
  | 11 => (.array .int)
  | 12 => .int
  | 13 => .int
  | 14 => .int
  | 15 => .int
  | 16 => (.array .int)
  | 17 => .int
  | 18 => (.array .int)
  | 19 => .int
  | 20 => (.array .int)
  | 21 => (.array .int)
  | _ => (.array .long)
abbrev nj_cls : List vw_C := [(nj_RClub, nj_FClub, 9), (nj_ROrders, nj_FOrders, 1), (nj_RReader, nj_FReader, 2), (nj_RRow, nj_FRow, 2), (nj_RText, nj_FText, 2), (nj_RNj, nj_FNj, 12), (nj_RMd, nj_FMd, 23)]
def nj_CK (q : vw_C) : Prop := (∀ w ∈ u_ws q.1 q.2.1 q.2.2, w ∈ nj_T0) ∧ (∃ ty0 : Nat → FieldType, ∀ k, k < q.2.2 → parseFieldDescriptor (q.2.1 k).2.2.1 = some (ty0 k)) ∧ ∀ a, a < q.2.2 → ∀ b, b < q.2.2 → a ≠ b → (q.2.1 a).2.1 ≠ (q.2.1 b).2.1
theorem nj_ckClub : nj_CK (nj_RClub, nj_FClub, 9) := ⟨fun w hw => nj_T0_in ((by decide +kernel : ∀ w ∈ u_ws nj_RClub nj_FClub 9, w ∈ lw_tbl) w hw) ((by decide +kernel : ∀ w ∈ u_ws nj_RClub nj_FClub 9, goodWord w = true) w hw), ⟨nj_tClub, (by decide +kernel : ∀ k, k < 9 → parseFieldDescriptor (nj_FClub k).2.2.1 = some (nj_tClub k))⟩, (by decide +kernel : ∀ a, a < 9 → ∀ b, b < 9 → a ≠ b → (nj_FClub a).2.1 ≠ (nj_FClub b).2.1)⟩
theorem nj_ckOrders : nj_CK (nj_ROrders, nj_FOrders, 1) := ⟨fun w hw => nj_T0_in ((by decide +kernel : ∀ w ∈ u_ws nj_ROrders nj_FOrders 1, w ∈ lw_tbl) w hw) ((by decide +kernel : ∀ w ∈ u_ws nj_ROrders nj_FOrders 1, goodWord w = true) w hw), ⟨nj_tOrders, (by decide +kernel : ∀ k, k < 1 → parseFieldDescriptor (nj_FOrders k).2.2.1 = some (nj_tOrders k))⟩, (by decide +kernel : ∀ a, a < 1 → ∀ b, b < 1 → a ≠ b → (nj_FOrders a).2.1 ≠ (nj_FOrders b).2.1)⟩
theorem nj_ckReader : nj_CK (nj_RReader, nj_FReader, 2) := ⟨fun w hw => nj_T0_in ((by decide +kernel : ∀ w ∈ u_ws nj_RReader nj_FReader 2, w ∈ lw_tbl) w hw) ((by decide +kernel : ∀ w ∈ u_ws nj_RReader nj_FReader 2, goodWord w = true) w hw), ⟨nj_tReader, (by decide +kernel : ∀ k, k < 2 → parseFieldDescriptor (nj_FReader k).2.2.1 = some (nj_tReader k))⟩, (by decide +kernel : ∀ a, a < 2 → ∀ b, b < 2 → a ≠ b → (nj_FReader a).2.1 ≠ (nj_FReader b).2.1)⟩
theorem nj_ckRow : nj_CK (nj_RRow, nj_FRow, 2) := ⟨fun w hw => nj_T0_in ((by decide +kernel : ∀ w ∈ u_ws nj_RRow nj_FRow 2, w ∈ lw_tbl) w hw) ((by decide +kernel : ∀ w ∈ u_ws nj_RRow nj_FRow 2, goodWord w = true) w hw), ⟨nj_tRow, (by decide +kernel : ∀ k, k < 2 → parseFieldDescriptor (nj_FRow k).2.2.1 = some (nj_tRow k))⟩, (by decide +kernel : ∀ a, a < 2 → ∀ b, b < 2 → a ≠ b → (nj_FRow a).2.1 ≠ (nj_FRow b).2.1)⟩
theorem nj_ckText : nj_CK (nj_RText, nj_FText, 2) := ⟨fun w hw => nj_T0_in ((by decide +kernel : ∀ w ∈ u_ws nj_RText nj_FText 2, w ∈ lw_tbl) w hw) ((by decide +kernel : ∀ w ∈ u_ws nj_RText nj_FText 2, goodWord w = true) w hw), ⟨nj_tText, (by decide +kernel : ∀ k, k < 2 → parseFieldDescriptor (nj_FText k).2.2.1 = some (nj_tText k))⟩, (by decide +kernel : ∀ a, a < 2 → ∀ b, b < 2 → a ≠ b → (nj_FText a).2.1 ≠ (nj_FText b).2.1)⟩
theorem nj_ckNj : nj_CK (nj_RNj, nj_FNj, 12) := ⟨fun w hw => nj_T0_in ((by decide +kernel : ∀ w ∈ u_ws nj_RNj nj_FNj 12, w ∈ lw_tbl) w hw) ((by decide +kernel : ∀ w ∈ u_ws nj_RNj nj_FNj 12, goodWord w = true) w hw), ⟨nj_tNj, (by decide +kernel : ∀ k, k < 12 → parseFieldDescriptor (nj_FNj k).2.2.1 = some (nj_tNj k))⟩, (by decide +kernel : ∀ a, a < 12 → ∀ b, b < 12 → a ≠ b → (nj_FNj a).2.1 ≠ (nj_FNj b).2.1)⟩
theorem nj_ckMd : nj_CK (nj_RMd, nj_FMd, 23) := ⟨fun w hw => nj_T0_in ((by decide +kernel : ∀ w ∈ u_ws nj_RMd nj_FMd 23, w ∈ lw_tbl) w hw) ((by decide +kernel : ∀ w ∈ u_ws nj_RMd nj_FMd 23, goodWord w = true) w hw), ⟨nj_tMd, (by decide +kernel : ∀ k, k < 23 → parseFieldDescriptor (nj_FMd k).2.2.1 = some (nj_tMd k))⟩, (by decide +kernel : ∀ a, a < 23 → ∀ b, b < 23 → a ≠ b → (nj_FMd a).2.1 ≠ (nj_FMd b).2.1)⟩
theorem nj_cls_ok : ∀ q ∈ nj_cls, nj_CK q := by
  intro q hq
  simp only [nj_cls, List.mem_cons, List.not_mem_nil, or_false] at hq
  rcases hq with rfl | rfl | rfl | rfl | rfl | rfl | rfl
  · exact nj_ckClub
  · exact nj_ckOrders
  · exact nj_ckReader
  · exact nj_ckRow
  · exact nj_ckText
  · exact nj_ckNj
  · exact nj_ckMd
def nj_tys (dT : Nat → ClassId) : List (ClassId × FieldType) := [(dT 0, .int), (dT 1, .long), (dT 2, .byte), (dT 3, .object nj_RRow), (dT 4, .object nj_RText), (dT 5, .object nj_RClub)]
def nj_kl (j : Nat) : Int32 := [109, 112, 103, 116, 102, 115].getD j 0
def nj_kv (j : Nat) : Int32 := [1, 2, 1, 1, 3, 0].getD j 0
def nj_fa (j : Nat) : Int32 := [1, 1, 2, 6, 24, 120, 720].getD j 0
/-- the three static rows, that nobody writes -/
def nj_St (sA : Nat → Nat) (A : Nat → Prop) (U : State) (H : Heap) : Prop :=
  (va_Z "NobodyJoins" "KIND_LETTERS" "[C" (.ref (sA 0)) A U H ∧ va_T .char (sA 0) 6 (fun j => .int (nj_kl j)) A U H) ∧
  (va_Z "NobodyJoins" "KIND_VOTES" "[I" (.ref (sA 1)) A U H ∧ va_T .int (sA 1) 6 (fun j => .int (nj_kv j)) A U H) ∧
  (va_Z "NobodyJoins" "FACTORIALS" "[I" (.ref (sA 2)) A U H ∧ va_T .int (sA 2) 7 (fun j => .int (nj_fa j)) A U H)
theorem nj_St.moved {sA : Nat → Nat} {A : Nat → Prop} {u U : State} {H : Heap} (hvm : u.vm.Alike U.vm) (h : nj_St sA A u H) : nj_St sA A U H :=
  ⟨⟨h.1.1.moved hvm, h.1.2.moved hvm⟩, ⟨h.2.1.1.moved hvm, h.2.1.2.moved hvm⟩, ⟨h.2.2.1.moved hvm, h.2.2.2.moved hvm⟩⟩
theorem nj_St.kept {sA : Nat → Nat} {A : Nat → Prop} {U : State} {H H1 : Heap} (h : nj_St sA A U H) (hq : ∀ a : Nat, a < H.size → ¬ A a → H1[a]? = H[a]?) : nj_St sA A U H1 :=
  ⟨⟨h.1.1.kept hq, h.1.2.kept hq⟩, ⟨h.2.1.1.kept hq, h.2.1.2.kept hq⟩, ⟨h.2.2.1.kept hq, h.2.2.2.kept hq⟩⟩
theorem nj_St.narrow {sA : Nat → Nat} {A B : Nat → Prop} {U : State} {H : Heap} (h : nj_St sA A U H) (hAB : ∀ q, B q → A q) : nj_St sA B U H :=
  ⟨⟨h.1.1.narrow hAB, h.1.2.narrow hAB⟩, ⟨h.2.1.1.narrow hAB, h.2.1.2.narrow hAB⟩, ⟨h.2.2.1.narrow hAB, h.2.2.2.narrow hAB⟩⟩
/-- links of nest mates -/
def nj_Ne (U : State) : Prop := va_Nw (.fieldLinkNest "NobodyJoins$Reader" 70 "NobodyJoins" "KIND_LETTERS" "[C" "NobodyJoins") U ∧ va_Nw (.fieldLinkNest "NobodyJoins$Club" 50 "NobodyJoins" "KIND_VOTES" "[I" "NobodyJoins") U ∧ va_Nw (.fieldLinkNest "NobodyJoins$Sums" 20 "NobodyJoins" "FACTORIALS" "[I" "NobodyJoins") U ∧ va_Nw (.methodLinkNest "NobodyJoins" 23 ⟨"NobodyJoins$Club", "<init>", "()V"⟩ "NobodyJoins") U ∧ va_Nw (.methodLinkNest "NobodyJoins" 37 ⟨"NobodyJoins$Reader", "<init>", "()V"⟩ "NobodyJoins") U ∧ va_Nw (.methodLinkNest "NobodyJoins" 44 ⟨"NobodyJoins$Orders", "<init>", "()V"⟩ "NobodyJoins") U ∧ va_Nw (.methodLinkNest "NobodyJoins" 67 ⟨"NobodyJoins$Row", "<init>", "()V"⟩ "NobodyJoins") U ∧ va_Nw (.methodLinkNest "NobodyJoins" 68 ⟨"NobodyJoins$Text", "<init>", "()V"⟩ "NobodyJoins") U
theorem nj_Ne.warm {s U : State} (hW : s.WarmedH U.vm) (h : nj_Ne s) : nj_Ne U := by
  obtain ⟨h0, h1, h2, h3, h4, h5, h6, h7⟩ := h
  exact ⟨h0.warmF hW, h1.warmF hW, h2.warmF hW, h3.warmM hW, h4.warmM hW, h5.warmM hW, h6.warmM hW, h7.warmM hW⟩
theorem nj_Ne.same {u U : State} (hv : u.vm = U.vm) (h : nj_Ne u) : nj_Ne U := by
  obtain ⟨h0, h1, h2, h3, h4, h5, h6, h7⟩ := h
  exact ⟨h0.same rfl hv, h1.same rfl hv, h2.same rfl hv, h3.same rfl hv, h4.same rfl hv, h5.same rfl hv, h6.same rfl hv, h7.same rfl hv⟩
/-- what every method needs of the machine besides its words -/
def nj_Inv (D : va_G) (dT : Nat → ClassId) (sA : Nat → Nat) (A : Nat → Prop) (U : State) (H : Heap) : Prop := va_K D nj_cls (nj_tys dT) U ∧ nj_Ne U ∧ nj_St sA A U H
abbrev nj_G : Type := (Program × Launch × Env × Room × State × MethodId) × (Array Value × List Frame × Method × Code × (State → Prop)) × (va_G × (Nat → ClassId) × (Nat → Prop) × (Nat → Nat))
def nj_V (G : nj_G) (ad : Nat → Nat) (kc ks pc : Nat) (ls : List (Option Value)) (st : List Value) (hp : List va_E) : Prop :=
  match G with
  | ((p, l, e, R, s, m), (args, below, meth, c, Q), (D, dT, A, sA)) => ∀ (H : Heap) (locs : List Loc) (lm : Array Slot), (∀ j, ad (1000 + j) = sA j) → va_P D nj_cls (nj_pw ad dT hp) H → va_D A (nj_pw ad dT hp) → va_S A s.heap H locs → nj_lm ad c.maxLocals lm ls →
    W p l e R s m args below meth c H locs kc ks Q (F0 m pc lm (st.map (nj_pv ad)))
def nj_C (G : nj_G) (cc : ByteArray) (nL : Nat) (own : String) (rm : Room) : Prop :=
  match G with
  | ((p, l, e, R, s, m), (args, below, meth, c, Q), (D, dT, A, sA)) => p.tables.exec = Jvm.exec ∧ c.code = cc ∧ c.maxLocals = nL ∧ s.vm.findClass own = some m.cls ∧ (∀ w ∈ nj_T0, w.before args s = true) ∧ R = rm ∧ nj_Inv D dT sA A s s.heap ∧ meth.locks = false ∧ ∀ q, s.heap.size ≤ q → A q
-- decode facts, with the next place as a number
def nj_dc (cc : ByteArray) (pc : Nat) (i : Instr) (pc' : Nat) : Prop := ∃ n, decode cc pc = .ok (i, n) ∧ pc + n = pc'
def nj_ic (cc : ByteArray) (pc : Nat) (v : Int32) (pc' : Nat) : Prop := (∃ n, decode cc pc = .ok (.iconst n, 1) ∧ Int32.ofInt n = v ∧ pc + 1 = pc') ∨ (∃ n, decode cc pc = .ok (.bipush n, 2) ∧ (Int8.ofInt n).toInt32 = v ∧ pc + 2 = pc') ∨ (∃ n, decode cc pc = .ok (.sipush n, 3) ∧ (Int16.ofInt n).toInt32 = v ∧ pc + 3 = pc')
def nj_il (cc : ByteArray) (pc i pc' : Nat) : Prop := (∃ k : Fin 4, decode cc pc = .ok (.iload_n k, 1) ∧ (k : Nat) = i ∧ pc + 1 = pc') ∨ (decode cc pc = .ok (.iload i, 2) ∧ pc + 2 = pc')
def nj_ll (cc : ByteArray) (pc i pc' : Nat) : Prop := (∃ k : Fin 4, decode cc pc = .ok (.lload_n k, 1) ∧ (k : Nat) = i ∧ pc + 1 = pc') ∨ (decode cc pc = .ok (.lload i, 2) ∧ pc + 2 = pc')
def nj_al (cc : ByteArray) (pc i pc' : Nat) : Prop := (∃ k : Fin 4, decode cc pc = .ok (.aload_n k, 1) ∧ (k : Nat) = i ∧ pc + 1 = pc') ∨ (decode cc pc = .ok (.aload i, 2) ∧ pc + 2 = pc')
def nj_is (cc : ByteArray) (pc i pc' : Nat) : Prop := (∃ k : Fin 4, decode cc pc = .ok (.istore_n k, 1) ∧ (k : Nat) = i ∧ pc + 1 = pc') ∨ (decode cc pc = .ok (.istore i, 2) ∧ pc + 2 = pc')
def nj_lst (cc : ByteArray) (pc i pc' : Nat) : Prop := (∃ k : Fin 4, decode cc pc = .ok (.lstore_n k, 1) ∧ (k : Nat) = i ∧ pc + 1 = pc') ∨ (decode cc pc = .ok (.lstore i, 2) ∧ pc + 2 = pc')
def nj_as (cc : ByteArray) (pc i pc' : Nat) : Prop := (∃ k : Fin 4, decode cc pc = .ok (.astore_n k, 1) ∧ (k : Nat) = i ∧ pc + 1 = pc') ∨ (decode cc pc = .ok (.astore i, 2) ∧ pc + 2 = pc')
def nj_if (cc : ByteArray) (pc : Nat) (cd : ClassFile.Cond) (tgt pc' : Nat) : Prop := ∃ off : Int, decode cc pc = .ok (.ifCond cd off, 3) ∧ (pc : Int) + off = (tgt : Int) ∧ pc + 3 = pc'
def nj_cm (cc : ByteArray) (pc : Nat) (cd : ClassFile.Cond) (tgt pc' : Nat) : Prop := ∃ off : Int, decode cc pc = .ok (.if_icmp cd off, 3) ∧ (pc : Int) + off = (tgt : Int) ∧ pc + 3 = pc'
def nj_go (cc : ByteArray) (pc tgt : Nat) : Prop := ∃ off : Int, decode cc pc = .ok (.goto off, 3) ∧ (pc : Int) + off = (tgt : Int)
/-- a link of a field: of the class ci the field k -/
def nj_FL (own : String) (idx ci k : Nat) (ty : FieldType) (fin : Bool) : Prop := ∃ q : vw_C, nj_cls[ci]? = some q ∧ k < q.2.2 ∧ Cond.fieldLink own idx (q.2.1 k).1 (q.2.1 k).2.1 (q.2.1 k).2.2.1 ∈ nj_T0 ∧ parseFieldDescriptor (q.2.1 k).2.2.1 = some ty ∧ (q.2.1 k).2.2.2 = fin
section NjRows
variable {G : nj_G} {cc : ByteArray} {nL : Nat} {own : String} {rm : Room} {ad : Nat → Nat} {kc ks pc pc' tgt : Nat} {ls ls' : List (Option Value)} {st : List Value} {hp hp' : List va_E}
theorem vr_ic (C : nj_C G cc nL own rm) {v : Int32} (hd : nj_ic cc pc v pc') (k : nj_V G ad kc ks pc' ls (.int v :: st) hp) : nj_V G ad kc ks pc ls st hp := by
  obtain ⟨⟨p, l, e, R, s, m⟩, ⟨args, below, meth, c, Q⟩, ⟨D, dT, A, sA⟩⟩ := G
  obtain ⟨hx, hb, hml, hown, hts, hR, ⟨hK, hNe, hSt⟩, hlk, hA⟩ := C
  intro H locs lm hsa hP hD hS hL
  rcases hd with ⟨n, h, hv, rfl⟩ | ⟨n, h, hv, rfl⟩ | ⟨n, h, hv, rfl⟩
  · exact lv_iconst hx hb h hv (k H locs lm hsa hP hD hS hL)
  · exact lv_bipush hx hb h hv (k H locs lm hsa hP hD hS hL)
  · exact lv_sipush hx hb h hv (k H locs lm hsa hP hD hS hL)
theorem vr_lc (C : nj_C G cc nL own rm) {n : Fin 2} {v : Int64} (hd : nj_dc cc pc (.lconst n) pc') (h1 : pc + 1 = pc') (hv : Int64.ofNat (n : Nat) = v) (k : nj_V G ad kc ks pc' ls (.long v :: st) hp) : nj_V G ad kc ks pc ls st hp := by
  obtain ⟨⟨p, l, e, R, s, m⟩, ⟨args, below, meth, c, Q⟩, ⟨D, dT, A, sA⟩⟩ := G
  obtain ⟨hx, hb, hml, hown, hts, hR, ⟨hK, hNe, hSt⟩, hlk, hA⟩ := C
  intro H locs lm hsa hP hD hS hL
  obtain ⟨n1, h, h2⟩ := hd
  have e1 : n1 = 1 := by omega
  subst e1
  subst h1
  exact lv_lconst hx hb h hv (k H locs lm hsa hP hD hS hL)
theorem vr_ldc2 (C : nj_C G cc nL own rm) {idx : Nat} {v : Int64} (hd : nj_dc cc pc (.ldc2_w idx) pc') (h1 : pc + 3 = pc') (hw : Cond.constantLong own idx v ∈ nj_T0) (k : nj_V G ad kc ks pc' ls (.long v :: st) hp) : nj_V G ad kc ks pc ls st hp := by
  obtain ⟨⟨p, l, e, R, s, m⟩, ⟨args, below, meth, c, Q⟩, ⟨D, dT, A, sA⟩⟩ := G
  obtain ⟨hx, hb, hml, hown, hts, hR, ⟨hK, hNe, hSt⟩, hlk, hA⟩ := C
  intro H locs lm hsa hP hD hS hL
  obtain ⟨n1, h, h2⟩ := hd
  have e1 : n1 = 3 := by omega
  subst e1
  subst h1
  exact lv_ldc2 hx hb hown (hts _ hw) h (k H locs lm hsa hP hD hS hL)
theorem vr_ldcw (C : nj_C G cc nL own rm) {idx : Nat} {v : Int32} (hd : nj_dc cc pc (.ldc_w idx) pc') (h1 : pc + 3 = pc') (hw : Cond.constant own idx v ∈ nj_T0) (k : nj_V G ad kc ks pc' ls (.int v :: st) hp) : nj_V G ad kc ks pc ls st hp := by
  obtain ⟨⟨p, l, e, R, s, m⟩, ⟨args, below, meth, c, Q⟩, ⟨D, dT, A, sA⟩⟩ := G
  obtain ⟨hx, hb, hml, hown, hts, hR, ⟨hK, hNe, hSt⟩, hlk, hA⟩ := C
  intro H locs lm hsa hP hD hS hL
  obtain ⟨n1, h, h2⟩ := hd
  have e1 : n1 = 3 := by omega
  subst e1
  subst h1
  exact lv_ldcw hx hb hown (hts _ hw) h (k H locs lm hsa hP hD hS hL)
theorem vr_il (C : nj_C G cc nL own rm) {i : Nat} {x : Int32} (hd : nj_il cc pc i pc') (hl : ls[i]? = some (some (.int x))) (k : nj_V G ad kc ks pc' ls (.int x :: st) hp) : nj_V G ad kc ks pc ls st hp := by
  obtain ⟨⟨p, l, e, R, s, m⟩, ⟨args, below, meth, c, Q⟩, ⟨D, dT, A, sA⟩⟩ := G
  obtain ⟨hx, hb, hml, hown, hts, hR, ⟨hK, hNe, hSt⟩, hlk, hA⟩ := C
  intro H locs lm hsa hP hD hS hL
  rcases hd with ⟨n, h, hv, rfl⟩ | ⟨h, rfl⟩
  · exact lv_iload_n hx hb h hv (hL.2.2 _ _ hl) (k H locs lm hsa hP hD hS hL)
  · exact lv_iload hx hb h (hL.2.2 _ _ hl) (k H locs lm hsa hP hD hS hL)
theorem vr_ll (C : nj_C G cc nL own rm) {i : Nat} {x : Int64} (hd : nj_ll cc pc i pc') (hl : ls[i]? = some (some (.long x))) (k : nj_V G ad kc ks pc' ls (.long x :: st) hp) : nj_V G ad kc ks pc ls st hp := by
  obtain ⟨⟨p, l, e, R, s, m⟩, ⟨args, below, meth, c, Q⟩, ⟨D, dT, A, sA⟩⟩ := G
  obtain ⟨hx, hb, hml, hown, hts, hR, ⟨hK, hNe, hSt⟩, hlk, hA⟩ := C
  intro H locs lm hsa hP hD hS hL
  rcases hd with ⟨n, h, hv, rfl⟩ | ⟨h, rfl⟩
  · exact lv_lload_n hx hb h hv (hL.2.2 _ _ hl) (k H locs lm hsa hP hD hS hL)
  · exact lv_lload hx hb h (hL.2.2 _ _ hl) (k H locs lm hsa hP hD hS hL)
theorem vr_al (C : nj_C G cc nL own rm) {i : Nat} {x : Nat} (hd : nj_al cc pc i pc') (hl : ls[i]? = some (some (.ref x))) (k : nj_V G ad kc ks pc' ls (.ref x :: st) hp) : nj_V G ad kc ks pc ls st hp := by
  obtain ⟨⟨p, l, e, R, s, m⟩, ⟨args, below, meth, c, Q⟩, ⟨D, dT, A, sA⟩⟩ := G
  obtain ⟨hx, hb, hml, hown, hts, hR, ⟨hK, hNe, hSt⟩, hlk, hA⟩ := C
  intro H locs lm hsa hP hD hS hL
  rcases hd with ⟨n, h, hv, rfl⟩ | ⟨h, rfl⟩
  · exact lv_aload_n hx hb h hv (hL.2.2 _ _ hl) (k H locs lm hsa hP hD hS hL)
  · exact lv_aload hx hb h (hL.2.2 _ _ hl) (k H locs lm hsa hP hD hS hL)
theorem vr_is (C : nj_C G cc nL own rm) {i : Nat} {x : Int32} (hd : nj_is cc pc i pc') (hn : Nat.ble (i + 1) nL = true) (hl : nj_s1 ls i (.int x) = ls') (k : nj_V G ad kc ks pc' ls' st hp) : nj_V G ad kc ks pc ls (.int x :: st) hp := by
  obtain ⟨⟨p, l, e, R, s, m⟩, ⟨args, below, meth, c, Q⟩, ⟨D, dT, A, sA⟩⟩ := G
  obtain ⟨hx, hb, hml, hown, hts, hR, ⟨hK, hNe, hSt⟩, hlk, hA⟩ := C
  intro H locs lm hsa hP hD hS hL
  have hn := Nat.le_of_ble_eq_true hn
  subst hl
  rcases hd with ⟨n, h, hv, rfl⟩ | ⟨h, rfl⟩
  · exact lv_istore_n hx hb h hv (nj_lm_has hL) (by omega) rfl (fun lm2 h2 => k H locs lm2 hsa hP hD hS (nj_lm_s1 (v := .int x) h2))
  · exact lv_istore hx hb h (nj_lm_has hL) (by omega) rfl (fun lm2 h2 => k H locs lm2 hsa hP hD hS (nj_lm_s1 (v := .int x) h2))
theorem vr_lst (C : nj_C G cc nL own rm) {i : Nat} {x : Int64} (hd : nj_lst cc pc i pc') (hn : Nat.ble (i + 2) nL = true) (hl : nj_s2 ls i (.long x) = ls') (k : nj_V G ad kc ks pc' ls' st hp) : nj_V G ad kc ks pc ls (.long x :: st) hp := by
  obtain ⟨⟨p, l, e, R, s, m⟩, ⟨args, below, meth, c, Q⟩, ⟨D, dT, A, sA⟩⟩ := G
  obtain ⟨hx, hb, hml, hown, hts, hR, ⟨hK, hNe, hSt⟩, hlk, hA⟩ := C
  intro H locs lm hsa hP hD hS hL
  have hn := Nat.le_of_ble_eq_true hn
  subst hl
  rcases hd with ⟨n, h, hv, rfl⟩ | ⟨h, rfl⟩
  · exact lv_lstore_n hx hb h hv (nj_lm_has hL) (by omega) rfl (fun lm2 h2 => k H locs lm2 hsa hP hD hS (nj_lm_s2 (v := .long x) h2))
  · exact lv_lstore hx hb h (nj_lm_has hL) (by omega) rfl (fun lm2 h2 => k H locs lm2 hsa hP hD hS (nj_lm_s2 (v := .long x) h2))
theorem vr_as (C : nj_C G cc nL own rm) {i : Nat} {x : Nat} (hd : nj_as cc pc i pc') (hn : Nat.ble (i + 1) nL = true) (hl : nj_s1 ls i (.ref x) = ls') (k : nj_V G ad kc ks pc' ls' st hp) : nj_V G ad kc ks pc ls (.ref x :: st) hp := by
  obtain ⟨⟨p, l, e, R, s, m⟩, ⟨args, below, meth, c, Q⟩, ⟨D, dT, A, sA⟩⟩ := G
  obtain ⟨hx, hb, hml, hown, hts, hR, ⟨hK, hNe, hSt⟩, hlk, hA⟩ := C
  intro H locs lm hsa hP hD hS hL
  have hn := Nat.le_of_ble_eq_true hn
  subst hl
  rcases hd with ⟨n, h, hv, rfl⟩ | ⟨h, rfl⟩
  · exact lv_astore_n hx hb h hv (nj_lm_has hL) (by omega) rfl (fun lm2 h2 => k H locs lm2 hsa hP hD hS (nj_lm_s1 (v := .ref x) h2))
  · exact lv_astore hx hb h (nj_lm_has hL) (by omega) rfl (fun lm2 h2 => k H locs lm2 hsa hP hD hS (nj_lm_s1 (v := .ref x) h2))
theorem vr_inc (C : nj_C G cc nL own rm) {i : Nat} {n : Int} {x v : Int32} (hd : nj_dc cc pc (.iinc i n) pc') (h1 : pc + 3 = pc') (hn : Nat.ble (i + 1) nL = true) (hg : ls[i]? = some (some (.int x))) (hv : x + Int32.ofInt n = v) (hl : nj_s1 ls i (.int v) = ls') (k : nj_V G ad kc ks pc' ls' st hp) : nj_V G ad kc ks pc ls st hp := by
  obtain ⟨⟨p, l, e, R, s, m⟩, ⟨args, below, meth, c, Q⟩, ⟨D, dT, A, sA⟩⟩ := G
  obtain ⟨hx, hb, hml, hown, hts, hR, ⟨hK, hNe, hSt⟩, hlk, hA⟩ := C
  intro H locs lm hsa hP hD hS hL
  have hn := Nat.le_of_ble_eq_true hn
  subst hl
  obtain ⟨n1, h, h2⟩ := hd
  have e1 : n1 = 3 := by omega
  subst e1
  subst h1
  obtain ⟨k0, hk0⟩ := List.getElem?_of_mem (nj_pl_in (ad := ad) hg)
  exact lv_iinc hx hb h (nj_lm_has hL) hk0 hv (by omega) rfl (fun lm2 h2 => k H locs lm2 hsa hP hD hS (nj_lm_s1 (v := .int v) h2))
def nj_wk : List (Option Value) → List Nat → List (Option Value)
  | ls, [] => ls
  | ls, i :: r => nj_wk (ls.set i none) r
theorem nj_wk_of : ∀ (r : List Nat) (ls : List (Option Value)) (j : Nat) (v : Value), (nj_wk ls r)[j]? = some (some v) → ls[j]? = some (some v)
  | [], ls, j, v, h => h
  | i :: r, ls, j, v, h => by
    have h1 := nj_wk_of r (ls.set i none) j v h
    rw [List.getElem?_set] at h1
    split at h1
    · split at h1 <;> cases h1
    · exact h1
theorem vr_wk (r : List Nat) (h : nj_wk ls r = ls') (k : nj_V G ad kc ks pc ls' st hp) : nj_V G ad kc ks pc ls st hp := by
  obtain ⟨⟨p, l, e, R, s, m⟩, ⟨args, below, meth, c, Q⟩, ⟨D, dT, A, sA⟩⟩ := G
  subst h
  intro H locs lm hsa hP hD hS hL
  exact k H locs lm hsa hP hD hS ⟨hL.1, hL.2.1, fun j v hv => hL.2.2 j v (nj_wk_of r ls j v hv)⟩
theorem vr_iadd (C : nj_C G cc nL own rm) {x y : Int32} (hd : nj_dc cc pc .iadd pc') (h1 : pc + 1 = pc')  (k : nj_V G ad kc ks pc' ls (.int (x + y) :: st) hp) : nj_V G ad kc ks pc ls (.int y :: .int x :: st) hp := by
  obtain ⟨⟨p, l, e, R, s, m⟩, ⟨args, below, meth, c, Q⟩, ⟨D, dT, A, sA⟩⟩ := G
  obtain ⟨hx, hb, hml, hown, hts, hR, ⟨hK, hNe, hSt⟩, hlk, hA⟩ := C
  intro H locs lm hsa hP hD hS hL
  obtain ⟨n1, h, h2⟩ := hd
  have e1 : n1 = 1 := by omega
  subst e1
  subst h1
  exact lv_iadd hx hb h (k H locs lm hsa hP hD hS hL)
theorem vr_isub (C : nj_C G cc nL own rm) {x y : Int32} (hd : nj_dc cc pc .isub pc') (h1 : pc + 1 = pc')  (k : nj_V G ad kc ks pc' ls (.int (x - y) :: st) hp) : nj_V G ad kc ks pc ls (.int y :: .int x :: st) hp := by
  obtain ⟨⟨p, l, e, R, s, m⟩, ⟨args, below, meth, c, Q⟩, ⟨D, dT, A, sA⟩⟩ := G
  obtain ⟨hx, hb, hml, hown, hts, hR, ⟨hK, hNe, hSt⟩, hlk, hA⟩ := C
  intro H locs lm hsa hP hD hS hL
  obtain ⟨n1, h, h2⟩ := hd
  have e1 : n1 = 1 := by omega
  subst e1
  subst h1
  exact lv_isub hx hb h (k H locs lm hsa hP hD hS hL)
theorem vr_imul (C : nj_C G cc nL own rm) {x y : Int32} (hd : nj_dc cc pc .imul pc') (h1 : pc + 1 = pc')  (k : nj_V G ad kc ks pc' ls (.int (x * y) :: st) hp) : nj_V G ad kc ks pc ls (.int y :: .int x :: st) hp := by
  obtain ⟨⟨p, l, e, R, s, m⟩, ⟨args, below, meth, c, Q⟩, ⟨D, dT, A, sA⟩⟩ := G
  obtain ⟨hx, hb, hml, hown, hts, hR, ⟨hK, hNe, hSt⟩, hlk, hA⟩ := C
  intro H locs lm hsa hP hD hS hL
  obtain ⟨n1, h, h2⟩ := hd
  have e1 : n1 = 1 := by omega
  subst e1
  subst h1
  exact lv_imul hx hb h (k H locs lm hsa hP hD hS hL)
theorem vr_iand (C : nj_C G cc nL own rm) {x y : Int32} (hd : nj_dc cc pc .iand pc') (h1 : pc + 1 = pc')  (k : nj_V G ad kc ks pc' ls (.int (x &&& y) :: st) hp) : nj_V G ad kc ks pc ls (.int y :: .int x :: st) hp := by
  obtain ⟨⟨p, l, e, R, s, m⟩, ⟨args, below, meth, c, Q⟩, ⟨D, dT, A, sA⟩⟩ := G
  obtain ⟨hx, hb, hml, hown, hts, hR, ⟨hK, hNe, hSt⟩, hlk, hA⟩ := C
  intro H locs lm hsa hP hD hS hL
  obtain ⟨n1, h, h2⟩ := hd
  have e1 : n1 = 1 := by omega
  subst e1
  subst h1
  exact lv_iand hx hb h (k H locs lm hsa hP hD hS hL)
theorem vr_ior (C : nj_C G cc nL own rm) {x y : Int32} (hd : nj_dc cc pc .ior pc') (h1 : pc + 1 = pc')  (k : nj_V G ad kc ks pc' ls (.int (x ||| y) :: st) hp) : nj_V G ad kc ks pc ls (.int y :: .int x :: st) hp := by
  obtain ⟨⟨p, l, e, R, s, m⟩, ⟨args, below, meth, c, Q⟩, ⟨D, dT, A, sA⟩⟩ := G
  obtain ⟨hx, hb, hml, hown, hts, hR, ⟨hK, hNe, hSt⟩, hlk, hA⟩ := C
  intro H locs lm hsa hP hD hS hL
  obtain ⟨n1, h, h2⟩ := hd
  have e1 : n1 = 1 := by omega
  subst e1
  subst h1
  exact lv_ior hx hb h (k H locs lm hsa hP hD hS hL)
theorem vr_ixor (C : nj_C G cc nL own rm) {x y : Int32} (hd : nj_dc cc pc .ixor pc') (h1 : pc + 1 = pc')  (k : nj_V G ad kc ks pc' ls (.int (x ^^^ y) :: st) hp) : nj_V G ad kc ks pc ls (.int y :: .int x :: st) hp := by
  obtain ⟨⟨p, l, e, R, s, m⟩, ⟨args, below, meth, c, Q⟩, ⟨D, dT, A, sA⟩⟩ := G
  obtain ⟨hx, hb, hml, hown, hts, hR, ⟨hK, hNe, hSt⟩, hlk, hA⟩ := C
  intro H locs lm hsa hP hD hS hL
  obtain ⟨n1, h, h2⟩ := hd
  have e1 : n1 = 1 := by omega
  subst e1
  subst h1
  exact lv_ixor hx hb h (k H locs lm hsa hP hD hS hL)
theorem vr_ishl (C : nj_C G cc nL own rm) {x y : Int32} (hd : nj_dc cc pc .ishl pc') (h1 : pc + 1 = pc')  (k : nj_V G ad kc ks pc' ls (.int (x <<< (y &&& 31)) :: st) hp) : nj_V G ad kc ks pc ls (.int y :: .int x :: st) hp := by
  obtain ⟨⟨p, l, e, R, s, m⟩, ⟨args, below, meth, c, Q⟩, ⟨D, dT, A, sA⟩⟩ := G
  obtain ⟨hx, hb, hml, hown, hts, hR, ⟨hK, hNe, hSt⟩, hlk, hA⟩ := C
  intro H locs lm hsa hP hD hS hL
  obtain ⟨n1, h, h2⟩ := hd
  have e1 : n1 = 1 := by omega
  subst e1
  subst h1
  exact lv_ishl hx hb h (k H locs lm hsa hP hD hS hL)
theorem vr_ishr (C : nj_C G cc nL own rm) {x y : Int32} (hd : nj_dc cc pc .ishr pc') (h1 : pc + 1 = pc')  (k : nj_V G ad kc ks pc' ls (.int (x >>> (y &&& 31)) :: st) hp) : nj_V G ad kc ks pc ls (.int y :: .int x :: st) hp := by
  obtain ⟨⟨p, l, e, R, s, m⟩, ⟨args, below, meth, c, Q⟩, ⟨D, dT, A, sA⟩⟩ := G
  obtain ⟨hx, hb, hml, hown, hts, hR, ⟨hK, hNe, hSt⟩, hlk, hA⟩ := C
  intro H locs lm hsa hP hD hS hL
  obtain ⟨n1, h, h2⟩ := hd
  have e1 : n1 = 1 := by omega
  subst e1
  subst h1
  exact lv_ishr hx hb h (k H locs lm hsa hP hD hS hL)
theorem vr_idiv (C : nj_C G cc nL own rm) {x y : Int32} (hd : nj_dc cc pc .idiv pc') (h1 : pc + 1 = pc') (hne : ¬ y = 0) (k : nj_V G ad kc ks pc' ls (.int (x / y) :: st) hp) : nj_V G ad kc ks pc ls (.int y :: .int x :: st) hp := by
  obtain ⟨⟨p, l, e, R, s, m⟩, ⟨args, below, meth, c, Q⟩, ⟨D, dT, A, sA⟩⟩ := G
  obtain ⟨hx, hb, hml, hown, hts, hR, ⟨hK, hNe, hSt⟩, hlk, hA⟩ := C
  intro H locs lm hsa hP hD hS hL
  obtain ⟨n1, h, h2⟩ := hd
  have e1 : n1 = 1 := by omega
  subst e1
  subst h1
  exact lv_idiv hx hb h hne (k H locs lm hsa hP hD hS hL)
theorem vr_irem (C : nj_C G cc nL own rm) {x y : Int32} (hd : nj_dc cc pc .irem pc') (h1 : pc + 1 = pc') (hne : ¬ y = 0) (k : nj_V G ad kc ks pc' ls (.int (x - x / y * y) :: st) hp) : nj_V G ad kc ks pc ls (.int y :: .int x :: st) hp := by
  obtain ⟨⟨p, l, e, R, s, m⟩, ⟨args, below, meth, c, Q⟩, ⟨D, dT, A, sA⟩⟩ := G
  obtain ⟨hx, hb, hml, hown, hts, hR, ⟨hK, hNe, hSt⟩, hlk, hA⟩ := C
  intro H locs lm hsa hP hD hS hL
  obtain ⟨n1, h, h2⟩ := hd
  have e1 : n1 = 1 := by omega
  subst e1
  subst h1
  exact lv_irem hx hb h hne (k H locs lm hsa hP hD hS hL)
theorem vr_ineg (C : nj_C G cc nL own rm) {x : Int32} (hd : nj_dc cc pc .ineg pc') (h1 : pc + 1 = pc')  (k : nj_V G ad kc ks pc' ls (.int (-x) :: st) hp) : nj_V G ad kc ks pc ls (.int x :: st) hp := by
  obtain ⟨⟨p, l, e, R, s, m⟩, ⟨args, below, meth, c, Q⟩, ⟨D, dT, A, sA⟩⟩ := G
  obtain ⟨hx, hb, hml, hown, hts, hR, ⟨hK, hNe, hSt⟩, hlk, hA⟩ := C
  intro H locs lm hsa hP hD hS hL
  obtain ⟨n1, h, h2⟩ := hd
  have e1 : n1 = 1 := by omega
  subst e1
  subst h1
  exact lv_ineg hx hb h (k H locs lm hsa hP hD hS hL)
theorem vr_iushr (C : nj_C G cc nL own rm) {x y : Int32} (hd : nj_dc cc pc .iushr pc') (h1 : pc + 1 = pc')  (k : nj_V G ad kc ks pc' ls (.int (x.toUInt32 >>> (y.toUInt32 &&& Int32.toUInt32 31)).toInt32 :: st) hp) : nj_V G ad kc ks pc ls (.int y :: .int x :: st) hp := by
  obtain ⟨⟨p, l, e, R, s, m⟩, ⟨args, below, meth, c, Q⟩, ⟨D, dT, A, sA⟩⟩ := G
  obtain ⟨hx, hb, hml, hown, hts, hR, ⟨hK, hNe, hSt⟩, hlk, hA⟩ := C
  intro H locs lm hsa hP hD hS hL
  obtain ⟨n1, h, h2⟩ := hd
  have e1 : n1 = 1 := by omega
  subst e1
  subst h1
  exact lv_iushr hx hb h rfl (k H locs lm hsa hP hD hS hL)
theorem vr_ladd (C : nj_C G cc nL own rm) {x y : Int64} (hd : nj_dc cc pc .ladd pc') (h1 : pc + 1 = pc')  (k : nj_V G ad kc ks pc' ls (.long (x + y) :: st) hp) : nj_V G ad kc ks pc ls (.long y :: .long x :: st) hp := by
  obtain ⟨⟨p, l, e, R, s, m⟩, ⟨args, below, meth, c, Q⟩, ⟨D, dT, A, sA⟩⟩ := G
  obtain ⟨hx, hb, hml, hown, hts, hR, ⟨hK, hNe, hSt⟩, hlk, hA⟩ := C
  intro H locs lm hsa hP hD hS hL
  obtain ⟨n1, h, h2⟩ := hd
  have e1 : n1 = 1 := by omega
  subst e1
  subst h1
  exact lv_ladd hx hb h (k H locs lm hsa hP hD hS hL)
theorem vr_lsub (C : nj_C G cc nL own rm) {x y : Int64} (hd : nj_dc cc pc .lsub pc') (h1 : pc + 1 = pc')  (k : nj_V G ad kc ks pc' ls (.long (x - y) :: st) hp) : nj_V G ad kc ks pc ls (.long y :: .long x :: st) hp := by
  obtain ⟨⟨p, l, e, R, s, m⟩, ⟨args, below, meth, c, Q⟩, ⟨D, dT, A, sA⟩⟩ := G
  obtain ⟨hx, hb, hml, hown, hts, hR, ⟨hK, hNe, hSt⟩, hlk, hA⟩ := C
  intro H locs lm hsa hP hD hS hL
  obtain ⟨n1, h, h2⟩ := hd
  have e1 : n1 = 1 := by omega
  subst e1
  subst h1
  exact lv_lsub hx hb h (k H locs lm hsa hP hD hS hL)
theorem vr_lmul (C : nj_C G cc nL own rm) {x y : Int64} (hd : nj_dc cc pc .lmul pc') (h1 : pc + 1 = pc')  (k : nj_V G ad kc ks pc' ls (.long (x * y) :: st) hp) : nj_V G ad kc ks pc ls (.long y :: .long x :: st) hp := by
  obtain ⟨⟨p, l, e, R, s, m⟩, ⟨args, below, meth, c, Q⟩, ⟨D, dT, A, sA⟩⟩ := G
  obtain ⟨hx, hb, hml, hown, hts, hR, ⟨hK, hNe, hSt⟩, hlk, hA⟩ := C
  intro H locs lm hsa hP hD hS hL
  obtain ⟨n1, h, h2⟩ := hd
  have e1 : n1 = 1 := by omega
  subst e1
  subst h1
  exact lv_lmul hx hb h (k H locs lm hsa hP hD hS hL)
theorem vr_ldiv (C : nj_C G cc nL own rm) {x y : Int64} (hd : nj_dc cc pc .ldiv pc') (h1 : pc + 1 = pc') (hne : ¬ y = 0) (k : nj_V G ad kc ks pc' ls (.long (x / y) :: st) hp) : nj_V G ad kc ks pc ls (.long y :: .long x :: st) hp := by
  obtain ⟨⟨p, l, e, R, s, m⟩, ⟨args, below, meth, c, Q⟩, ⟨D, dT, A, sA⟩⟩ := G
  obtain ⟨hx, hb, hml, hown, hts, hR, ⟨hK, hNe, hSt⟩, hlk, hA⟩ := C
  intro H locs lm hsa hP hD hS hL
  obtain ⟨n1, h, h2⟩ := hd
  have e1 : n1 = 1 := by omega
  subst e1
  subst h1
  exact lv_ldiv hx hb h hne (k H locs lm hsa hP hD hS hL)
theorem vr_lrem (C : nj_C G cc nL own rm) {x y : Int64} (hd : nj_dc cc pc .lrem pc') (h1 : pc + 1 = pc') (hne : ¬ y = 0) (k : nj_V G ad kc ks pc' ls (.long (x - x / y * y) :: st) hp) : nj_V G ad kc ks pc ls (.long y :: .long x :: st) hp := by
  obtain ⟨⟨p, l, e, R, s, m⟩, ⟨args, below, meth, c, Q⟩, ⟨D, dT, A, sA⟩⟩ := G
  obtain ⟨hx, hb, hml, hown, hts, hR, ⟨hK, hNe, hSt⟩, hlk, hA⟩ := C
  intro H locs lm hsa hP hD hS hL
  obtain ⟨n1, h, h2⟩ := hd
  have e1 : n1 = 1 := by omega
  subst e1
  subst h1
  exact lv_lrem hx hb h hne (k H locs lm hsa hP hD hS hL)
theorem vr_i2l (C : nj_C G cc nL own rm) {x : Int32} (hd : nj_dc cc pc .i2l pc') (h1 : pc + 1 = pc')  (k : nj_V G ad kc ks pc' ls (.long x.toInt64 :: st) hp) : nj_V G ad kc ks pc ls (.int x :: st) hp := by
  obtain ⟨⟨p, l, e, R, s, m⟩, ⟨args, below, meth, c, Q⟩, ⟨D, dT, A, sA⟩⟩ := G
  obtain ⟨hx, hb, hml, hown, hts, hR, ⟨hK, hNe, hSt⟩, hlk, hA⟩ := C
  intro H locs lm hsa hP hD hS hL
  obtain ⟨n1, h, h2⟩ := hd
  have e1 : n1 = 1 := by omega
  subst e1
  subst h1
  exact lv_i2l hx hb h rfl (k H locs lm hsa hP hD hS hL)
theorem vr_l2i (C : nj_C G cc nL own rm) {x : Int64} (hd : nj_dc cc pc .l2i pc') (h1 : pc + 1 = pc')  (k : nj_V G ad kc ks pc' ls (.int x.toInt32 :: st) hp) : nj_V G ad kc ks pc ls (.long x :: st) hp := by
  obtain ⟨⟨p, l, e, R, s, m⟩, ⟨args, below, meth, c, Q⟩, ⟨D, dT, A, sA⟩⟩ := G
  obtain ⟨hx, hb, hml, hown, hts, hR, ⟨hK, hNe, hSt⟩, hlk, hA⟩ := C
  intro H locs lm hsa hP hD hS hL
  obtain ⟨n1, h, h2⟩ := hd
  have e1 : n1 = 1 := by omega
  subst e1
  subst h1
  exact lv_l2i hx hb h rfl (k H locs lm hsa hP hD hS hL)
theorem vr_i2b (C : nj_C G cc nL own rm) {x : Int32} (hd : nj_dc cc pc .i2b pc') (h1 : pc + 1 = pc')  (k : nj_V G ad kc ks pc' ls (.int x.toInt8.toInt32 :: st) hp) : nj_V G ad kc ks pc ls (.int x :: st) hp := by
  obtain ⟨⟨p, l, e, R, s, m⟩, ⟨args, below, meth, c, Q⟩, ⟨D, dT, A, sA⟩⟩ := G
  obtain ⟨hx, hb, hml, hown, hts, hR, ⟨hK, hNe, hSt⟩, hlk, hA⟩ := C
  intro H locs lm hsa hP hD hS hL
  obtain ⟨n1, h, h2⟩ := hd
  have e1 : n1 = 1 := by omega
  subst e1
  subst h1
  exact lv_i2b hx hb h rfl (k H locs lm hsa hP hD hS hL)
theorem vr_lcmp (C : nj_C G cc nL own rm) {x y : Int64} (hd : nj_dc cc pc .lcmp pc') (h1 : pc + 1 = pc') (k : nj_V G ad kc ks pc' ls (.int (lg_cmp x y) :: st) hp) : nj_V G ad kc ks pc ls (.long y :: .long x :: st) hp := by
  obtain ⟨⟨p, l, e, R, s, m⟩, ⟨args, below, meth, c, Q⟩, ⟨D, dT, A, sA⟩⟩ := G
  obtain ⟨hx, hb, hml, hown, hts, hR, ⟨hK, hNe, hSt⟩, hlk, hA⟩ := C
  intro H locs lm hsa hP hD hS hL
  obtain ⟨n1, h, h2⟩ := hd
  have e1 : n1 = 1 := by omega
  subst e1
  subst h1
  exact W.lcmp hx hb h (k H locs lm hsa hP hD hS hL)
theorem vr_dup (C : nj_C G cc nL own rm) {v : Value} (hd : nj_dc cc pc .dup pc') (h1 : pc + 1 = pc') (hc : v.category = 1) (k : nj_V G ad kc ks pc' ls (v :: v :: st) hp) : nj_V G ad kc ks pc ls (v :: st) hp := by
  obtain ⟨⟨p, l, e, R, s, m⟩, ⟨args, below, meth, c, Q⟩, ⟨D, dT, A, sA⟩⟩ := G
  obtain ⟨hx, hb, hml, hown, hts, hR, ⟨hK, hNe, hSt⟩, hlk, hA⟩ := C
  intro H locs lm hsa hP hD hS hL
  obtain ⟨n1, h, h2⟩ := hd
  have e1 : n1 = 1 := by omega
  subst e1
  subst h1
  exact lv_dup hx hb h (by rw [nj_cat]; exact hc) (k H locs lm hsa hP hD hS hL)
theorem vr_pop (C : nj_C G cc nL own rm) {v : Value} (hd : nj_dc cc pc .pop pc') (h1 : pc + 1 = pc') (hc : v.category = 1) (k : nj_V G ad kc ks pc' ls st hp) : nj_V G ad kc ks pc ls (v :: st) hp := by
  obtain ⟨⟨p, l, e, R, s, m⟩, ⟨args, below, meth, c, Q⟩, ⟨D, dT, A, sA⟩⟩ := G
  obtain ⟨hx, hb, hml, hown, hts, hR, ⟨hK, hNe, hSt⟩, hlk, hA⟩ := C
  intro H locs lm hsa hP hD hS hL
  obtain ⟨n1, h, h2⟩ := hd
  have e1 : n1 = 1 := by omega
  subst e1
  subst h1
  exact lv_pop hx hb h (by rw [nj_cat]; exact hc) (k H locs lm hsa hP hD hS hL)
theorem vr_dup2 (C : nj_C G cc nL own rm) {v w : Value} (hd : nj_dc cc pc .dup2 pc') (h1 : pc + 1 = pc') (hc : v.category = 1) (hc2 : w.category = 1) (k : nj_V G ad kc ks pc' ls (v :: w :: v :: w :: st) hp) : nj_V G ad kc ks pc ls (v :: w :: st) hp := by
  obtain ⟨⟨p, l, e, R, s, m⟩, ⟨args, below, meth, c, Q⟩, ⟨D, dT, A, sA⟩⟩ := G
  obtain ⟨hx, hb, hml, hown, hts, hR, ⟨hK, hNe, hSt⟩, hlk, hA⟩ := C
  intro H locs lm hsa hP hD hS hL
  obtain ⟨n1, h, h2⟩ := hd
  have e1 : n1 = 1 := by omega
  subst e1
  subst h1
  exact lv_dup2_11 hx hb h (by rw [nj_cat]; exact hc) (by rw [nj_cat]; exact hc2) (k H locs lm hsa hP hD hS hL)
theorem vr_if_eq (C : nj_C G cc nL own rm) {x : Int32} (hd : nj_if cc pc .eq tgt pc') (kt : x = 0 → nj_V G ad kc ks tgt ls st hp) (kf : ¬ x = 0 → nj_V G ad kc ks pc' ls st hp) : nj_V G ad kc ks pc ls (.int x :: st) hp := by
  obtain ⟨⟨p, l, e, R, s, m⟩, ⟨args, below, meth, c, Q⟩, ⟨D, dT, A, sA⟩⟩ := G
  obtain ⟨hx, hb, hml, hown, hts, hR, ⟨hK, hNe, hSt⟩, hlk, hA⟩ := C
  intro H locs lm hsa hP hD hS hL
  obtain ⟨off, h, ht, rfl⟩ := hd
  exact lv_if_eq hx hb h ht (fun q => kt q H locs lm hsa hP hD hS hL) (fun q => kf q H locs lm hsa hP hD hS hL)
theorem vr_cm_eq (C : nj_C G cc nL own rm) {x y : Int32} (hd : nj_cm cc pc .eq tgt pc') (kt : x = y → nj_V G ad kc ks tgt ls st hp) (kf : ¬ x = y → nj_V G ad kc ks pc' ls st hp) : nj_V G ad kc ks pc ls (.int y :: .int x :: st) hp := by
  obtain ⟨⟨p, l, e, R, s, m⟩, ⟨args, below, meth, c, Q⟩, ⟨D, dT, A, sA⟩⟩ := G
  obtain ⟨hx, hb, hml, hown, hts, hR, ⟨hK, hNe, hSt⟩, hlk, hA⟩ := C
  intro H locs lm hsa hP hD hS hL
  obtain ⟨off, h, ht, rfl⟩ := hd
  exact lv_icmp_eq hx hb h ht (fun q => kt q H locs lm hsa hP hD hS hL) (fun q => kf q H locs lm hsa hP hD hS hL)
theorem vr_if_ne (C : nj_C G cc nL own rm) {x : Int32} (hd : nj_if cc pc .ne tgt pc') (kt : ¬ x = 0 → nj_V G ad kc ks tgt ls st hp) (kf : x = 0 → nj_V G ad kc ks pc' ls st hp) : nj_V G ad kc ks pc ls (.int x :: st) hp := by
  obtain ⟨⟨p, l, e, R, s, m⟩, ⟨args, below, meth, c, Q⟩, ⟨D, dT, A, sA⟩⟩ := G
  obtain ⟨hx, hb, hml, hown, hts, hR, ⟨hK, hNe, hSt⟩, hlk, hA⟩ := C
  intro H locs lm hsa hP hD hS hL
  obtain ⟨off, h, ht, rfl⟩ := hd
  exact lv_if_ne hx hb h ht (fun q => kt q H locs lm hsa hP hD hS hL) (fun q => kf q H locs lm hsa hP hD hS hL)
theorem vr_cm_ne (C : nj_C G cc nL own rm) {x y : Int32} (hd : nj_cm cc pc .ne tgt pc') (kt : ¬ x = y → nj_V G ad kc ks tgt ls st hp) (kf : x = y → nj_V G ad kc ks pc' ls st hp) : nj_V G ad kc ks pc ls (.int y :: .int x :: st) hp := by
  obtain ⟨⟨p, l, e, R, s, m⟩, ⟨args, below, meth, c, Q⟩, ⟨D, dT, A, sA⟩⟩ := G
  obtain ⟨hx, hb, hml, hown, hts, hR, ⟨hK, hNe, hSt⟩, hlk, hA⟩ := C
  intro H locs lm hsa hP hD hS hL
  obtain ⟨off, h, ht, rfl⟩ := hd
  exact lv_icmp_ne hx hb h ht (fun q => kt q H locs lm hsa hP hD hS hL) (fun q => kf q H locs lm hsa hP hD hS hL)
theorem vr_if_lt (C : nj_C G cc nL own rm) {x : Int32} (hd : nj_if cc pc .lt tgt pc') (kt : x < 0 → nj_V G ad kc ks tgt ls st hp) (kf : ¬ x < 0 → nj_V G ad kc ks pc' ls st hp) : nj_V G ad kc ks pc ls (.int x :: st) hp := by
  obtain ⟨⟨p, l, e, R, s, m⟩, ⟨args, below, meth, c, Q⟩, ⟨D, dT, A, sA⟩⟩ := G
  obtain ⟨hx, hb, hml, hown, hts, hR, ⟨hK, hNe, hSt⟩, hlk, hA⟩ := C
  intro H locs lm hsa hP hD hS hL
  obtain ⟨off, h, ht, rfl⟩ := hd
  exact lv_if_lt hx hb h ht (fun q => kt q H locs lm hsa hP hD hS hL) (fun q => kf q H locs lm hsa hP hD hS hL)
theorem vr_cm_lt (C : nj_C G cc nL own rm) {x y : Int32} (hd : nj_cm cc pc .lt tgt pc') (kt : x < y → nj_V G ad kc ks tgt ls st hp) (kf : ¬ x < y → nj_V G ad kc ks pc' ls st hp) : nj_V G ad kc ks pc ls (.int y :: .int x :: st) hp := by
  obtain ⟨⟨p, l, e, R, s, m⟩, ⟨args, below, meth, c, Q⟩, ⟨D, dT, A, sA⟩⟩ := G
  obtain ⟨hx, hb, hml, hown, hts, hR, ⟨hK, hNe, hSt⟩, hlk, hA⟩ := C
  intro H locs lm hsa hP hD hS hL
  obtain ⟨off, h, ht, rfl⟩ := hd
  exact lv_icmp_lt hx hb h ht (fun q => kt q H locs lm hsa hP hD hS hL) (fun q => kf q H locs lm hsa hP hD hS hL)
theorem vr_if_ge (C : nj_C G cc nL own rm) {x : Int32} (hd : nj_if cc pc .ge tgt pc') (kt : 0 ≤ x → nj_V G ad kc ks tgt ls st hp) (kf : ¬ 0 ≤ x → nj_V G ad kc ks pc' ls st hp) : nj_V G ad kc ks pc ls (.int x :: st) hp := by
  obtain ⟨⟨p, l, e, R, s, m⟩, ⟨args, below, meth, c, Q⟩, ⟨D, dT, A, sA⟩⟩ := G
  obtain ⟨hx, hb, hml, hown, hts, hR, ⟨hK, hNe, hSt⟩, hlk, hA⟩ := C
  intro H locs lm hsa hP hD hS hL
  obtain ⟨off, h, ht, rfl⟩ := hd
  exact lv_if_ge hx hb h ht (fun q => kt q H locs lm hsa hP hD hS hL) (fun q => kf q H locs lm hsa hP hD hS hL)
theorem vr_cm_ge (C : nj_C G cc nL own rm) {x y : Int32} (hd : nj_cm cc pc .ge tgt pc') (kt : y ≤ x → nj_V G ad kc ks tgt ls st hp) (kf : ¬ y ≤ x → nj_V G ad kc ks pc' ls st hp) : nj_V G ad kc ks pc ls (.int y :: .int x :: st) hp := by
  obtain ⟨⟨p, l, e, R, s, m⟩, ⟨args, below, meth, c, Q⟩, ⟨D, dT, A, sA⟩⟩ := G
  obtain ⟨hx, hb, hml, hown, hts, hR, ⟨hK, hNe, hSt⟩, hlk, hA⟩ := C
  intro H locs lm hsa hP hD hS hL
  obtain ⟨off, h, ht, rfl⟩ := hd
  exact lv_icmp_ge hx hb h ht (fun q => kt q H locs lm hsa hP hD hS hL) (fun q => kf q H locs lm hsa hP hD hS hL)
theorem vr_if_gt (C : nj_C G cc nL own rm) {x : Int32} (hd : nj_if cc pc .gt tgt pc') (kt : 0 < x → nj_V G ad kc ks tgt ls st hp) (kf : ¬ 0 < x → nj_V G ad kc ks pc' ls st hp) : nj_V G ad kc ks pc ls (.int x :: st) hp := by
  obtain ⟨⟨p, l, e, R, s, m⟩, ⟨args, below, meth, c, Q⟩, ⟨D, dT, A, sA⟩⟩ := G
  obtain ⟨hx, hb, hml, hown, hts, hR, ⟨hK, hNe, hSt⟩, hlk, hA⟩ := C
  intro H locs lm hsa hP hD hS hL
  obtain ⟨off, h, ht, rfl⟩ := hd
  exact lv_if_gt hx hb h ht (fun q => kt q H locs lm hsa hP hD hS hL) (fun q => kf q H locs lm hsa hP hD hS hL)
theorem vr_cm_gt (C : nj_C G cc nL own rm) {x y : Int32} (hd : nj_cm cc pc .gt tgt pc') (kt : y < x → nj_V G ad kc ks tgt ls st hp) (kf : ¬ y < x → nj_V G ad kc ks pc' ls st hp) : nj_V G ad kc ks pc ls (.int y :: .int x :: st) hp := by
  obtain ⟨⟨p, l, e, R, s, m⟩, ⟨args, below, meth, c, Q⟩, ⟨D, dT, A, sA⟩⟩ := G
  obtain ⟨hx, hb, hml, hown, hts, hR, ⟨hK, hNe, hSt⟩, hlk, hA⟩ := C
  intro H locs lm hsa hP hD hS hL
  obtain ⟨off, h, ht, rfl⟩ := hd
  exact lv_icmp_gt hx hb h ht (fun q => kt q H locs lm hsa hP hD hS hL) (fun q => kf q H locs lm hsa hP hD hS hL)
theorem vr_if_le (C : nj_C G cc nL own rm) {x : Int32} (hd : nj_if cc pc .le tgt pc') (kt : x ≤ 0 → nj_V G ad kc ks tgt ls st hp) (kf : ¬ x ≤ 0 → nj_V G ad kc ks pc' ls st hp) : nj_V G ad kc ks pc ls (.int x :: st) hp := by
  obtain ⟨⟨p, l, e, R, s, m⟩, ⟨args, below, meth, c, Q⟩, ⟨D, dT, A, sA⟩⟩ := G
  obtain ⟨hx, hb, hml, hown, hts, hR, ⟨hK, hNe, hSt⟩, hlk, hA⟩ := C
  intro H locs lm hsa hP hD hS hL
  obtain ⟨off, h, ht, rfl⟩ := hd
  exact lv_if_le hx hb h ht (fun q => kt q H locs lm hsa hP hD hS hL) (fun q => kf q H locs lm hsa hP hD hS hL)
theorem vr_cm_le (C : nj_C G cc nL own rm) {x y : Int32} (hd : nj_cm cc pc .le tgt pc') (kt : x ≤ y → nj_V G ad kc ks tgt ls st hp) (kf : ¬ x ≤ y → nj_V G ad kc ks pc' ls st hp) : nj_V G ad kc ks pc ls (.int y :: .int x :: st) hp := by
  obtain ⟨⟨p, l, e, R, s, m⟩, ⟨args, below, meth, c, Q⟩, ⟨D, dT, A, sA⟩⟩ := G
  obtain ⟨hx, hb, hml, hown, hts, hR, ⟨hK, hNe, hSt⟩, hlk, hA⟩ := C
  intro H locs lm hsa hP hD hS hL
  obtain ⟨off, h, ht, rfl⟩ := hd
  exact lv_icmp_le hx hb h ht (fun q => kt q H locs lm hsa hP hD hS hL) (fun q => kf q H locs lm hsa hP hD hS hL)
theorem vr_go (C : nj_C G cc nL own rm) (hd : nj_go cc pc tgt) (k : nj_V G ad kc ks tgt ls st hp) : nj_V G ad kc ks pc ls st hp := by
  obtain ⟨⟨p, l, e, R, s, m⟩, ⟨args, below, meth, c, Q⟩, ⟨D, dT, A, sA⟩⟩ := G
  obtain ⟨hx, hb, hml, hown, hts, hR, ⟨hK, hNe, hSt⟩, hlk, hA⟩ := C
  intro H locs lm hsa hP hD hS hL
  obtain ⟨off, h, ht⟩ := hd
  exact lv_goto hx hb h ht (k H locs lm hsa hP hD hS hL)
def nj_b (b : Bool) : Int32 := match b with
  | true => 1
  | false => 0
theorem vr_ifb_eq (C : nj_C G cc nL own rm) {b : Bool} (hd : nj_if cc pc .eq tgt pc') (kt : b = false → nj_V G ad kc ks tgt ls st hp) (kf : b = true → nj_V G ad kc ks pc' ls st hp) : nj_V G ad kc ks pc ls (.int (nj_b b) :: st) hp := by
  obtain ⟨⟨p, l, e, R, s, m⟩, ⟨args, below, meth, c, Q⟩, ⟨D, dT, A, sA⟩⟩ := G
  obtain ⟨hx, hb, hml, hown, hts, hR, ⟨hK, hNe, hSt⟩, hlk, hA⟩ := C
  intro H locs lm hsa hP hD hS hL
  obtain ⟨off, h, ht, rfl⟩ := hd
  exact lv_if_eq hx hb h ht (fun q => kt (by cases b <;> simp_all [nj_b]) H locs lm hsa hP hD hS hL) (fun q => kf (by cases b <;> simp_all [nj_b]) H locs lm hsa hP hD hS hL)
theorem vr_ifb_ne (C : nj_C G cc nL own rm) {b : Bool} (hd : nj_if cc pc .ne tgt pc') (kt : b = true → nj_V G ad kc ks tgt ls st hp) (kf : b = false → nj_V G ad kc ks pc' ls st hp) : nj_V G ad kc ks pc ls (.int (nj_b b) :: st) hp := by
  obtain ⟨⟨p, l, e, R, s, m⟩, ⟨args, below, meth, c, Q⟩, ⟨D, dT, A, sA⟩⟩ := G
  obtain ⟨hx, hb, hml, hown, hts, hR, ⟨hK, hNe, hSt⟩, hlk, hA⟩ := C
  intro H locs lm hsa hP hD hS hL
  obtain ⟨off, h, ht, rfl⟩ := hd
  exact lv_if_ne hx hb h ht (fun q => kt (by cases b <;> simp_all [nj_b]) H locs lm hsa hP hD hS hL) (fun q => kf (by cases b <;> simp_all [nj_b]) H locs lm hsa hP hD hS hL)
theorem vr_get (C : nj_C G cc nL own rm) {idx ci k0 q : Nat} {ty : FieldType} {fin : Bool} {fs : List Value} {v : Value} (hd : nj_dc cc pc (.getfield idx) pc') (h1 : pc + 3 = pc') (hf : nj_FL own idx ci k0 ty fin) (he : hp[q]? = some (.inr (ci, fs))) (hv : fs[k0]? = some v) (k : nj_V G ad kc ks pc' ls (v :: st) hp) : nj_V G ad kc ks pc ls (.ref q :: st) hp := by
  obtain ⟨⟨p, l, e, R, s, m⟩, ⟨args, below, meth, c, Q⟩, ⟨D, dT, A, sA⟩⟩ := G
  obtain ⟨hx, hb, hml, hown, hts, hR, ⟨hK, hNe, hSt⟩, hlk, hA⟩ := C
  intro H locs lm hsa hP hD hS hL
  obtain ⟨n1, h, h2⟩ := hd
  have e1 : n1 = 3 := by omega
  subst e1
  subst h1
  obtain ⟨r, hc, hk, hl, -, -⟩ := hf
  exact va_get (C := r.1) (T := r.2.1) (N := r.2.2) hx hb hts (nj_cls_ok r (List.mem_of_getElem? hc)).1 hown hK hP q (nj_pw_at he) hc k0 hk (hts _ hl) (fun _ z => z) (by simp [hv]) h (k H locs lm hsa hP hD hS hL)
theorem vr_puti (C : nj_C G cc nL own rm) {idx ci k0 q : Nat} {fs : List Value} {x : Int32} (hd : nj_dc cc pc (.putfield idx) pc') (h1 : pc + 3 = pc') (hf : nj_FL own idx ci k0 .int false) (he : hp[q]? = some (.inr (ci, fs))) (hl : Nat.blt k0 fs.length = true) (hs : hp.set q (.inr (ci, fs.set k0 (.int x))) = hp') (k : nj_V G ad kc ks pc' ls st hp') : nj_V G ad kc ks pc ls (.int x :: .ref q :: st) hp := by
  obtain ⟨⟨p, l, e, R, s, m⟩, ⟨args, below, meth, c, Q⟩, ⟨D, dT, A, sA⟩⟩ := G
  obtain ⟨hx, hb, hml, hown, hts, hR, ⟨hK, hNe, hSt⟩, hlk, hA⟩ := C
  intro H locs lm hsa hP hD hS hL
  obtain ⟨n1, h, h2⟩ := hd
  have e1 : n1 = 3 := by omega
  subst e1
  subst h1
  obtain ⟨r, hc, hk, hl2, hty, hfi⟩ := hf
  obtain ⟨c1, ⟨ty0, c2⟩, c3⟩ := nj_cls_ok r (List.mem_of_getElem? hc)
  have hl3 : k0 < fs.length := by simpa [Nat.blt_eq] using hl
  refine va_put (C := r.1) (T := r.2.1) (N := r.2.2) (v := .int x) hx hb hts c1 ty0 c2 c3 hown hK hP hD hS q (nj_pw_at he) hc k0 hk (hts _ hl2) (fun _ z => z) hfi hty (by first | rfl | exact vp_nar_int _) rfl (by simpa using hl3) h (fun H1 locs1 hP1 hD1 hS1 => ?_)
  have e9 : (nj_pw ad dT hp).set q (ad q, .inr (ci, (fs.map (nj_pv ad)).set k0 (.int x))) = nj_pw ad dT hp' := by
    rw [← hs, ← nj_pw_set]
    simp [nj_pe, List.map_set, nj_pv]
  exact k H1 locs1 lm hsa (e9 ▸ hP1) (e9 ▸ hD1) hS1 hL
theorem vr_putl (C : nj_C G cc nL own rm) {idx ci k0 q : Nat} {fs : List Value} {x : Int64} (hd : nj_dc cc pc (.putfield idx) pc') (h1 : pc + 3 = pc') (hf : nj_FL own idx ci k0 .long false) (he : hp[q]? = some (.inr (ci, fs))) (hl : Nat.blt k0 fs.length = true) (hs : hp.set q (.inr (ci, fs.set k0 (.long x))) = hp') (k : nj_V G ad kc ks pc' ls st hp') : nj_V G ad kc ks pc ls (.long x :: .ref q :: st) hp := by
  obtain ⟨⟨p, l, e, R, s, m⟩, ⟨args, below, meth, c, Q⟩, ⟨D, dT, A, sA⟩⟩ := G
  obtain ⟨hx, hb, hml, hown, hts, hR, ⟨hK, hNe, hSt⟩, hlk, hA⟩ := C
  intro H locs lm hsa hP hD hS hL
  obtain ⟨n1, h, h2⟩ := hd
  have e1 : n1 = 3 := by omega
  subst e1
  subst h1
  obtain ⟨r, hc, hk, hl2, hty, hfi⟩ := hf
  obtain ⟨c1, ⟨ty0, c2⟩, c3⟩ := nj_cls_ok r (List.mem_of_getElem? hc)
  have hl3 : k0 < fs.length := by simpa [Nat.blt_eq] using hl
  refine va_put (C := r.1) (T := r.2.1) (N := r.2.2) (v := .long x) hx hb hts c1 ty0 c2 c3 hown hK hP hD hS q (nj_pw_at he) hc k0 hk (hts _ hl2) (fun _ z => z) hfi hty (by first | rfl | exact vp_nar_int _) rfl (by simpa using hl3) h (fun H1 locs1 hP1 hD1 hS1 => ?_)
  have e9 : (nj_pw ad dT hp).set q (ad q, .inr (ci, (fs.map (nj_pv ad)).set k0 (.long x))) = nj_pw ad dT hp' := by
    rw [← hs, ← nj_pw_set]
    simp [nj_pe, List.map_set, nj_pv]
  exact k H1 locs1 lm hsa (e9 ▸ hP1) (e9 ▸ hD1) hS1 hL
theorem vr_iald (C : nj_C G cc nL own rm) {q n : Nat} {f : Nat → Int32} {i : Int32} (hd : nj_dc cc pc .iaload pc') (h1 : pc + 1 = pc') (he : hp[q]? = some (.inl (0, n, .inl f))) (hin : vp_in i n) (k : nj_V G ad kc ks pc' ls (.int (f i.toNatClampNeg) :: st) hp) : nj_V G ad kc ks pc ls (.int i :: .ref q :: st) hp := by
  obtain ⟨⟨p, l, e, R, s, m⟩, ⟨args, below, meth, c, Q⟩, ⟨D, dT, A, sA⟩⟩ := G
  obtain ⟨hx, hb, hml, hown, hts, hR, ⟨hK, hNe, hSt⟩, hlk, hA⟩ := C
  intro H locs lm hsa hP hD hS hL
  obtain ⟨n1, h, h2⟩ := hd
  have e1 : n1 = 1 := by omega
  subst e1
  subst h1
  exact va_iald hx hb hK hP q 0 (nj_pw_at he) rfl hin h (k H locs lm hsa hP hD hS hL)
theorem vr_bald (C : nj_C G cc nL own rm) {q n : Nat} {f : Nat → Int32} {i : Int32} (hd : nj_dc cc pc .baload pc') (h1 : pc + 1 = pc') (he : hp[q]? = some (.inl (2, n, .inl f))) (hin : vp_in i n) (k : nj_V G ad kc ks pc' ls (.int (f i.toNatClampNeg) :: st) hp) : nj_V G ad kc ks pc ls (.int i :: .ref q :: st) hp := by
  obtain ⟨⟨p, l, e, R, s, m⟩, ⟨args, below, meth, c, Q⟩, ⟨D, dT, A, sA⟩⟩ := G
  obtain ⟨hx, hb, hml, hown, hts, hR, ⟨hK, hNe, hSt⟩, hlk, hA⟩ := C
  intro H locs lm hsa hP hD hS hL
  obtain ⟨n1, h, h2⟩ := hd
  have e1 : n1 = 1 := by omega
  subst e1
  subst h1
  exact va_bald hx hb hK hP q 2 (nj_pw_at he) rfl hin h (k H locs lm hsa hP hD hS hL)
theorem vr_lald (C : nj_C G cc nL own rm) {q n : Nat} {f : Nat → Int64} {i : Int32} (hd : nj_dc cc pc .laload pc') (h1 : pc + 1 = pc') (he : hp[q]? = some (.inl (1, n, .inr (.inl f)))) (hin : vp_in i n) (k : nj_V G ad kc ks pc' ls (.long (f i.toNatClampNeg) :: st) hp) : nj_V G ad kc ks pc ls (.int i :: .ref q :: st) hp := by
  obtain ⟨⟨p, l, e, R, s, m⟩, ⟨args, below, meth, c, Q⟩, ⟨D, dT, A, sA⟩⟩ := G
  obtain ⟨hx, hb, hml, hown, hts, hR, ⟨hK, hNe, hSt⟩, hlk, hA⟩ := C
  intro H locs lm hsa hP hD hS hL
  obtain ⟨n1, h, h2⟩ := hd
  have e1 : n1 = 1 := by omega
  subst e1
  subst h1
  exact va_lald hx hb hK hP q 1 (nj_pw_at he) rfl hin h (k H locs lm hsa hP hD hS hL)
theorem vr_aald3 (C : nj_C G cc nL own rm) {q n y : Nat} {f : Nat → Option Nat} {i : Int32} (hd : nj_dc cc pc .aaload pc') (h1 : pc + 1 = pc') (he : hp[q]? = some (.inl (3, n, .inr (.inr (.inr (.inr f)))))) (hin : vp_in i n) (hy : f i.toNatClampNeg = some y) (k : nj_V G ad kc ks pc' ls (.ref y :: st) hp) : nj_V G ad kc ks pc ls (.int i :: .ref q :: st) hp := by
  obtain ⟨⟨p, l, e, R, s, m⟩, ⟨args, below, meth, c, Q⟩, ⟨D, dT, A, sA⟩⟩ := G
  obtain ⟨hx, hb, hml, hown, hts, hR, ⟨hK, hNe, hSt⟩, hlk, hA⟩ := C
  intro H locs lm hsa hP hD hS hL
  obtain ⟨n1, h, h2⟩ := hd
  have e1 : n1 = 1 := by omega
  subst e1
  subst h1
  refine va_aldq (C := nj_RRow) hx hb hK hP q 3 (nj_pw_at he) rfl hin h ?_
  have e9 : va_rf ((f i.toNatClampNeg).map ad) = .ref (ad y) := by rw [hy]; rfl
  rw [e9]
  exact k H locs lm hsa hP hD hS hL
theorem vr_aald4 (C : nj_C G cc nL own rm) {q n y : Nat} {f : Nat → Option Nat} {i : Int32} (hd : nj_dc cc pc .aaload pc') (h1 : pc + 1 = pc') (he : hp[q]? = some (.inl (4, n, .inr (.inr (.inr (.inr f)))))) (hin : vp_in i n) (hy : f i.toNatClampNeg = some y) (k : nj_V G ad kc ks pc' ls (.ref y :: st) hp) : nj_V G ad kc ks pc ls (.int i :: .ref q :: st) hp := by
  obtain ⟨⟨p, l, e, R, s, m⟩, ⟨args, below, meth, c, Q⟩, ⟨D, dT, A, sA⟩⟩ := G
  obtain ⟨hx, hb, hml, hown, hts, hR, ⟨hK, hNe, hSt⟩, hlk, hA⟩ := C
  intro H locs lm hsa hP hD hS hL
  obtain ⟨n1, h, h2⟩ := hd
  have e1 : n1 = 1 := by omega
  subst e1
  subst h1
  refine va_aldq (C := nj_RText) hx hb hK hP q 4 (nj_pw_at he) rfl hin h ?_
  have e9 : va_rf ((f i.toNatClampNeg).map ad) = .ref (ad y) := by rw [hy]; rfl
  rw [e9]
  exact k H locs lm hsa hP hD hS hL
theorem vr_aald5 (C : nj_C G cc nL own rm) {q n y : Nat} {f : Nat → Option Nat} {i : Int32} (hd : nj_dc cc pc .aaload pc') (h1 : pc + 1 = pc') (he : hp[q]? = some (.inl (5, n, .inr (.inr (.inr (.inr f)))))) (hin : vp_in i n) (hy : f i.toNatClampNeg = some y) (k : nj_V G ad kc ks pc' ls (.ref y :: st) hp) : nj_V G ad kc ks pc ls (.int i :: .ref q :: st) hp := by
  obtain ⟨⟨p, l, e, R, s, m⟩, ⟨args, below, meth, c, Q⟩, ⟨D, dT, A, sA⟩⟩ := G
  obtain ⟨hx, hb, hml, hown, hts, hR, ⟨hK, hNe, hSt⟩, hlk, hA⟩ := C
  intro H locs lm hsa hP hD hS hL
  obtain ⟨n1, h, h2⟩ := hd
  have e1 : n1 = 1 := by omega
  subst e1
  subst h1
  refine va_aldq (C := nj_RClub) hx hb hK hP q 5 (nj_pw_at he) rfl hin h ?_
  have e9 : va_rf ((f i.toNatClampNeg).map ad) = .ref (ad y) := by rw [hy]; rfl
  rw [e9]
  exact k H locs lm hsa hP hD hS hL
theorem vr_iast (C : nj_C G cc nL own rm) {q n : Nat} {f : Nat → Int32} {i : Int32} {x : Int32} (hd : nj_dc cc pc .iastore pc') (h1 : pc + 1 = pc') (he : hp[q]? = some (.inl (0, n, .inl f))) (hin : vp_in i n) (hs : hp.set q (.inl (0, n, .inl (upd f i.toNatClampNeg x))) = hp') (k : nj_V G ad kc ks pc' ls st hp') : nj_V G ad kc ks pc ls (.int x :: .int i :: .ref q :: st) hp := by
  obtain ⟨⟨p, l, e, R, s, m⟩, ⟨args, below, meth, c, Q⟩, ⟨D, dT, A, sA⟩⟩ := G
  obtain ⟨hx, hb, hml, hown, hts, hR, ⟨hK, hNe, hSt⟩, hlk, hA⟩ := C
  intro H locs lm hsa hP hD hS hL
  obtain ⟨n1, h, h2⟩ := hd
  have e1 : n1 = 1 := by omega
  subst e1
  subst h1
  refine va_iast hx hb hK hP hD hS q 0 (nj_pw_at he) rfl hin h (fun H1 locs1 hP1 hD1 hS1 => ?_)
  have e9 : (nj_pw ad dT hp).set q (ad q, .inl (dT 0, n, .inl (upd f i.toNatClampNeg x))) = nj_pw ad dT hp' := by
    rw [← hs, ← nj_pw_set]
    rfl
  exact k H1 locs1 lm hsa (e9 ▸ hP1) (e9 ▸ hD1) hS1 hL
theorem vr_bast (C : nj_C G cc nL own rm) {q n : Nat} {f : Nat → Int32} {i : Int32} {x : Int32} (hd : nj_dc cc pc .bastore pc') (h1 : pc + 1 = pc') (he : hp[q]? = some (.inl (2, n, .inl f))) (hin : vp_in i n) (hs : hp.set q (.inl (2, n, .inl (upd f i.toNatClampNeg (vp_nar .byte x)))) = hp') (k : nj_V G ad kc ks pc' ls st hp') : nj_V G ad kc ks pc ls (.int x :: .int i :: .ref q :: st) hp := by
  obtain ⟨⟨p, l, e, R, s, m⟩, ⟨args, below, meth, c, Q⟩, ⟨D, dT, A, sA⟩⟩ := G
  obtain ⟨hx, hb, hml, hown, hts, hR, ⟨hK, hNe, hSt⟩, hlk, hA⟩ := C
  intro H locs lm hsa hP hD hS hL
  obtain ⟨n1, h, h2⟩ := hd
  have e1 : n1 = 1 := by omega
  subst e1
  subst h1
  refine va_bast hx hb hK hP hD hS q 2 (nj_pw_at he) rfl hin h (fun H1 locs1 hP1 hD1 hS1 => ?_)
  have e9 : (nj_pw ad dT hp).set q (ad q, .inl (dT 2, n, .inl (upd f i.toNatClampNeg (vp_nar .byte x)))) = nj_pw ad dT hp' := by
    rw [← hs, ← nj_pw_set]
    rfl
  exact k H1 locs1 lm hsa (e9 ▸ hP1) (e9 ▸ hD1) hS1 hL
theorem vr_last (C : nj_C G cc nL own rm) {q n : Nat} {f : Nat → Int64} {i : Int32} {x : Int64} (hd : nj_dc cc pc .lastore pc') (h1 : pc + 1 = pc') (he : hp[q]? = some (.inl (1, n, .inr (.inl f)))) (hin : vp_in i n) (hs : hp.set q (.inl (1, n, .inr (.inl (vp_updL f i.toNatClampNeg x)))) = hp') (k : nj_V G ad kc ks pc' ls st hp') : nj_V G ad kc ks pc ls (.long x :: .int i :: .ref q :: st) hp := by
  obtain ⟨⟨p, l, e, R, s, m⟩, ⟨args, below, meth, c, Q⟩, ⟨D, dT, A, sA⟩⟩ := G
  obtain ⟨hx, hb, hml, hown, hts, hR, ⟨hK, hNe, hSt⟩, hlk, hA⟩ := C
  intro H locs lm hsa hP hD hS hL
  obtain ⟨n1, h, h2⟩ := hd
  have e1 : n1 = 1 := by omega
  subst e1
  subst h1
  refine va_last hx hb hK hP hD hS q 1 (nj_pw_at he) rfl hin h (fun H1 locs1 hP1 hD1 hS1 => ?_)
  have e9 : (nj_pw ad dT hp).set q (ad q, .inl (dT 1, n, .inr (.inl (vp_updL f i.toNatClampNeg x)))) = nj_pw ad dT hp' := by
    rw [← hs, ← nj_pw_set]
    rfl
  exact k H1 locs1 lm hsa (e9 ▸ hP1) (e9 ▸ hD1) hS1 hL
theorem vr_sld0 (C : nj_C G cc nL own rm) {i : Int32} (hd : nj_dc cc pc .caload pc') (h1 : pc + 1 = pc') (hin : vp_in i 6) (k : nj_V G ad kc ks pc' ls (.int (nj_kl i.toNatClampNeg) :: st) hp) : nj_V G ad kc ks pc ls (.int i :: .ref 1000 :: st) hp := by
  obtain ⟨⟨p, l, e, R, s, m⟩, ⟨args, below, meth, c, Q⟩, ⟨D, dT, A, sA⟩⟩ := G
  obtain ⟨hx, hb, hml, hown, hts, hR, ⟨hK, hNe, hSt⟩, hlk, hA⟩ := C
  intro H locs lm hsa hP hD hS hL
  obtain ⟨n1, h, h2⟩ := hd
  have e1 : n1 = 1 := by omega
  subst e1
  subst h1
  have e9 : ad 1000 = sA 0 := hsa 0
  show W p l e R s m args below meth c H locs kc ks Q (F0 m pc lm (.int i :: .ref (ad 1000) :: st.map (nj_pv ad)))
  rw [e9]
  exact va_tc hx hb hSt.1.2 hS hin rfl h (k H locs lm hsa hP hD hS hL)
theorem vr_sld1 (C : nj_C G cc nL own rm) {i : Int32} (hd : nj_dc cc pc .iaload pc') (h1 : pc + 1 = pc') (hin : vp_in i 6) (k : nj_V G ad kc ks pc' ls (.int (nj_kv i.toNatClampNeg) :: st) hp) : nj_V G ad kc ks pc ls (.int i :: .ref 1001 :: st) hp := by
  obtain ⟨⟨p, l, e, R, s, m⟩, ⟨args, below, meth, c, Q⟩, ⟨D, dT, A, sA⟩⟩ := G
  obtain ⟨hx, hb, hml, hown, hts, hR, ⟨hK, hNe, hSt⟩, hlk, hA⟩ := C
  intro H locs lm hsa hP hD hS hL
  obtain ⟨n1, h, h2⟩ := hd
  have e1 : n1 = 1 := by omega
  subst e1
  subst h1
  have e9 : ad 1001 = sA 1 := hsa 1
  show W p l e R s m args below meth c H locs kc ks Q (F0 m pc lm (.int i :: .ref (ad 1001) :: st.map (nj_pv ad)))
  rw [e9]
  exact va_ti hx hb hSt.2.1.2 hS hin rfl h (k H locs lm hsa hP hD hS hL)
theorem vr_sld2 (C : nj_C G cc nL own rm) {i : Int32} (hd : nj_dc cc pc .iaload pc') (h1 : pc + 1 = pc') (hin : vp_in i 7) (k : nj_V G ad kc ks pc' ls (.int (nj_fa i.toNatClampNeg) :: st) hp) : nj_V G ad kc ks pc ls (.int i :: .ref 1002 :: st) hp := by
  obtain ⟨⟨p, l, e, R, s, m⟩, ⟨args, below, meth, c, Q⟩, ⟨D, dT, A, sA⟩⟩ := G
  obtain ⟨hx, hb, hml, hown, hts, hR, ⟨hK, hNe, hSt⟩, hlk, hA⟩ := C
  intro H locs lm hsa hP hD hS hL
  obtain ⟨n1, h, h2⟩ := hd
  have e1 : n1 = 1 := by omega
  subst e1
  subst h1
  have e9 : ad 1002 = sA 2 := hsa 2
  show W p l e R s m args below meth c H locs kc ks Q (F0 m pc lm (.int i :: .ref (ad 1002) :: st.map (nj_pv ad)))
  rw [e9]
  exact va_ti hx hb hSt.2.2.2 hS hin rfl h (k H locs lm hsa hP hD hS hL)
theorem vr_gsN0 (C : nj_C G cc nL own rm) (ho : own = "NobodyJoins$Reader") (hd : nj_dc cc pc (.getstatic 70) pc') (h1 : pc + 3 = pc') (k : nj_V G ad kc ks pc' ls (.ref 1000 :: st) hp) : nj_V G ad kc ks pc ls st hp := by
  obtain ⟨⟨p, l, e, R, s, m⟩, ⟨args, below, meth, c, Q⟩, ⟨D, dT, A, sA⟩⟩ := G
  obtain ⟨hx, hb, hml, hown, hts, hR, ⟨hK, hNe, hSt⟩, hlk, hA⟩ := C
  intro H locs lm hsa hP hD hS hL
  subst ho
  obtain ⟨n1, h, h2⟩ := hd
  have e1 : n1 = 3 := by omega
  subst e1
  subst h1
  have e9 : ad 1000 = sA 0 := hsa 0
  refine va_getsN hx hb hSt.1.1 hS hown (va_Nw.use rfl hNe.1) (fun _ z => z) h ?_
  rw [← e9]
  exact k H locs lm hsa hP hD hS hL
theorem vr_gsN1 (C : nj_C G cc nL own rm) (ho : own = "NobodyJoins$Club") (hd : nj_dc cc pc (.getstatic 50) pc') (h1 : pc + 3 = pc') (k : nj_V G ad kc ks pc' ls (.ref 1001 :: st) hp) : nj_V G ad kc ks pc ls st hp := by
  obtain ⟨⟨p, l, e, R, s, m⟩, ⟨args, below, meth, c, Q⟩, ⟨D, dT, A, sA⟩⟩ := G
  obtain ⟨hx, hb, hml, hown, hts, hR, ⟨hK, hNe, hSt⟩, hlk, hA⟩ := C
  intro H locs lm hsa hP hD hS hL
  subst ho
  obtain ⟨n1, h, h2⟩ := hd
  have e1 : n1 = 3 := by omega
  subst e1
  subst h1
  have e9 : ad 1001 = sA 1 := hsa 1
  refine va_getsN hx hb hSt.2.1.1 hS hown (va_Nw.use rfl hNe.2.1) (fun _ z => z) h ?_
  rw [← e9]
  exact k H locs lm hsa hP hD hS hL
theorem vr_gsN2 (C : nj_C G cc nL own rm) (ho : own = "NobodyJoins$Sums") (hd : nj_dc cc pc (.getstatic 20) pc') (h1 : pc + 3 = pc') (k : nj_V G ad kc ks pc' ls (.ref 1002 :: st) hp) : nj_V G ad kc ks pc ls st hp := by
  obtain ⟨⟨p, l, e, R, s, m⟩, ⟨args, below, meth, c, Q⟩, ⟨D, dT, A, sA⟩⟩ := G
  obtain ⟨hx, hb, hml, hown, hts, hR, ⟨hK, hNe, hSt⟩, hlk, hA⟩ := C
  intro H locs lm hsa hP hD hS hL
  subst ho
  obtain ⟨n1, h, h2⟩ := hd
  have e1 : n1 = 3 := by omega
  subst e1
  subst h1
  have e9 : ad 1002 = sA 2 := hsa 2
  refine va_getsN hx hb hSt.2.2.1 hS hown (va_Nw.use rfl hNe.2.2.1) (fun _ z => z) h ?_
  rw [← e9]
  exact k H locs lm hsa hP hD hS hL
theorem vr_gs2 (C : nj_C G cc nL own rm) (ho : own = "NobodyJoins") (hd : nj_dc cc pc (.getstatic 254) pc') (h1 : pc + 3 = pc') (hw : Cond.fieldLink "NobodyJoins" 254 "NobodyJoins" "FACTORIALS" "[I" ∈ nj_T0) (k : nj_V G ad kc ks pc' ls (.ref 1002 :: st) hp) : nj_V G ad kc ks pc ls st hp := by
  obtain ⟨⟨p, l, e, R, s, m⟩, ⟨args, below, meth, c, Q⟩, ⟨D, dT, A, sA⟩⟩ := G
  obtain ⟨hx, hb, hml, hown, hts, hR, ⟨hK, hNe, hSt⟩, hlk, hA⟩ := C
  intro H locs lm hsa hP hD hS hL
  subst ho
  obtain ⟨n1, h, h2⟩ := hd
  have e1 : n1 = 3 := by omega
  subst e1
  subst h1
  have e9 : ad 1002 = sA 2 := hsa 2
  refine va_gets hx hb hSt.2.2.1 hS hown (hts _ hw) (fun _ z => z) h ?_
  rw [← e9]
  exact k H locs lm hsa hP hD hS hL
end NjRows
