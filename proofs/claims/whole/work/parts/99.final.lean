/-- what the tables say of an array of a plain type -/
theorem nj_arrI {args : Array Value} {s : State} {ty : FieldType} (h : (Cond.arrayClass ty).before args s = true) : ∃ cA : ClassId, ArrOfT s cA ty ∧ s.vm.findClass ("[" ++ ty.toString) = some cA := by
  obtain ⟨c, k, comp, h1, h2, h3⟩ := Cond.arrayClass_spec h
  exact ⟨c, fun n z => ⟨fun k h => (by cases h), k, h2, comp, h3⟩, h1⟩
theorem nj_arrO {C : String} {s : State} (h : va_AO C s) : ∃ cA : ClassId, ArrOfT s cA (.object C) ∧ va_RA s cA (.object C) := by
  obtain ⟨comp, c, k, h1, h2, h3, h4, h5⟩ := Cond.arrayOver_spec h
  exact ⟨c, fun n z => ⟨fun k h => (by cases h), k, h3, comp, h4⟩, ⟨k, comp, h3, h4, h1, h5⟩⟩
set_option maxHeartbeats 8000000 in
theorem nj_statics {args : Array Value} {s : State} {A : Nat → Prop} (hts : ∀ w ∈ lw_tbl, w.before args s = true) (hgv : (Jvm.Cond.and given_1 narrow_1).before args s = true) (hA : ∀ a : Nat, a < s.heap.size → ¬ A a) (b : Nat) : ∃ sA : Nat → Nat, nj_St sA A s s.heap ∧ sA 1000 = b := by
  have hf := flat_of_before _ hgv
  obtain ⟨t_nj_kl, e_nj_kl, T_nj_kl⟩ := va_Tof (tm := (Term.static "NobodyJoins" "KIND_LETTERS" "[C")) (ty := .char) (N := 6) (f := fun j => .int (nj_kl j)) (A := A) (by decide) (hf _ (by decide +kernel)) (va_eqt (hf (Cond.eq (Term.length (Term.static "NobodyJoins" "KIND_LETTERS" "[C")) (.int 6)) (by decide +kernel))) (fun j hj => by
    match j, hj with
    | 0, _ => exact va_eqt (hf (Cond.eq (Term.elem (Term.static "NobodyJoins" "KIND_LETTERS" "[C") (.int 0)) (.int 109)) (by decide +kernel))
    | 1, _ => exact va_eqt (hf (Cond.eq (Term.elem (Term.static "NobodyJoins" "KIND_LETTERS" "[C") (.int 1)) (.int 112)) (by decide +kernel))
    | 2, _ => exact va_eqt (hf (Cond.eq (Term.elem (Term.static "NobodyJoins" "KIND_LETTERS" "[C") (.int 2)) (.int 103)) (by decide +kernel))
    | 3, _ => exact va_eqt (hf (Cond.eq (Term.elem (Term.static "NobodyJoins" "KIND_LETTERS" "[C") (.int 3)) (.int 116)) (by decide +kernel))
    | 4, _ => exact va_eqt (hf (Cond.eq (Term.elem (Term.static "NobodyJoins" "KIND_LETTERS" "[C") (.int 4)) (.int 102)) (by decide +kernel))
    | 5, _ => exact va_eqt (hf (Cond.eq (Term.elem (Term.static "NobodyJoins" "KIND_LETTERS" "[C") (.int 5)) (.int 115)) (by decide +kernel))
    ) hA
  have Z_nj_kl := va_Zref (C := "NobodyJoins") (n := "KIND_LETTERS") (d := "[C") (hts _ (List.mem_of_getElem? (i := 360) (by decide +kernel))) (hts _ (List.mem_of_getElem? (i := 66) (by decide +kernel))) e_nj_kl hA
  obtain ⟨t_nj_kv, e_nj_kv, T_nj_kv⟩ := va_Tof (tm := (Term.static "NobodyJoins" "KIND_VOTES" "[I")) (ty := .int) (N := 6) (f := fun j => .int (nj_kv j)) (A := A) (by decide) (hf _ (by decide +kernel)) (va_eqt (hf (Cond.eq (Term.length (Term.static "NobodyJoins" "KIND_VOTES" "[I")) (.int 6)) (by decide +kernel))) (fun j hj => by
    match j, hj with
    | 0, _ => exact va_eqt (hf (Cond.eq (Term.elem (Term.static "NobodyJoins" "KIND_VOTES" "[I") (.int 0)) (.int 1)) (by decide +kernel))
    | 1, _ => exact va_eqt (hf (Cond.eq (Term.elem (Term.static "NobodyJoins" "KIND_VOTES" "[I") (.int 1)) (.int 2)) (by decide +kernel))
    | 2, _ => exact va_eqt (hf (Cond.eq (Term.elem (Term.static "NobodyJoins" "KIND_VOTES" "[I") (.int 2)) (.int 1)) (by decide +kernel))
    | 3, _ => exact va_eqt (hf (Cond.eq (Term.elem (Term.static "NobodyJoins" "KIND_VOTES" "[I") (.int 3)) (.int 1)) (by decide +kernel))
    | 4, _ => exact va_eqt (hf (Cond.eq (Term.elem (Term.static "NobodyJoins" "KIND_VOTES" "[I") (.int 4)) (.int 3)) (by decide +kernel))
    | 5, _ => exact va_eqt (hf (Cond.eq (Term.elem (Term.static "NobodyJoins" "KIND_VOTES" "[I") (.int 5)) (.int 0)) (by decide +kernel))
    ) hA
  have Z_nj_kv := va_Zref (C := "NobodyJoins") (n := "KIND_VOTES") (d := "[I") (hts _ (List.mem_of_getElem? (i := 392) (by decide +kernel))) (hts _ (List.mem_of_getElem? (i := 66) (by decide +kernel))) e_nj_kv hA
  obtain ⟨t_nj_fa, e_nj_fa, T_nj_fa⟩ := va_Tof (tm := (Term.static "NobodyJoins" "FACTORIALS" "[I")) (ty := .int) (N := 7) (f := fun j => .int (nj_fa j)) (A := A) (by decide) (hf _ (by decide +kernel)) (va_eqt (hf (Cond.eq (Term.length (Term.static "NobodyJoins" "FACTORIALS" "[I")) (.int 7)) (by decide +kernel))) (fun j hj => by
    match j, hj with
    | 0, _ => exact va_eqt (hf (Cond.eq (Term.elem (Term.static "NobodyJoins" "FACTORIALS" "[I") (.int 0)) (.int 1)) (by decide +kernel))
    | 1, _ => exact va_eqt (hf (Cond.eq (Term.elem (Term.static "NobodyJoins" "FACTORIALS" "[I") (.int 1)) (.int 1)) (by decide +kernel))
    | 2, _ => exact va_eqt (hf (Cond.eq (Term.elem (Term.static "NobodyJoins" "FACTORIALS" "[I") (.int 2)) (.int 2)) (by decide +kernel))
    | 3, _ => exact va_eqt (hf (Cond.eq (Term.elem (Term.static "NobodyJoins" "FACTORIALS" "[I") (.int 3)) (.int 6)) (by decide +kernel))
    | 4, _ => exact va_eqt (hf (Cond.eq (Term.elem (Term.static "NobodyJoins" "FACTORIALS" "[I") (.int 4)) (.int 24)) (by decide +kernel))
    | 5, _ => exact va_eqt (hf (Cond.eq (Term.elem (Term.static "NobodyJoins" "FACTORIALS" "[I") (.int 5)) (.int 120)) (by decide +kernel))
    | 6, _ => exact va_eqt (hf (Cond.eq (Term.elem (Term.static "NobodyJoins" "FACTORIALS" "[I") (.int 6)) (.int 720)) (by decide +kernel))
    ) hA
  have Z_nj_fa := va_Zref (C := "NobodyJoins") (n := "FACTORIALS") (d := "[I") (hts _ (List.mem_of_getElem? (i := 647) (by decide +kernel))) (hts _ (List.mem_of_getElem? (i := 66) (by decide +kernel))) e_nj_fa hA
  exact ⟨fun j => if j = 0 then t_nj_kl else if j = 1 then t_nj_kv else if j = 2 then t_nj_fa else b, ⟨⟨Z_nj_kl, T_nj_kl⟩, ⟨Z_nj_kv, T_nj_kv⟩, ⟨Z_nj_fa, T_nj_fa⟩⟩, rfl⟩
set_option maxHeartbeats 8000000 in
set_option maxRecDepth 100000 in
/-- THE LAW, from its entry -/
theorem whole_start {p : Program} {e : Env} {s : State} {m : MethodId} {below : List Frame} {meth : Method} {c : Code} (l : Launch) {b L : Nat} {xs : Nat → Int32} (hL : L ≤ 384) (C0 : lw_At p s m meth c b L xs) : W p l e room_1 s m #[Value.ref b] below meth c s.heap [] 0 0 (lw_Z below #[Value.ref b] s) (entryFrame m ([Value.ref b] : List Value).toArray 4) := by
  obtain ⟨hx, hb, hr, hml, hown, hts, hX, hbl, hlocks, hgv⟩ := C0
  have hAn : ∀ a : Nat, a < s.heap.size → ¬ (fun q : Nat => s.heap.size ≤ q) a := fun a h1 h2 => Nat.not_le.mpr h1 h2
  obtain ⟨sA, hSt, hsb⟩ := nj_statics hts hgv hAn b
  obtain ⟨c_Club, i_Club, k_Club⟩ := u_known (C := nj_RClub) (T := nj_FClub) (N := 9) (n := 9) hts (fun w hw => nj_T0_sub w (nj_ckClub.1 w hw)) (hts _ (nj_T0_sub _ ki_Club))
  obtain ⟨c_Orders, i_Orders, k_Orders⟩ := u_known (C := nj_ROrders) (T := nj_FOrders) (N := 1) (n := 1) hts (fun w hw => nj_T0_sub w (nj_ckOrders.1 w hw)) (hts _ (nj_T0_sub _ ki_Orders))
  obtain ⟨c_Reader, i_Reader, k_Reader⟩ := u_known (C := nj_RReader) (T := nj_FReader) (N := 2) (n := 2) hts (fun w hw => nj_T0_sub w (nj_ckReader.1 w hw)) (hts _ (nj_T0_sub _ ki_Reader))
  obtain ⟨c_Row, i_Row, k_Row⟩ := u_known (C := nj_RRow) (T := nj_FRow) (N := 2) (n := 2) hts (fun w hw => nj_T0_sub w (nj_ckRow.1 w hw)) (hts _ (nj_T0_sub _ ki_Row))
  obtain ⟨c_Text, i_Text, k_Text⟩ := u_known (C := nj_RText) (T := nj_FText) (N := 2) (n := 2) hts (fun w hw => nj_T0_sub w (nj_ckText.1 w hw)) (hts _ (nj_T0_sub _ ki_Text))
  obtain ⟨c_Nj, i_Nj, k_Nj⟩ := u_known (C := nj_RNj) (T := nj_FNj) (N := 12) (n := 12) hts (fun w hw => nj_T0_sub w (nj_ckNj.1 w hw)) (hts _ (nj_T0_sub _ ki_Nj))
  obtain ⟨c_Md, i_Md, k_Md⟩ := u_known (C := nj_RMd) (T := nj_FMd) (N := 23) (n := 23) hts (fun w hw => nj_T0_sub w (nj_ckMd.1 w hw)) (hts _ (nj_T0_sub _ ki_Md))
  obtain ⟨dC, dI, hKc⟩ : ∃ (dC : Nat → ClassId) (dI : Nat → Nat → Nat), ∀ (k : Nat) (q : vw_C), nj_cls[k]? = some q → u_Kn s q.1 q.2.1 q.2.2 (dC k) (dI k) := by
    refine ⟨fun k => [c_Club, c_Orders, c_Reader, c_Row, c_Text, c_Nj, c_Md].getD k 0, fun k => [i_Club, i_Orders, i_Reader, i_Row, i_Text, i_Nj, i_Md].getD k (fun _ => 0), ?_⟩
    intro k q hq
    match k, hq with
    | 0, hq => cases hq; exact k_Club
    | 1, hq => cases hq; exact k_Orders
    | 2, hq => cases hq; exact k_Reader
    | 3, hq => cases hq; exact k_Row
    | 4, hq => cases hq; exact k_Text
    | 5, hq => cases hq; exact k_Nj
    | 6, hq => cases hq; exact k_Md
    | k + 7, hq => simp [nj_cls] at hq
  have hAO : nj_AO s := ⟨va_AO.of (hts _ (List.mem_of_getElem? (i := 87) (by decide +kernel))), va_AO.of (hts _ (List.mem_of_getElem? (i := 89) (by decide +kernel))), va_AO.of (hts _ (List.mem_of_getElem? (i := 139) (by decide +kernel)))⟩
  obtain ⟨d_I, a_I, f_I⟩ := nj_arrI (hts _ (nj_T0_sub _ kw_int))
  obtain ⟨d_J, a_J, f_J⟩ := nj_arrI (hts _ (nj_T0_sub _ kw_long))
  obtain ⟨d_B, a_B, f_B⟩ := nj_arrI (hts _ (nj_T0_sub _ kw_byte))
  obtain ⟨d_Row, a_Row, f_Row⟩ := nj_arrO hAO.1
  obtain ⟨d_Text, a_Text, f_Text⟩ := nj_arrO hAO.2.1
  obtain ⟨d_Club, a_Club, f_Club⟩ := nj_arrO hAO.2.2
  have hK : va_K (dC, dI) nj_cls (nj_tys (fun k => [d_I, d_J, d_B, d_Row, d_Text, d_Club].getD k 0)) s := by
    refine ⟨hKc, fun k q hq => ?_⟩
    match k, hq with
    | 0, hq => cases hq; exact ⟨a_I, f_I⟩
    | 1, hq => cases hq; exact ⟨a_J, f_J⟩
    | 2, hq => cases hq; exact ⟨a_B, f_B⟩
    | 3, hq => cases hq; exact ⟨a_Row, f_Row⟩
    | 4, hq => cases hq; exact ⟨a_Text, f_Text⟩
    | 5, hq => cases hq; exact ⟨a_Club, f_Club⟩
    | k + 6, hq => simp [nj_tys] at hq
  have hNe : nj_Ne s := ⟨va_Nw.of rfl (hts _ (List.mem_of_getElem? (i := 359) (by decide +kernel))), va_Nw.of rfl (hts _ (List.mem_of_getElem? (i := 391) (by decide +kernel))), va_Nw.of rfl (hts _ (List.mem_of_getElem? (i := 646) (by decide +kernel))), va_Nw.of rfl (hts _ (List.mem_of_getElem? (i := 92) (by decide +kernel))), va_Nw.of rfl (hts _ (List.mem_of_getElem? (i := 142) (by decide +kernel))), va_Nw.of rfl (hts _ (List.mem_of_getElem? (i := 155) (by decide +kernel))), va_Nw.of rfl (hts _ (List.mem_of_getElem? (i := 164) (by decide +kernel))), va_Nw.of rfl (hts _ (List.mem_of_getElem? (i := 182) (by decide +kernel)))⟩
  obtain ⟨n, hlo⟩ := pure_law xs L hL
  have hV := lw_head (G := ((p, l, e, room_1, s, m), (#[Value.ref b], below, meth, c, lw_Z below #[Value.ref b] s), ((dC, dI), (fun k => [d_I, d_J, d_B, d_Row, d_Text, d_Club].getD k 0), (fun q : Nat => s.heap.size ≤ q), sA))) (ad := fun k => sA (k - 1000)) (b := b) (L := L) (xs := xs)
    ⟨hx, hb, hml, hown, fun w hw => hts w (nj_T0_sub w hw), rfl, ⟨hK, hNe, hSt⟩, hlocks, fun q h => h⟩ hAO
    (fun ad' hag => ⟨rfl, rfl, hr, hX, hbl, hAn b hbl, fun q h => h, (hag 2000 (Or.inr (by decide))).trans hsb⟩) n hlo
  have hl := lv_entry ([Value.ref b]) (n := 4) (Nat.le_of_ble_eq_true rfl)
  rw [lg_entry_eq]
  refine hV s.heap [] _ (fun j => by show sA (1000 + j - 1000) = sA j; rw [Nat.add_sub_cancel_left]) (fun k q h => by simp [nj_pw] at h) ⟨fun i j p q h => by simp [nj_pw] at h, fun k q h => by simp [nj_pw] at h⟩ va_S.rf ⟨by rw [hml]; exact hl.1, hl.2.1, fun j v hv => ?_⟩
  match j, hv with
  | 0, hv =>
    cases hv
    have h1 := hl.2.2 (0, Value.ref b) List.mem_cons_self
    show _ = some (Slot.val (Value.ref (sA (2000 - 1000))))
    rw [hsb]
    exact h1
  | 1, hv => cases hv
  | 2, hv => cases hv
  | 3, hv => cases hv
  | k + 4, hv => simp at hv
set_option maxHeartbeats 4000000 in
theorem lw_walk (l : Launch) (b : Addr) (xs : List Int32) : MetFree l x (headSpec (Jvm.Cond.code x code maxLocals ret :: tables_1) room_1) (lw_P b xs) (fun _ _ _ _ _ => True) lw_Q := by
  refine MetFree.of_bodyS (code := code) (maxLocals := maxLocals) (ret := ret) (by decide) ?_ ?_
  · intro args s m h hn
    obtain ⟨meth, c, h1, h2, h3, h4, h5, h6, -, -⟩ := Cond.code_spec hn (atoms_spec (ws := Jvm.Cond.code x code maxLocals ret :: tables_1) h _ List.mem_cons_self)
    exact ⟨meth, c, h1, h2, h3, h4, h5, h6⟩
  · intro p e s m args below meth c s₁ B hml0 hP _
    obtain ⟨rfl, hx, hbd, hgv⟩ := hP
    obtain ⟨scr, harrAt, hlist, hof, hsmall⟩ := hx
    obtain ⟨hcb, hkn, -, -⟩ := State.arrayAt?_spec harrAt
    have hown : s.vm.findClass R_law = some m.cls := findClass_of_methodNamed B.named
    have hts0 : ∀ c ∈ (Jvm.Cond.code x code maxLocals ret :: tables_1), c.before #[Value.ref b] s = true := atoms_spec (ws := Jvm.Cond.code x code maxLocals ret :: tables_1) B.pre
    have hts : ∀ w ∈ lw_tbl, w.before #[Value.ref b] s = true := k2_hts_sels lw_privs (fun w hw => hts0 w (List.mem_cons_of_mem _ hw)) lw_privs_ok
    have hml : c.maxLocals = 4 := B.maxLocals_eq (hts0 _ List.mem_cons_self)
    have X₀ : Stand p l e room_1 s m #[Value.ref b] below meth c s₁ [] 0 0 := Stand.of_body B
    have hh0 : s₁.heap = s.heap := by rw [B.state]; rfl
    have hsz : scr.slots.size = xs.length := by rw [← Array.length_toList, hlist, List.length_map]
    have hval : ∀ j : Nat, j < xs.length → scr.slots[j]? = some (.int (xs.getD j 0)) := fun j hj => by
      rw [← Array.getElem?_toList, hlist]
      simp [hj]
    have hbl : b < s.heap.size := (Array.getElem?_eq_some_iff.mp hcb).1
    have hX : va_X b xs.length (fun j => xs.getD j 0) s s.heap := ⟨scr, hcb, hof, hkn, hsz, hval⟩
    have K : W p l e room_1 s m #[Value.ref b] below meth c s₁.heap [] 0 0 (lw_Z below #[Value.ref b] s) (entryFrame m ([Value.ref b] : List Value).toArray 4) := by
      rw [hh0]
      exact whole_start l hbd ⟨B.exec, B.bytes, B.returns, hml, hown, hts, hX, hbl, B.notSynchronized, hgv⟩
    obtain ⟨t, a1, o, b1, b2, b3⟩ := K s₁ rfl X₀
    exact ⟨t, o, a1, b1, b2, b3⟩
theorem lw_pre_spec {args : Array Value} {s : State} (h : (Jvm.Cond.and given_1 narrow_1).before args s = true) (hr : rest_1_c.before args s = true) : ∃ (b : Addr) (xs : List Int32), lw_P b xs args s := by
  have hs := flat_of_before _ h
  have hq := flat_of_before _ hr
  have hc : (Cond.count 1).before args s = true := hs _ (by decide +kernel)
  have harr : (Cond.arrayOf (.arg 0) .int).before args s = true := hs _ (by decide +kernel)
  have hle : (Cond.le (.length (.arg 0)) (.int 384)).before args s = true := hs _ (by decide +kernel)
  have hlen : (Cond.isInt (.length (.arg 0))).before args s = true := hq _ (by decide +kernel)
  have hall : (Cond.all (.arg 0) (.isInt (.elem (.arg 0) (.index 0)))).before args s = true := hq _ (by decide +kernel)
  obtain ⟨b, xs, hb, hx⟩ := State.ints_of_pre rfl harr hlen hall
  have hsm : xs.length < 2 ^ 31 := hx.choose_spec.2.2.2
  have hev : (Term.length (.arg 0)).eval args s none [] s = some (.int xs.length.toInt32) := hx.length_eval hb
  have hv := Cond.le_ints hev (show (Term.int 384).eval args s none [] s = some (.int 384) from rfl)
  have hd : xs.length.toInt32 ≤ 384 := by
    simpa [Cond.before, Cond.holds, hv] using hle
  have hN : xs.length ≤ 384 := (Int32.ofNat_le_ofNat hsm (by decide)).mp (show Int32.ofNat xs.length ≤ Int32.ofNat 384 from hd)
  exact ⟨b, xs, Cond.one_arg hc (show args[0]? = some (.ref b) from hb), hx, hN, h⟩
theorem lw_comes (l : Launch) : Comes l x (Jvm.Cond.code x code maxLocals ret :: tables_1) room_1 (fun tb e args s => Calls_1 tb e args s ∧ rest_1 tb e args s ∧ Pre_1 tb e args s)
    (fun _ _ args s o t => lw_Q args s o t) := by
  intro p e ha hc hk s m args below hf hfit hheap happ hpre
  obtain ⟨b, xs, hP⟩ := lw_pre_spec hpre.2.2 hpre.2.1
  obtain ⟨k, o, h1, h2, h3, hQ⟩ := lw_walk l b xs p e ha hc hk s m args below hf ((Spec.applies_iff_loose hf).mp happ).1 hP trivial
  exact ⟨k, o, h1, h2, h3, hQ⟩
theorem lw_frame {s t : State} {o : Outcome} {args : Array Value} (h : Framed s o t [] 600000 7302250) :
    Framed s o t (fieldLocs frame_1_writes args s ++ arrayLocs frame_1_arrays args s ++ staticLocs frame_1_statics s) 600000 7302250 := h
theorem lw_limb (L : Cond) (hL : ∀ (args : Array Value) (s t : State), L.after args s (.returned (some (.int 1))) t = true) :
    ArmFor flags0 classFile x code maxLocals ret World_1 tables_1 room_1 Calls_1 rest_1 Pre_1
      (fun tb e a s o t => postC L tb e a s o t ∧ Framed s o t (fieldLocs frame_1_writes a s ++ arrayLocs frame_1_arrays a s ++ staticLocs frame_1_statics s) 600000 7302250) := by
  intro l _ _ _ p e ha hc hk s m args below hf hfit hheap happ hpre
  obtain ⟨k, o, h1, h2, h3, rfl, hF⟩ := lw_comes l p e ha hc hk s m args below hf hfit hheap happ hpre
  exact ⟨k, _, h1, h2, h3, hL args s _, lw_frame hF⟩
theorem i_vc : Claimed_1_1 ∧ Claimed_1_2 := ⟨lw_limb limb_1_1 (fun args s t => by simp [limb_1_1, Cond.after, Cond.holds, Cond.value]), lw_limb limb_1_2 (fun args s t => Cond.after_iff.mpr (by
  first | (rw [show limb_1_2 = Cond.eq .result (.int 1) from rfl, Cond.eq_ints (x := 1) (y := 1) rfl rfl]; simp; done) | (simp [limb_1_2, Cond.value, Term.eval]; done)))⟩

