abbrev nr_Row_renew : Room := { frames := 0, cells := 0, slots := 0, locals := 0 }
theorem lw_Row_renew_7 {G : nj_G} {ad : Nat → Nat} (C : nj_C G nb_Row_renew 3 "NobodyJoins$Row" nr_Row_renew) (f1 : Int32) : ∀ (n : Nat) (r : RowS) (v2 : Int32) (x : RowS), lo_Row_renew_7 f1 n r v2 = some x → nj_V G ad 0 0 25 [none, none, none] [] (rp_Row x) → nj_V G ad 0 0 7 [some (.ref 0), some (.int f1), some (.int v2)] [] (rp_Row r) := by
  intro n
  induction n with
  | zero => intro r v2 x h; rw [lo_Row_renew_7] at h; cases h
  | succ n ih =>
    intro r v2 x h hk
    rw [lo_Row_renew_7] at h
    refine vr_il C nd_Row_renew_7 rfl ?_
    refine vr_il C nd_Row_renew_8 rfl ?_
    refine vr_cm_ge C nd_Row_renew_9 (fun hc => ?_) (fun hc => ?_)
    · have h := no_t hc h
      have h := no_s h
      subst h
      exact vr_wk [0, 1, 2] rfl hk
    · have h := no_f hc h
      refine vr_al C nd_Row_renew_12 rfl ?_
      refine vr_get (v := .ref 1) C nd_Row_renew_13 rfl fl_Row_9 (at_Row_0 r) rfl ?_
      refine vr_il C nd_Row_renew_16 rfl ?_
      refine vr_ic C nd_Row_renew_17 ?_
      obtain ⟨hN1, h⟩ := no_i h
      refine vr_iask (j := (nj_n v2)) (f := (ro_places r)) (hp' := (rp_Row (rs_places r (upd (ro_places r) (nj_n v2) (0 : Int32))))) C nd_Row_renew_18 rfl (at_Row_1 r) hN1 rfl (st_Row_1 r (upd (ro_places r) (nj_n v2) (0 : Int32))) ?_
      refine vr_inc (v := (v2 + (1 : Int32))) (ls' := [some (.ref 0), some (.int f1), some (.int (v2 + (1 : Int32)))]) C nd_Row_renew_19 rfl rfl rfl rfl rfl ?_
      refine vr_go C nd_Row_renew_22 ?_
      exact (ih _ _ _ h hk)
theorem co_Row_renew (r : RowS) (a1 : Int32) (x : RowS) (h : mo_Row_renew r a1 = some x) : nj_Con ny_Row_renew nb_Row_renew 3 none nr_Row_renew (rp_Row r) [.ref 0, .int a1] none (rp_Row x) := by
  rw [mo_Row_renew] at h
  refine nj_con (by decide) rfl 1 rfl (fun G ad C hq => ?_)
  have C : nj_C G nb_Row_renew 3 "NobodyJoins$Row" nr_Row_renew := C
  show nj_V G ad 0 0 0 [some (.ref 0), some (.int a1), none] [] (rp_Row r)
  refine vr_al C nd_Row_renew_0 rfl ?_
  refine vr_il C nd_Row_renew_1 rfl ?_
  refine vr_puti (hp' := (rp_Row (rs_size r a1))) C nd_Row_renew_2 rfl fl_Row_15 (at_Row_0 r) rfl (st_Row_0_1 r a1) ?_
  refine vr_ic C nd_Row_renew_5 ?_
  refine vr_is (ls' := [some (.ref 0), some (.int a1), some (.int (0 : Int32))]) C nd_Row_renew_6 rfl rfl ?_
  obtain ⟨x2, hX3, h⟩ := no_b h
  refine lw_Row_renew_7 C a1 nj_fu _ _ x2 hX3 ?_
  have h := no_s h
  subst h
  exact vr_vret C hq nd_Row_renew_25 rfl
abbrev nr_Row_isMissing : Room := { frames := 0, cells := 0, slots := 0, locals := 0 }
theorem co_Row_isMissing (r : RowS) (x : Bool) (h : mo_Row_isMissing r = some x) : nj_Con ny_Row_isMissing nb_Row_isMissing 1 (some .boolean) nr_Row_isMissing (rp_Row r) [.ref 0] (some (.int (nj_b x))) (rp_Row r) := by
  rw [mo_Row_isMissing] at h
  refine nj_con (by decide) rfl 0 rfl (fun G ad C hq => ?_)
  have C : nj_C G nb_Row_isMissing 1 "NobodyJoins$Row" nr_Row_isMissing := C
  show nj_V G ad 0 0 0 [some (.ref 0)] [] (rp_Row r)
  refine vr_al C nd_Row_isMissing_0 rfl ?_
  refine vr_get (v := .int (ro_size r)) C nd_Row_isMissing_1 rfl fl_Row_15 (at_Row_0 r) rfl ?_
  refine vr_if_ge C nd_Row_isMissing_4 (fun hc => ?_) (fun hc => ?_)
  · have h := no_t hc h
    refine vr_ic C nd_Row_isMissing_11 ?_
    have h := no_s h
    subst h
    exact vr_zret false C hq nd_Row_isMissing_12 rfl
  · have h := no_f hc h
    refine vr_ic C nd_Row_isMissing_7 ?_
    refine vr_go C nd_Row_isMissing_8 ?_
    have h := no_s h
    subst h
    exact vr_zret true C hq nd_Row_isMissing_12 rfl
abbrev nr_Row_hasPlace : Room := { frames := 0, cells := 0, slots := 0, locals := 0 }
theorem co_Row_hasPlace (r : RowS) (a1 : Int32) (x : Bool) (h : mo_Row_hasPlace r a1 = some x) : nj_Con ny_Row_hasPlace nb_Row_hasPlace 2 (some .boolean) nr_Row_hasPlace (rp_Row r) [.ref 0, .int a1] (some (.int (nj_b x))) (rp_Row r) := by
  rw [mo_Row_hasPlace] at h
  refine nj_con (by decide) rfl 0 rfl (fun G ad C hq => ?_)
  have C : nj_C G nb_Row_hasPlace 2 "NobodyJoins$Row" nr_Row_hasPlace := C
  show nj_V G ad 0 0 0 [some (.ref 0), some (.int a1)] [] (rp_Row r)
  refine vr_il C nd_Row_hasPlace_0 rfl ?_
  refine vr_if_lt C nd_Row_hasPlace_1 (fun hc => ?_) (fun hc => ?_)
  · have h := no_t hc h
    refine vr_ic C nd_Row_hasPlace_16 ?_
    have h := no_s h
    subst h
    exact vr_zret false C hq nd_Row_hasPlace_17 rfl
  · have h := no_f hc h
    refine vr_il C nd_Row_hasPlace_4 rfl ?_
    refine vr_al C nd_Row_hasPlace_5 rfl ?_
    refine vr_get (v := .int (ro_size r)) C nd_Row_hasPlace_6 rfl fl_Row_15 (at_Row_0 r) rfl ?_
    refine vr_cm_ge C nd_Row_hasPlace_9 (fun hc => ?_) (fun hc => ?_)
    · have h := no_t hc h
      refine vr_ic C nd_Row_hasPlace_16 ?_
      have h := no_s h
      subst h
      exact vr_zret false C hq nd_Row_hasPlace_17 rfl
    · have h := no_f hc h
      refine vr_ic C nd_Row_hasPlace_12 ?_
      refine vr_go C nd_Row_hasPlace_13 ?_
      have h := no_s h
      subst h
      exact vr_zret true C hq nd_Row_hasPlace_17 rfl
abbrev nr_Row_hasPlaces : Room := { frames := 0, cells := 0, slots := 0, locals := 0 }
theorem co_Row_hasPlaces (r : RowS) (a1 : Int32) (a2 : Int32) (x : Bool) (h : mo_Row_hasPlaces r a1 a2 = some x) : nj_Con ny_Row_hasPlaces nb_Row_hasPlaces 3 (some .boolean) nr_Row_hasPlaces (rp_Row r) [.ref 0, .int a1, .int a2] (some (.int (nj_b x))) (rp_Row r) := by
  rw [mo_Row_hasPlaces] at h
  refine nj_con (by decide) rfl 0 rfl (fun G ad C hq => ?_)
  have C : nj_C G nb_Row_hasPlaces 3 "NobodyJoins$Row" nr_Row_hasPlaces := C
  show nj_V G ad 0 0 0 [some (.ref 0), some (.int a1), some (.int a2)] [] (rp_Row r)
  refine vr_il C nd_Row_hasPlaces_0 rfl ?_
  refine vr_if_lt C nd_Row_hasPlaces_1 (fun hc => ?_) (fun hc => ?_)
  · have h := no_t hc h
    refine vr_ic C nd_Row_hasPlaces_26 ?_
    have h := no_s h
    subst h
    exact vr_zret false C hq nd_Row_hasPlaces_27 rfl
  · have h := no_f hc h
    refine vr_il C nd_Row_hasPlaces_4 rfl ?_
    refine vr_al C nd_Row_hasPlaces_5 rfl ?_
    refine vr_get (v := .int (ro_size r)) C nd_Row_hasPlaces_6 rfl fl_Row_15 (at_Row_0 r) rfl ?_
    refine vr_cm_gt C nd_Row_hasPlaces_9 (fun hc => ?_) (fun hc => ?_)
    · have h := no_t hc h
      refine vr_ic C nd_Row_hasPlaces_26 ?_
      have h := no_s h
      subst h
      exact vr_zret false C hq nd_Row_hasPlaces_27 rfl
    · have h := no_f hc h
      refine vr_il C nd_Row_hasPlaces_12 rfl ?_
      refine vr_al C nd_Row_hasPlaces_13 rfl ?_
      refine vr_get (v := .int (ro_size r)) C nd_Row_hasPlaces_14 rfl fl_Row_15 (at_Row_0 r) rfl ?_
      refine vr_il C nd_Row_hasPlaces_17 rfl ?_
      refine vr_isub C nd_Row_hasPlaces_18 rfl ?_
      refine vr_cm_gt C nd_Row_hasPlaces_19 (fun hc => ?_) (fun hc => ?_)
      · have h := no_t hc h
        refine vr_ic C nd_Row_hasPlaces_26 ?_
        have h := no_s h
        subst h
        exact vr_zret false C hq nd_Row_hasPlaces_27 rfl
      · have h := no_f hc h
        refine vr_ic C nd_Row_hasPlaces_22 ?_
        refine vr_go C nd_Row_hasPlaces_23 ?_
        have h := no_s h
        subst h
        exact vr_zret true C hq nd_Row_hasPlaces_27 rfl
abbrev nr_Row_sum : Room := { frames := 0, cells := 0, slots := 0, locals := 0 }
theorem lw_Row_sum_4 {G : nj_G} {ad : Nat → Nat} (C : nj_C G nb_Row_sum 4 "NobodyJoins$Row" nr_Row_sum) (r : RowS) : ∀ (n : Nat) (v1 : Int64) (v3 : Int32) (x : Int64), lo_Row_sum_4 r n v1 v3 = some x → nj_V G ad 0 0 28 [none, some (.long x), none, none] [] (rp_Row r) → nj_V G ad 0 0 4 [some (.ref 0), some (.long v1), none, some (.int v3)] [] (rp_Row r) := by
  intro n
  induction n with
  | zero => intro v1 v3 x h; rw [lo_Row_sum_4] at h; cases h
  | succ n ih =>
    intro v1 v3 x h hk
    rw [lo_Row_sum_4] at h
    refine vr_il C nd_Row_sum_4 rfl ?_
    refine vr_al C nd_Row_sum_5 rfl ?_
    refine vr_get (v := .int (ro_size r)) C nd_Row_sum_6 rfl fl_Row_15 (at_Row_0 r) rfl ?_
    refine vr_cm_ge C nd_Row_sum_9 (fun hc => ?_) (fun hc => ?_)
    · have h := no_t hc h
      have h := no_s h
      subst h
      exact vr_wk [0, 3] rfl hk
    · have h := no_f hc h
      refine vr_ll C nd_Row_sum_12 rfl ?_
      refine vr_al C nd_Row_sum_13 rfl ?_
      refine vr_get (v := .ref 1) C nd_Row_sum_14 rfl fl_Row_9 (at_Row_0 r) rfl ?_
      refine vr_il C nd_Row_sum_17 rfl ?_
      obtain ⟨hN1, h⟩ := no_i h
      refine vr_ialk (j := (nj_n v3)) (f := (ro_places r)) C nd_Row_sum_18 rfl (at_Row_1 r) hN1 rfl ?_
      refine vr_i2l C nd_Row_sum_19 rfl ?_
      refine vr_ladd C nd_Row_sum_20 rfl ?_
      refine vr_lst (ls' := [some (.ref 0), some (.long (v1 + (Int32.toInt64 ((ro_places r) (nj_n v3))))), none, some (.int v3)]) C nd_Row_sum_21 rfl rfl ?_
      refine vr_inc (v := (v3 + (1 : Int32))) (ls' := [some (.ref 0), some (.long (v1 + (Int32.toInt64 ((ro_places r) (nj_n v3))))), none, some (.int (v3 + (1 : Int32)))]) C nd_Row_sum_22 rfl rfl rfl rfl rfl ?_
      refine vr_go C nd_Row_sum_25 ?_
      exact (ih _ _ _ h hk)
theorem co_Row_sum (r : RowS) (x : Int64) (h : mo_Row_sum r = some x) : nj_Con ny_Row_sum nb_Row_sum 4 (some .long) nr_Row_sum (rp_Row r) [.ref 0] (some (.long x)) (rp_Row r) := by
  rw [mo_Row_sum] at h
  refine nj_con (by decide) rfl 3 rfl (fun G ad C hq => ?_)
  have C : nj_C G nb_Row_sum 4 "NobodyJoins$Row" nr_Row_sum := C
  show nj_V G ad 0 0 0 [some (.ref 0), none, none, none] [] (rp_Row r)
  refine vr_lc (v := (0 : Int64)) C nd_Row_sum_0 rfl (by decide) ?_
  refine vr_lst (ls' := [some (.ref 0), some (.long (0 : Int64)), none, none]) C nd_Row_sum_1 rfl rfl ?_
  refine vr_ic C nd_Row_sum_2 ?_
  refine vr_is (ls' := [some (.ref 0), some (.long (0 : Int64)), none, some (.int (0 : Int32))]) C nd_Row_sum_3 rfl rfl ?_
  obtain ⟨x2, hX3, h⟩ := no_b h
  refine lw_Row_sum_4 C r nj_fu _ _ x2 hX3 ?_
  refine vr_ll C nd_Row_sum_28 rfl ?_
  have h := no_s h
  subst h
  exact vr_lret C hq nd_Row_sum_29 rfl
abbrev nr_Text_renew : Room := { frames := 0, cells := 0, slots := 0, locals := 0 }
theorem lw_Text_renew_7 {G : nj_G} {ad : Nat → Nat} (C : nj_C G nb_Text_renew 3 "NobodyJoins$Text" nr_Text_renew) (f1 : Int32) : ∀ (n : Nat) (t : TexS) (v2 : Int32) (x : TexS), lo_Text_renew_7 f1 n t v2 = some x → nj_V G ad 0 0 26 [none, none, none] [] (rp_Tex x) → nj_V G ad 0 0 7 [some (.ref 0), some (.int f1), some (.int v2)] [] (rp_Tex t) := by
  intro n
  induction n with
  | zero => intro t v2 x h; rw [lo_Text_renew_7] at h; cases h
  | succ n ih =>
    intro t v2 x h hk
    rw [lo_Text_renew_7] at h
    refine vr_il C nd_Text_renew_7 rfl ?_
    refine vr_il C nd_Text_renew_8 rfl ?_
    refine vr_cm_ge C nd_Text_renew_9 (fun hc => ?_) (fun hc => ?_)
    · have h := no_t hc h
      have h := no_s h
      subst h
      exact vr_wk [0, 1, 2] rfl hk
    · have h := no_f hc h
      refine vr_al C nd_Text_renew_12 rfl ?_
      refine vr_get (v := .ref 1) C nd_Text_renew_13 rfl fl_Text_9 (at_Tex_0 t) rfl ?_
      refine vr_il C nd_Text_renew_16 rfl ?_
      refine vr_ic C nd_Text_renew_17 ?_
      obtain ⟨hN1, h⟩ := no_i h
      refine vr_bask (j := (nj_n v2)) (f := (te_bytes t)) (hp' := (rp_Tex (ts_bytes t (upd (te_bytes t) (nj_n v2) (vp_nar .byte (32 : Int32)))))) C nd_Text_renew_19 rfl (at_Tex_1 t) hN1 rfl (st_Tex_1 t (upd (te_bytes t) (nj_n v2) (vp_nar .byte (32 : Int32)))) ?_
      refine vr_inc (v := (v2 + (1 : Int32))) (ls' := [some (.ref 0), some (.int f1), some (.int (v2 + (1 : Int32)))]) C nd_Text_renew_20 rfl rfl rfl rfl rfl ?_
      refine vr_go C nd_Text_renew_23 ?_
      exact (ih _ _ _ h hk)
theorem co_Text_renew (t : TexS) (a1 : Int32) (x : TexS) (h : mo_Text_renew t a1 = some x) : nj_Con ny_Text_renew nb_Text_renew 3 none nr_Text_renew (rp_Tex t) [.ref 0, .int a1] none (rp_Tex x) := by
  rw [mo_Text_renew] at h
  refine nj_con (by decide) rfl 1 rfl (fun G ad C hq => ?_)
  have C : nj_C G nb_Text_renew 3 "NobodyJoins$Text" nr_Text_renew := C
  show nj_V G ad 0 0 0 [some (.ref 0), some (.int a1), none] [] (rp_Tex t)
  refine vr_al C nd_Text_renew_0 rfl ?_
  refine vr_il C nd_Text_renew_1 rfl ?_
  refine vr_puti (hp' := (rp_Tex (ts_size t a1))) C nd_Text_renew_2 rfl fl_Text_15 (at_Tex_0 t) rfl (st_Tex_0_1 t a1) ?_
  refine vr_ic C nd_Text_renew_5 ?_
  refine vr_is (ls' := [some (.ref 0), some (.int a1), some (.int (0 : Int32))]) C nd_Text_renew_6 rfl rfl ?_
  obtain ⟨x2, hX3, h⟩ := no_b h
  refine lw_Text_renew_7 C a1 nj_fu _ _ x2 hX3 ?_
  have h := no_s h
  subst h
  exact vr_vret C hq nd_Text_renew_26 rfl
abbrev nr_Text_isMissing : Room := { frames := 0, cells := 0, slots := 0, locals := 0 }
theorem co_Text_isMissing (t : TexS) (x : Bool) (h : mo_Text_isMissing t = some x) : nj_Con ny_Text_isMissing nb_Text_isMissing 1 (some .boolean) nr_Text_isMissing (rp_Tex t) [.ref 0] (some (.int (nj_b x))) (rp_Tex t) := by
  rw [mo_Text_isMissing] at h
  refine nj_con (by decide) rfl 0 rfl (fun G ad C hq => ?_)
  have C : nj_C G nb_Text_isMissing 1 "NobodyJoins$Text" nr_Text_isMissing := C
  show nj_V G ad 0 0 0 [some (.ref 0)] [] (rp_Tex t)
  refine vr_al C nd_Text_isMissing_0 rfl ?_
  refine vr_get (v := .int (te_size t)) C nd_Text_isMissing_1 rfl fl_Text_15 (at_Tex_0 t) rfl ?_
  refine vr_if_ge C nd_Text_isMissing_4 (fun hc => ?_) (fun hc => ?_)
  · have h := no_t hc h
    refine vr_ic C nd_Text_isMissing_11 ?_
    have h := no_s h
    subst h
    exact vr_zret false C hq nd_Text_isMissing_12 rfl
  · have h := no_f hc h
    refine vr_ic C nd_Text_isMissing_7 ?_
    refine vr_go C nd_Text_isMissing_8 ?_
    have h := no_s h
    subst h
    exact vr_zret true C hq nd_Text_isMissing_12 rfl
abbrev nr_Text_hasPlace : Room := { frames := 0, cells := 0, slots := 0, locals := 0 }
theorem co_Text_hasPlace (t : TexS) (a1 : Int32) (x : Bool) (h : mo_Text_hasPlace t a1 = some x) : nj_Con ny_Text_hasPlace nb_Text_hasPlace 2 (some .boolean) nr_Text_hasPlace (rp_Tex t) [.ref 0, .int a1] (some (.int (nj_b x))) (rp_Tex t) := by
  rw [mo_Text_hasPlace] at h
  refine nj_con (by decide) rfl 0 rfl (fun G ad C hq => ?_)
  have C : nj_C G nb_Text_hasPlace 2 "NobodyJoins$Text" nr_Text_hasPlace := C
  show nj_V G ad 0 0 0 [some (.ref 0), some (.int a1)] [] (rp_Tex t)
  refine vr_il C nd_Text_hasPlace_0 rfl ?_
  refine vr_if_lt C nd_Text_hasPlace_1 (fun hc => ?_) (fun hc => ?_)
  · have h := no_t hc h
    refine vr_ic C nd_Text_hasPlace_16 ?_
    have h := no_s h
    subst h
    exact vr_zret false C hq nd_Text_hasPlace_17 rfl
  · have h := no_f hc h
    refine vr_il C nd_Text_hasPlace_4 rfl ?_
    refine vr_al C nd_Text_hasPlace_5 rfl ?_
    refine vr_get (v := .int (te_size t)) C nd_Text_hasPlace_6 rfl fl_Text_15 (at_Tex_0 t) rfl ?_
    refine vr_cm_ge C nd_Text_hasPlace_9 (fun hc => ?_) (fun hc => ?_)
    · have h := no_t hc h
      refine vr_ic C nd_Text_hasPlace_16 ?_
      have h := no_s h
      subst h
      exact vr_zret false C hq nd_Text_hasPlace_17 rfl
    · have h := no_f hc h
      refine vr_ic C nd_Text_hasPlace_12 ?_
      refine vr_go C nd_Text_hasPlace_13 ?_
      have h := no_s h
      subst h
      exact vr_zret true C hq nd_Text_hasPlace_17 rfl
abbrev nr_Club_clear : Room := { frames := 0, cells := 0, slots := 0, locals := 0 }
theorem co_Club_clear (c : CluS) (x : CluS) (h : mo_Club_clear c = some x) : nj_Con ny_Club_clear nb_Club_clear 1 none nr_Club_clear (rp_Club c) [.ref 0] none (rp_Club x) := by
  rw [mo_Club_clear] at h
  refine nj_con (by decide) rfl 0 rfl (fun G ad C hq => ?_)
  have C : nj_C G nb_Club_clear 1 "NobodyJoins$Club" nr_Club_clear := C
  show nj_V G ad 0 0 0 [some (.ref 0)] [] (rp_Club c)
  refine vr_al C nd_Club_clear_0 rfl ?_
  refine vr_ic C nd_Club_clear_1 ?_
  refine vr_puti (hp' := (rp_Club (cs_children c (0 : Int32)))) C nd_Club_clear_2 rfl fl_Club_24 (at_Club_0 c) rfl (st_Club_0_4 c (0 : Int32)) ?_
  refine vr_al C nd_Club_clear_5 rfl ?_
  refine vr_ic C nd_Club_clear_6 ?_
  refine vr_puti (hp' := (rp_Club (cs_rule (cs_children c (0 : Int32)) (0 : Int32)))) C nd_Club_clear_7 rfl fl_Club_28 (at_Club_0 (cs_children c (0 : Int32))) rfl (st_Club_0_5 (cs_children c (0 : Int32)) (0 : Int32)) ?_
  refine vr_al C nd_Club_clear_10 rfl ?_
  refine vr_ic C nd_Club_clear_11 ?_
  refine vr_puti (hp' := (rp_Club (cs_inn (cs_rule (cs_children c (0 : Int32)) (0 : Int32)) (0 : Int32)))) C nd_Club_clear_12 rfl fl_Club_31 (at_Club_0 (cs_rule (cs_children c (0 : Int32)) (0 : Int32))) rfl (st_Club_0_6 (cs_rule (cs_children c (0 : Int32)) (0 : Int32)) (0 : Int32)) ?_
  refine vr_al C nd_Club_clear_15 rfl ?_
  refine vr_ic C nd_Club_clear_16 ?_
  refine vr_puti (hp' := (rp_Club (cs_tin (cs_inn (cs_rule (cs_children c (0 : Int32)) (0 : Int32)) (0 : Int32)) (0 : Int32)))) C nd_Club_clear_17 rfl fl_Club_34 (at_Club_0 (cs_inn (cs_rule (cs_children c (0 : Int32)) (0 : Int32)) (0 : Int32))) rfl (st_Club_0_7 (cs_inn (cs_rule (cs_children c (0 : Int32)) (0 : Int32)) (0 : Int32)) (0 : Int32)) ?_
  refine vr_al C nd_Club_clear_20 rfl ?_
  refine vr_ic C nd_Club_clear_21 ?_
  refine vr_puti (hp' := (rp_Club (cs_dc (cs_tin (cs_inn (cs_rule (cs_children c (0 : Int32)) (0 : Int32)) (0 : Int32)) (0 : Int32)) (0 : Int32)))) C nd_Club_clear_22 rfl fl_Club_37 (at_Club_0 (cs_tin (cs_inn (cs_rule (cs_children c (0 : Int32)) (0 : Int32)) (0 : Int32)) (0 : Int32))) rfl (st_Club_0_8 (cs_tin (cs_inn (cs_rule (cs_children c (0 : Int32)) (0 : Int32)) (0 : Int32)) (0 : Int32)) (0 : Int32)) ?_
  have h := no_s h
  subst h
  exact vr_vret C hq nd_Club_clear_25 rfl
abbrev nr_Text_signAt : Room := { frames := 1, cells := 0, slots := 0, locals := 21 }
theorem co_Text_signAt (t : TexS) (a1 : Int32) (x : Int32) (h : mo_Text_signAt t a1 = some x) : nj_Con ny_Text_signAt nb_Text_signAt 2 (some .int) nr_Text_signAt (rp_Tex t) [.ref 0, .int a1] (some (.int x)) (rp_Tex t) := by
  rw [mo_Text_signAt] at h
  refine nj_con (by decide) rfl 0 rfl (fun G ad C hq => ?_)
  have C : nj_C G nb_Text_signAt 2 "NobodyJoins$Text" nr_Text_signAt := C
  show nj_V G ad 0 0 0 [some (.ref 0), some (.int a1)] [] (rp_Tex t)
  refine vr_al C nd_Text_signAt_0 rfl ?_
  refine vr_il C nd_Text_signAt_1 rfl ?_
  obtain ⟨w1, hV2, h⟩ := no_b h
  refine vr_sVi (hp' := (rp_Tex t)) [.int a1] [] C nd_Text_signAt_2 rfl ml_Text_19 my_Text_hasPlace (co_Text_hasPlace t a1 w1 hV2) ⟨_, _, _, rfl, rfl, rfl⟩ rfl rfl ⟨rfl, rfl, rfl, rfl⟩ (Nat.zero_le _) (Nat.zero_le _) rfl ?_
  refine vr_ifb_eq C nd_Text_signAt_5 (fun hc => ?_) (fun hc => ?_)
  · have h := no_bf hc h
    refine vr_ic C nd_Text_signAt_17 ?_
    have h := no_s h
    subst h
    exact vr_iret C hq nd_Text_signAt_18 rfl
  · have h := no_bt hc h
    refine vr_al C nd_Text_signAt_8 rfl ?_
    refine vr_get (v := .ref 1) C nd_Text_signAt_9 rfl fl_Text_9 (at_Tex_0 t) rfl ?_
    refine vr_il C nd_Text_signAt_12 rfl ?_
    obtain ⟨hN3, h⟩ := no_i h
    refine vr_balk (j := (nj_n a1)) (f := (te_bytes t)) C nd_Text_signAt_13 rfl (at_Tex_1 t) hN3 rfl ?_
    refine vr_go C nd_Text_signAt_14 ?_
    have h := no_s h
    subst h
    exact vr_iret C hq nd_Text_signAt_18 rfl
abbrev nr_Reader_skipBlanks : Room := { frames := 2, cells := 0, slots := 0, locals := 42 }
theorem lw_Reader_skipBlanks_0 {G : nj_G} {ad : Nat → Nat} (C : nj_C G nb_Reader_skipBlanks 2 "NobodyJoins$Reader" nr_Reader_skipBlanks) (t : TexS) (c : CluS) : ∀ (n : Nat) (d : RdS) (x : RdS), lo_Reader_skipBlanks_0 t c n d = some x → nj_V G ad 0 0 37 [none, none] [] (rp_Rdr x t c) → nj_V G ad 0 0 0 [some (.ref 0), some (.ref 1)] [] (rp_Rdr d t c) := by
  intro n
  induction n with
  | zero => intro d x h; rw [lo_Reader_skipBlanks_0] at h; cases h
  | succ n ih =>
    intro d x h hk
    rw [lo_Reader_skipBlanks_0] at h
    refine vr_al C nd_Reader_skipBlanks_0 rfl ?_
    refine vr_get (v := .int (rd_place d)) C nd_Reader_skipBlanks_1 rfl fl_Reader_9 (at_Rdr_0 d t c) rfl ?_
    refine vr_al C nd_Reader_skipBlanks_4 rfl ?_
    refine vr_get (v := .int (te_size t)) C nd_Reader_skipBlanks_5 rfl fl_Reader_31 (at_Rdr_1 d t c) rfl ?_
    refine vr_cm_ge C nd_Reader_skipBlanks_8 (fun hc => ?_) (fun hc => ?_)
    · have h := no_t hc h
      have h := no_s h
      subst h
      exact vr_wk [0, 1] rfl hk
    · have h := no_f hc h
      refine vr_al C nd_Reader_skipBlanks_11 rfl ?_
      refine vr_al C nd_Reader_skipBlanks_12 rfl ?_
      refine vr_get (v := .int (rd_place d)) C nd_Reader_skipBlanks_13 rfl fl_Reader_9 (at_Rdr_0 d t c) rfl ?_
      obtain ⟨w1, hV2, h⟩ := no_b h
      refine vr_cVip [1, 2] [.int (rd_place d)] [] C nd_Reader_skipBlanks_16 rfl ml_Reader_39 my_Text_signAt (co_Text_signAt t (rd_place d) w1 hV2) (em_Rdr_Text d t c) ⟨_, _, _, rfl, rfl, rfl⟩ rfl rfl ⟨rfl, rfl, rfl, rfl⟩ (Nat.zero_le _) (Nat.zero_le _) rfl ?_
      refine vr_ic C nd_Reader_skipBlanks_19 ?_
      refine vr_cm_ne C nd_Reader_skipBlanks_21 (fun hc => ?_) (fun hc => ?_)
      · have h := no_f hc h
        have h := no_s h
        subst h
        exact vr_wk [0, 1] rfl hk
      · have h := no_t hc h
        refine vr_al C nd_Reader_skipBlanks_24 rfl ?_
        refine vr_dup C nd_Reader_skipBlanks_25 rfl rfl ?_
        refine vr_get (v := .int (rd_place d)) C nd_Reader_skipBlanks_26 rfl fl_Reader_9 (at_Rdr_0 d t c) rfl ?_
        refine vr_ic C nd_Reader_skipBlanks_29 ?_
        refine vr_iadd C nd_Reader_skipBlanks_30 rfl ?_
        refine vr_puti (hp' := (rp_Rdr (ds_place d ((rd_place d) + (1 : Int32))) t c)) C nd_Reader_skipBlanks_31 rfl fl_Reader_9 (at_Rdr_0 d t c) rfl (st_Rdr_0_0 d t c ((rd_place d) + (1 : Int32))) ?_
        refine vr_go C nd_Reader_skipBlanks_34 ?_
        exact (ih _ _ h hk)
theorem co_Reader_skipBlanks (d : RdS) (t : TexS) (c : CluS) (x : RdS) (h : mo_Reader_skipBlanks d t c = some x) : nj_Con ny_Reader_skipBlanks nb_Reader_skipBlanks 2 none nr_Reader_skipBlanks (rp_Rdr d t c) [.ref 0, .ref 1] none (rp_Rdr x t c) := by
  rw [mo_Reader_skipBlanks] at h
  refine nj_con (by decide) rfl 0 rfl (fun G ad C hq => ?_)
  have C : nj_C G nb_Reader_skipBlanks 2 "NobodyJoins$Reader" nr_Reader_skipBlanks := C
  show nj_V G ad 0 0 0 [some (.ref 0), some (.ref 1)] [] (rp_Rdr d t c)
  obtain ⟨x3, hX4, h⟩ := no_b h
  refine lw_Reader_skipBlanks_0 C t c nj_fu _ x3 hX4 ?_
  have h := no_s h
  subst h
  exact vr_vret C hq nd_Reader_skipBlanks_37 rfl
abbrev nr_Text_figureAt : Room := { frames := 2, cells := 0, slots := 0, locals := 42 }
theorem co_Text_figureAt (t : TexS) (a1 : Int32) (a2 : Int32) (x : Int32) (h : mo_Text_figureAt t a1 a2 = some x) : nj_Con ny_Text_figureAt nb_Text_figureAt 4 (some .int) nr_Text_figureAt (rp_Tex t) [.ref 0, .int a1, .int a2] (some (.int x)) (rp_Tex t) := by
  rw [mo_Text_figureAt] at h
  refine nj_con (by decide) rfl 1 rfl (fun G ad C hq => ?_)
  have C : nj_C G nb_Text_figureAt 4 "NobodyJoins$Text" nr_Text_figureAt := C
  show nj_V G ad 0 0 0 [some (.ref 0), some (.int a1), some (.int a2), none] [] (rp_Tex t)
  refine vr_al C nd_Text_figureAt_0 rfl ?_
  refine vr_il C nd_Text_figureAt_1 rfl ?_
  obtain ⟨w1, hV2, h⟩ := no_b h
  refine vr_sVi (hp' := (rp_Tex t)) [.int a1] [] C nd_Text_figureAt_2 rfl ml_Text_23 my_Text_signAt (co_Text_signAt t a1 w1 hV2) ⟨_, _, _, rfl, rfl, rfl⟩ rfl rfl ⟨rfl, rfl, rfl, rfl⟩ (Nat.zero_le _) (Nat.zero_le _) rfl ?_
  refine vr_ic C nd_Text_figureAt_5 ?_
  refine vr_isub C nd_Text_figureAt_7 rfl ?_
  refine vr_is (ls' := [some (.ref 0), some (.int a1), some (.int a2), some (.int (w1 - (48 : Int32)))]) C nd_Text_figureAt_8 rfl rfl ?_
  refine vr_il C nd_Text_figureAt_9 rfl ?_
  refine vr_if_lt C nd_Text_figureAt_10 (fun hc => ?_) (fun hc => ?_)
  · have h := no_t hc h
    refine vr_ic C nd_Text_figureAt_22 ?_
    have h := no_s h
    subst h
    exact vr_iret C hq nd_Text_figureAt_24 rfl
  · have h := no_f hc h
    refine vr_il C nd_Text_figureAt_13 rfl ?_
    refine vr_il C nd_Text_figureAt_14 rfl ?_
    refine vr_cm_ge C nd_Text_figureAt_15 (fun hc => ?_) (fun hc => ?_)
    · have h := no_t hc h
      refine vr_ic C nd_Text_figureAt_22 ?_
      have h := no_s h
      subst h
      exact vr_iret C hq nd_Text_figureAt_24 rfl
    · have h := no_f hc h
      refine vr_il C nd_Text_figureAt_18 rfl ?_
      refine vr_go C nd_Text_figureAt_19 ?_
      have h := no_s h
      subst h
      exact vr_iret C hq nd_Text_figureAt_24 rfl
abbrev nr_Reader_readRule : Room := { frames := 3, cells := 0, slots := 0, locals := 65 }
theorem co_Reader_readRule (d : RdS) (t : TexS) (c : CluS) (x : Bool × RdS × CluS) (h : mo_Reader_readRule d t c = some x) : nj_Con ny_Reader_readRule nb_Reader_readRule 4 (some .boolean) nr_Reader_readRule (rp_Rdr d t c) [.ref 0, .ref 1, .ref 3] (some (.int (nj_b (x.1)))) (rp_Rdr (x.2.1) t (x.2.2)) := by
  rw [mo_Reader_readRule] at h
  refine nj_con (by decide) rfl 1 rfl (fun G ad C hq => ?_)
  have C : nj_C G nb_Reader_readRule 4 "NobodyJoins$Reader" nr_Reader_readRule := C
  show nj_V G ad 0 0 0 [some (.ref 0), some (.ref 1), some (.ref 3), none] [] (rp_Rdr d t c)
  refine vr_al C nd_Reader_readRule_0 rfl ?_
  refine vr_al C nd_Reader_readRule_1 rfl ?_
  refine vr_get (v := .int (rd_place d)) C nd_Reader_readRule_2 rfl fl_Reader_9 (at_Rdr_0 d t c) rfl ?_
  obtain ⟨w1, hV2, h⟩ := no_b h
  refine vr_cVip [1, 2] [.int (rd_place d)] [] C nd_Reader_readRule_5 rfl ml_Reader_39 my_Text_signAt (co_Text_signAt t (rd_place d) w1 hV2) (em_Rdr_Text d t c) ⟨_, _, _, rfl, rfl, rfl⟩ rfl rfl ⟨rfl, rfl, rfl, rfl⟩ (Nat.zero_le _) (Nat.zero_le _) rfl ?_
  refine vr_ic C nd_Reader_readRule_8 ?_
  refine vr_cm_eq C nd_Reader_readRule_10 (fun hc => ?_) (fun hc => ?_)
  · have h := no_t hc h
    refine vr_al C nd_Reader_readRule_15 rfl ?_
    refine vr_dup C nd_Reader_readRule_16 rfl rfl ?_
    refine vr_get (v := .int (rd_place d)) C nd_Reader_readRule_17 rfl fl_Reader_9 (at_Rdr_0 d t c) rfl ?_
    refine vr_ic C nd_Reader_readRule_20 ?_
    refine vr_iadd C nd_Reader_readRule_21 rfl ?_
    refine vr_puti (hp' := (rp_Rdr (ds_place d ((rd_place d) + (1 : Int32))) t c)) C nd_Reader_readRule_22 rfl fl_Reader_9 (at_Rdr_0 d t c) rfl (st_Rdr_0_0 d t c ((rd_place d) + (1 : Int32))) ?_
    refine vr_al C nd_Reader_readRule_25 rfl ?_
    refine vr_al C nd_Reader_readRule_26 rfl ?_
    refine vr_get (v := .int ((rd_place d) + (1 : Int32))) C nd_Reader_readRule_27 rfl fl_Reader_9 (at_Rdr_0 (ds_place d ((rd_place d) + (1 : Int32))) t c) rfl ?_
    refine vr_ic C nd_Reader_readRule_30 ?_
    obtain ⟨w3, hV4, h⟩ := no_b h
    refine vr_cVip [1, 2] [.int ((rd_place d) + (1 : Int32)), .int (4 : Int32)] [] C nd_Reader_readRule_31 rfl ml_Reader_49 my_Text_figureAt (co_Text_figureAt t ((rd_place d) + (1 : Int32)) (4 : Int32) w3 hV4) (em_Rdr_Text (ds_place d ((rd_place d) + (1 : Int32))) t c) ⟨_, _, _, rfl, rfl, rfl⟩ rfl rfl ⟨rfl, rfl, rfl, rfl⟩ (Nat.zero_le _) (Nat.zero_le _) rfl ?_
    refine vr_is (ls' := [some (.ref 0), some (.ref 1), some (.ref 3), some (.int w3)]) C nd_Reader_readRule_34 rfl rfl ?_
    refine vr_il C nd_Reader_readRule_35 rfl ?_
    refine vr_if_ge C nd_Reader_readRule_36 (fun hc => ?_) (fun hc => ?_)
    · have h := no_t hc h
      refine vr_al C nd_Reader_readRule_41 rfl ?_
      refine vr_dup C nd_Reader_readRule_42 rfl rfl ?_
      refine vr_get (v := .int ((rd_place d) + (1 : Int32))) C nd_Reader_readRule_43 rfl fl_Reader_9 (at_Rdr_0 (ds_place d ((rd_place d) + (1 : Int32))) t c) rfl ?_
      refine vr_ic C nd_Reader_readRule_46 ?_
      refine vr_iadd C nd_Reader_readRule_47 rfl ?_
      refine vr_puti (hp' := (rp_Rdr (ds_place d (((rd_place d) + (1 : Int32)) + (1 : Int32))) t c)) C nd_Reader_readRule_48 rfl fl_Reader_9 (at_Rdr_0 (ds_place d ((rd_place d) + (1 : Int32))) t c) rfl (st_Rdr_0_0 (ds_place d ((rd_place d) + (1 : Int32))) t c (((rd_place d) + (1 : Int32)) + (1 : Int32))) ?_
      refine vr_al C nd_Reader_readRule_51 rfl ?_
      refine vr_il C nd_Reader_readRule_52 rfl ?_
      refine vr_puti (hp' := (rp_Rdr (ds_place d (((rd_place d) + (1 : Int32)) + (1 : Int32))) t (cs_rule c w3))) C nd_Reader_readRule_53 rfl fl_Reader_53 (at_Rdr_3 (ds_place d (((rd_place d) + (1 : Int32)) + (1 : Int32))) t c) rfl (st_Rdr_3_5 (ds_place d (((rd_place d) + (1 : Int32)) + (1 : Int32))) t c w3) ?_
      refine vr_ic C nd_Reader_readRule_56 ?_
      have h := no_s h
      subst h
      exact vr_zret true C hq nd_Reader_readRule_57 rfl
    · have h := no_f hc h
      refine vr_ic C nd_Reader_readRule_39 ?_
      have h := no_s h
      subst h
      exact vr_zret false C hq nd_Reader_readRule_40 rfl
  · have h := no_f hc h
    refine vr_ic C nd_Reader_readRule_13 ?_
    have h := no_s h
    subst h
    exact vr_zret false C hq nd_Reader_readRule_14 rfl
abbrev nr_Club_toggleLiking : Room := { frames := 0, cells := 0, slots := 0, locals := 0 }
theorem co_Club_toggleLiking (c : CluS) (a1 : Int32) (a2 : Int32) (x : CluS) (h : mo_Club_toggleLiking c a1 a2 = some x) : nj_Con ny_Club_toggleLiking nb_Club_toggleLiking 3 none nr_Club_toggleLiking (rp_Club c) [.ref 0, .int a1, .int a2] none (rp_Club x) := by
  rw [mo_Club_toggleLiking] at h
  refine nj_con (by decide) rfl 0 rfl (fun G ad C hq => ?_)
  have C : nj_C G nb_Club_toggleLiking 3 "NobodyJoins$Club" nr_Club_toggleLiking := C
  show nj_V G ad 0 0 0 [some (.ref 0), some (.int a1), some (.int a2)] [] (rp_Club c)
  refine vr_al C nd_Club_toggleLiking_0 rfl ?_
  refine vr_get (v := .ref 3) C nd_Club_toggleLiking_1 rfl fl_Club_18 (at_Club_0 c) rfl ?_
  refine vr_il C nd_Club_toggleLiking_4 rfl ?_
  refine vr_dup2 C nd_Club_toggleLiking_5 rfl rfl rfl ?_
  obtain ⟨hN1, h⟩ := no_i h
  refine vr_ialk (j := (nj_n a2)) (f := (cl_liked c)) C nd_Club_toggleLiking_6 rfl (at_Club_3 c) hN1 rfl ?_
  refine vr_ic C nd_Club_toggleLiking_7 ?_
  refine vr_il C nd_Club_toggleLiking_8 rfl ?_
  refine vr_ishl C nd_Club_toggleLiking_9 rfl ?_
  refine vr_ixor C nd_Club_toggleLiking_10 rfl ?_
  obtain ⟨hN2, h⟩ := no_i h
  refine vr_iask (j := (nj_n a2)) (f := (cl_liked c)) (hp' := (rp_Club (cs_liked c (upd (cl_liked c) (nj_n a2) (((cl_liked c) (nj_n a2)) ^^^ ((1 : Int32) <<< (a1 &&& 31))))))) C nd_Club_toggleLiking_11 rfl (at_Club_3 c) hN2 rfl (st_Club_3 c (upd (cl_liked c) (nj_n a2) (((cl_liked c) (nj_n a2)) ^^^ ((1 : Int32) <<< (a1 &&& 31))))) ?_
  have h := no_s h
  subst h
  exact vr_vret C hq nd_Club_toggleLiking_12 rfl
abbrev nr_Reader_readPair : Room := { frames := 3, cells := 0, slots := 0, locals := 65 }
theorem co_Reader_readPair (d : RdS) (t : TexS) (c : CluS) (x : Bool × RdS × CluS) (h : mo_Reader_readPair d t c = some x) : nj_Con ny_Reader_readPair nb_Reader_readPair 5 (some .boolean) nr_Reader_readPair (rp_Rdr d t c) [.ref 0, .ref 1, .ref 3] (some (.int (nj_b (x.1)))) (rp_Rdr (x.2.1) t (x.2.2)) := by
  rw [mo_Reader_readPair] at h
  refine nj_con (by decide) rfl 2 rfl (fun G ad C hq => ?_)
  have C : nj_C G nb_Reader_readPair 5 "NobodyJoins$Reader" nr_Reader_readPair := C
  show nj_V G ad 0 0 0 [some (.ref 0), some (.ref 1), some (.ref 3), none, none] [] (rp_Rdr d t c)
  refine vr_al C nd_Reader_readPair_0 rfl ?_
  refine vr_get (v := .int (cl_children c)) C nd_Reader_readPair_1 rfl fl_Reader_36 (at_Rdr_3 d t c) rfl ?_
  refine vr_if_eq C nd_Reader_readPair_4 (fun hc => ?_) (fun hc => ?_)
  · have h := no_t hc h
    refine vr_ic C nd_Reader_readPair_16 ?_
    have h := no_s h
    subst h
    exact vr_zret false C hq nd_Reader_readPair_17 rfl
  · have h := no_f hc h
    refine vr_al C nd_Reader_readPair_7 rfl ?_
    refine vr_get (v := .int (rd_pairs d)) C nd_Reader_readPair_8 rfl fl_Reader_15 (at_Rdr_0 d t c) rfl ?_
    refine vr_ic C nd_Reader_readPair_11 ?_
    refine vr_cm_lt C nd_Reader_readPair_13 (fun hc => ?_) (fun hc => ?_)
    · have h := no_t hc h
      refine vr_al C nd_Reader_readPair_18 rfl ?_
      refine vr_dup C nd_Reader_readPair_19 rfl rfl ?_
      refine vr_get (v := .int (rd_place d)) C nd_Reader_readPair_20 rfl fl_Reader_9 (at_Rdr_0 d t c) rfl ?_
      refine vr_ic C nd_Reader_readPair_23 ?_
      refine vr_iadd C nd_Reader_readPair_24 rfl ?_
      refine vr_puti (hp' := (rp_Rdr (ds_place d ((rd_place d) + (1 : Int32))) t c)) C nd_Reader_readPair_25 rfl fl_Reader_9 (at_Rdr_0 d t c) rfl (st_Rdr_0_0 d t c ((rd_place d) + (1 : Int32))) ?_
      refine vr_al C nd_Reader_readPair_28 rfl ?_
      refine vr_al C nd_Reader_readPair_29 rfl ?_
      refine vr_get (v := .int ((rd_place d) + (1 : Int32))) C nd_Reader_readPair_30 rfl fl_Reader_9 (at_Rdr_0 (ds_place d ((rd_place d) + (1 : Int32))) t c) rfl ?_
      refine vr_al C nd_Reader_readPair_33 rfl ?_
      refine vr_get (v := .int (cl_children c)) C nd_Reader_readPair_34 rfl fl_Reader_36 (at_Rdr_3 (ds_place d ((rd_place d) + (1 : Int32))) t c) rfl ?_
      obtain ⟨w1, hV2, h⟩ := no_b h
      refine vr_cVip [1, 2] [.int ((rd_place d) + (1 : Int32)), .int (cl_children c)] [] C nd_Reader_readPair_37 rfl ml_Reader_49 my_Text_figureAt (co_Text_figureAt t ((rd_place d) + (1 : Int32)) (cl_children c) w1 hV2) (em_Rdr_Text (ds_place d ((rd_place d) + (1 : Int32))) t c) ⟨_, _, _, rfl, rfl, rfl⟩ rfl rfl ⟨rfl, rfl, rfl, rfl⟩ (Nat.zero_le _) (Nat.zero_le _) rfl ?_
      refine vr_is (ls' := [some (.ref 0), some (.ref 1), some (.ref 3), some (.int w1), none]) C nd_Reader_readPair_40 rfl rfl ?_
      refine vr_il C nd_Reader_readPair_41 rfl ?_
      refine vr_if_ge C nd_Reader_readPair_42 (fun hc => ?_) (fun hc => ?_)
      · have h := no_t hc h
        refine vr_al C nd_Reader_readPair_47 rfl ?_
        refine vr_dup C nd_Reader_readPair_48 rfl rfl ?_
        refine vr_get (v := .int ((rd_place d) + (1 : Int32))) C nd_Reader_readPair_49 rfl fl_Reader_9 (at_Rdr_0 (ds_place d ((rd_place d) + (1 : Int32))) t c) rfl ?_
        refine vr_ic C nd_Reader_readPair_52 ?_
        refine vr_iadd C nd_Reader_readPair_53 rfl ?_
        refine vr_puti (hp' := (rp_Rdr (ds_place d (((rd_place d) + (1 : Int32)) + (1 : Int32))) t c)) C nd_Reader_readPair_54 rfl fl_Reader_9 (at_Rdr_0 (ds_place d ((rd_place d) + (1 : Int32))) t c) rfl (st_Rdr_0_0 (ds_place d ((rd_place d) + (1 : Int32))) t c (((rd_place d) + (1 : Int32)) + (1 : Int32))) ?_
        refine vr_al C nd_Reader_readPair_57 rfl ?_
        refine vr_al C nd_Reader_readPair_58 rfl ?_
        refine vr_get (v := .int (((rd_place d) + (1 : Int32)) + (1 : Int32))) C nd_Reader_readPair_59 rfl fl_Reader_9 (at_Rdr_0 (ds_place d (((rd_place d) + (1 : Int32)) + (1 : Int32))) t c) rfl ?_
        refine vr_al C nd_Reader_readPair_62 rfl ?_
        refine vr_get (v := .int (cl_children c)) C nd_Reader_readPair_63 rfl fl_Reader_36 (at_Rdr_3 (ds_place d (((rd_place d) + (1 : Int32)) + (1 : Int32))) t c) rfl ?_
        obtain ⟨w3, hV4, h⟩ := no_b h
        refine vr_cVip [1, 2] [.int (((rd_place d) + (1 : Int32)) + (1 : Int32)), .int (cl_children c)] [] C nd_Reader_readPair_66 rfl ml_Reader_49 my_Text_figureAt (co_Text_figureAt t (((rd_place d) + (1 : Int32)) + (1 : Int32)) (cl_children c) w3 hV4) (em_Rdr_Text (ds_place d (((rd_place d) + (1 : Int32)) + (1 : Int32))) t c) ⟨_, _, _, rfl, rfl, rfl⟩ rfl rfl ⟨rfl, rfl, rfl, rfl⟩ (Nat.zero_le _) (Nat.zero_le _) rfl ?_
        refine vr_is (ls' := [some (.ref 0), some (.ref 1), some (.ref 3), some (.int w1), some (.int w3)]) C nd_Reader_readPair_69 rfl rfl ?_
        refine vr_il C nd_Reader_readPair_71 rfl ?_
        refine vr_if_lt C nd_Reader_readPair_73 (fun hc => ?_) (fun hc => ?_)
        · have h := no_t hc h
          refine vr_ic C nd_Reader_readPair_96 ?_
          have h := no_s h
          subst h
          exact vr_zret false C hq nd_Reader_readPair_97 rfl
        · have h := no_f hc h
          refine vr_il C nd_Reader_readPair_76 rfl ?_
          refine vr_il C nd_Reader_readPair_78 rfl ?_
          refine vr_cm_eq C nd_Reader_readPair_79 (fun hc => ?_) (fun hc => ?_)
          · have h := no_t hc h
            refine vr_ic C nd_Reader_readPair_96 ?_
            have h := no_s h
            subst h
            exact vr_zret false C hq nd_Reader_readPair_97 rfl
          · have h := no_f hc h
            refine vr_al C nd_Reader_readPair_82 rfl ?_
            refine vr_get (v := .ref 6) C nd_Reader_readPair_83 rfl fl_Reader_63 (at_Rdr_3 (ds_place d (((rd_place d) + (1 : Int32)) + (1 : Int32))) t c) rfl ?_
            refine vr_il C nd_Reader_readPair_86 rfl ?_
            obtain ⟨hN5, h⟩ := no_i h
            refine vr_ialk (j := (nj_n w3)) (f := (cl_liked c)) C nd_Reader_readPair_88 rfl (at_Rdr_6 (ds_place d (((rd_place d) + (1 : Int32)) + (1 : Int32))) t c) hN5 rfl ?_
            refine vr_ic C nd_Reader_readPair_89 ?_
            refine vr_il C nd_Reader_readPair_90 rfl ?_
            refine vr_ishl C nd_Reader_readPair_91 rfl ?_
            refine vr_iand C nd_Reader_readPair_92 rfl ?_
            refine vr_if_eq C nd_Reader_readPair_93 (fun hc => ?_) (fun hc => ?_)
            · have h := no_t hc h
              refine vr_al C nd_Reader_readPair_98 rfl ?_
              refine vr_dup C nd_Reader_readPair_99 rfl rfl ?_
              refine vr_get (v := .int (((rd_place d) + (1 : Int32)) + (1 : Int32))) C nd_Reader_readPair_100 rfl fl_Reader_9 (at_Rdr_0 (ds_place d (((rd_place d) + (1 : Int32)) + (1 : Int32))) t c) rfl ?_
              refine vr_ic C nd_Reader_readPair_103 ?_
              refine vr_iadd C nd_Reader_readPair_104 rfl ?_
              refine vr_puti (hp' := (rp_Rdr (ds_place d ((((rd_place d) + (1 : Int32)) + (1 : Int32)) + (1 : Int32))) t c)) C nd_Reader_readPair_105 rfl fl_Reader_9 (at_Rdr_0 (ds_place d (((rd_place d) + (1 : Int32)) + (1 : Int32))) t c) rfl (st_Rdr_0_0 (ds_place d (((rd_place d) + (1 : Int32)) + (1 : Int32))) t c ((((rd_place d) + (1 : Int32)) + (1 : Int32)) + (1 : Int32))) ?_
              refine vr_al C nd_Reader_readPair_108 rfl ?_
              refine vr_dup C nd_Reader_readPair_109 rfl rfl ?_
              refine vr_get (v := .int (rd_pairs d)) C nd_Reader_readPair_110 rfl fl_Reader_15 (at_Rdr_0 (ds_place d ((((rd_place d) + (1 : Int32)) + (1 : Int32)) + (1 : Int32))) t c) rfl ?_
              refine vr_ic C nd_Reader_readPair_113 ?_
              refine vr_iadd C nd_Reader_readPair_114 rfl ?_
              refine vr_puti (hp' := (rp_Rdr (ds_pairs (ds_place d ((((rd_place d) + (1 : Int32)) + (1 : Int32)) + (1 : Int32))) ((rd_pairs d) + (1 : Int32))) t c)) C nd_Reader_readPair_115 rfl fl_Reader_15 (at_Rdr_0 (ds_place d ((((rd_place d) + (1 : Int32)) + (1 : Int32)) + (1 : Int32))) t c) rfl (st_Rdr_0_1 (ds_place d ((((rd_place d) + (1 : Int32)) + (1 : Int32)) + (1 : Int32))) t c ((rd_pairs d) + (1 : Int32))) ?_
              refine vr_al C nd_Reader_readPair_118 rfl ?_
              refine vr_il C nd_Reader_readPair_119 rfl ?_
              refine vr_il C nd_Reader_readPair_120 rfl ?_
              obtain ⟨w6, hV7, h⟩ := no_b h
              refine vr_cVv (hp' := (rp_Rdr (ds_pairs (ds_place d ((((rd_place d) + (1 : Int32)) + (1 : Int32)) + (1 : Int32))) ((rd_pairs d) + (1 : Int32))) t w6)) [3, 4, 5, 6, 7] [.int w1, .int w3] [] C nd_Reader_readPair_122 rfl ml_Reader_67 my_Club_toggleLiking (co_Club_toggleLiking c w1 w3 w6 hV7) (em_Rdr_Club (ds_pairs (ds_place d ((((rd_place d) + (1 : Int32)) + (1 : Int32)) + (1 : Int32))) ((rd_pairs d) + (1 : Int32))) t c) ⟨_, _, _, rfl, rfl, rfl⟩ rfl rfl ⟨rfl, rfl, rfl, rfl⟩ (Nat.zero_le _) (Nat.zero_le _) rfl (pa_Rdr_Club (ds_pairs (ds_place d ((((rd_place d) + (1 : Int32)) + (1 : Int32)) + (1 : Int32))) ((rd_pairs d) + (1 : Int32))) t c w6) ?_
              refine vr_ic C nd_Reader_readPair_125 ?_
              have h := no_s h
              subst h
              exact vr_zret true C hq nd_Reader_readPair_126 rfl
            · have h := no_f hc h
              refine vr_ic C nd_Reader_readPair_96 ?_
              have h := no_s h
              subst h
              exact vr_zret false C hq nd_Reader_readPair_97 rfl
      · have h := no_f hc h
        refine vr_ic C nd_Reader_readPair_45 ?_
        have h := no_s h
        subst h
        exact vr_zret false C hq nd_Reader_readPair_46 rfl
    · have h := no_f hc h
      refine vr_ic C nd_Reader_readPair_16 ?_
      have h := no_s h
      subst h
      exact vr_zret false C hq nd_Reader_readPair_17 rfl
abbrev nr_Reader_kindOf : Room := { frames := 0, cells := 0, slots := 0, locals := 0 }
theorem lw_Reader_kindOf_2 {G : nj_G} {ad : Nat → Nat} (C : nj_C G nb_Reader_kindOf 2 "NobodyJoins$Reader" nr_Reader_kindOf) (f0 : Int32) : ∀ (n : Nat) (v1 : Int32) (x : Int32), lo_Reader_kindOf_2 f0 n v1 = some x → nj_Rt G ad (some (.int x)) [] (some .int) → nj_V G ad 0 0 2 [some (.int f0), some (.int v1)] [] [] := by
  intro n
  induction n with
  | zero => intro v1 x h; rw [lo_Reader_kindOf_2] at h; cases h
  | succ n ih =>
    intro v1 x h hq
    rw [lo_Reader_kindOf_2] at h
    refine vr_il C nd_Reader_kindOf_2 rfl ?_
    refine vr_ic C nd_Reader_kindOf_3 ?_
    refine vr_cm_ge C nd_Reader_kindOf_5 (fun hc => ?_) (fun hc => ?_)
    · have h := no_t hc h
      refine vr_ic C nd_Reader_kindOf_25 ?_
      have h := no_s h
      subst h
      exact vr_iret C hq nd_Reader_kindOf_27 rfl
    · have h := no_f hc h
      refine vr_il C nd_Reader_kindOf_8 rfl ?_
      refine vr_gsN0 C rfl nd_Reader_kindOf_9 rfl ?_
      refine vr_il C nd_Reader_kindOf_12 rfl ?_
      obtain ⟨hN1, h⟩ := no_i h
      refine vr_sld0 C nd_Reader_kindOf_13 rfl hN1 ?_
      refine vr_cm_ne C nd_Reader_kindOf_14 (fun hc => ?_) (fun hc => ?_)
      · have h := no_f hc h
        refine vr_inc (v := (v1 + (1 : Int32))) (ls' := [some (.int f0), some (.int (v1 + (1 : Int32)))]) C nd_Reader_kindOf_19 rfl rfl rfl rfl rfl ?_
        refine vr_go C nd_Reader_kindOf_22 ?_
        exact (ih _ _ h hq)
      · have h := no_t hc h
        refine vr_il C nd_Reader_kindOf_17 rfl ?_
        have h := no_s h
        subst h
        exact vr_iret C hq nd_Reader_kindOf_18 rfl
theorem co_Reader_kindOf  (a0 : Int32) (x : Int32) (h : mo_Reader_kindOf a0 = some x) : nj_Con ny_Reader_kindOf nb_Reader_kindOf 2 (some .int) nr_Reader_kindOf [] [.int a0] (some (.int x)) [] := by
  rw [mo_Reader_kindOf] at h
  refine nj_con (by decide) rfl 1 rfl (fun G ad C hq => ?_)
  have C : nj_C G nb_Reader_kindOf 2 "NobodyJoins$Reader" nr_Reader_kindOf := C
  show nj_V G ad 0 0 0 [some (.int a0), none] [] []
  refine vr_ic C nd_Reader_kindOf_0 ?_
  refine vr_is (ls' := [some (.int a0), some (.int (0 : Int32))]) C nd_Reader_kindOf_1 rfl rfl ?_
  exact lw_Reader_kindOf_2 C a0 nj_fu _ _ h hq
abbrev nr_Club_addChild : Room := { frames := 0, cells := 0, slots := 0, locals := 0 }
theorem co_Club_addChild (c : CluS) (a1 : Int32) (a2 : Int32) (x : CluS) (h : mo_Club_addChild c a1 a2 = some x) : nj_Con ny_Club_addChild nb_Club_addChild 3 none nr_Club_addChild (rp_Club c) [.ref 0, .int a1, .int a2] none (rp_Club x) := by
  rw [mo_Club_addChild] at h
  refine nj_con (by decide) rfl 0 rfl (fun G ad C hq => ?_)
  have C : nj_C G nb_Club_addChild 3 "NobodyJoins$Club" nr_Club_addChild := C
  show nj_V G ad 0 0 0 [some (.ref 0), some (.int a1), some (.int a2)] [] (rp_Club c)
  refine vr_al C nd_Club_addChild_0 rfl ?_
  refine vr_get (v := .int (cl_children c)) C nd_Club_addChild_1 rfl fl_Club_24 (at_Club_0 c) rfl ?_
  refine vr_ic C nd_Club_addChild_4 ?_
  refine vr_cm_ge C nd_Club_addChild_6 (fun hc => ?_) (fun hc => ?_)
  · have h := no_t hc h
    have h := no_s h
    subst h
    exact vr_vret C hq nd_Club_addChild_64 rfl
  · have h := no_f hc h
    refine vr_al C nd_Club_addChild_9 rfl ?_
    refine vr_get (v := .ref 1) C nd_Club_addChild_10 rfl fl_Club_9 (at_Club_0 c) rfl ?_
    refine vr_al C nd_Club_addChild_13 rfl ?_
    refine vr_get (v := .int (cl_children c)) C nd_Club_addChild_14 rfl fl_Club_24 (at_Club_0 c) rfl ?_
    refine vr_il C nd_Club_addChild_17 rfl ?_
    obtain ⟨hN1, h⟩ := no_i h
    refine vr_iask (j := (nj_n (cl_children c))) (f := (cl_kinds c)) (hp' := (rp_Club (cs_kinds c (upd (cl_kinds c) (nj_n (cl_children c)) a1)))) C nd_Club_addChild_18 rfl (at_Club_1 c) hN1 rfl (st_Club_1 c (upd (cl_kinds c) (nj_n (cl_children c)) a1)) ?_
    refine vr_al C nd_Club_addChild_19 rfl ?_
    refine vr_get (v := .ref 2) C nd_Club_addChild_20 rfl fl_Club_15 (at_Club_0 (cs_kinds c (upd (cl_kinds c) (nj_n (cl_children c)) a1))) rfl ?_
    refine vr_al C nd_Club_addChild_23 rfl ?_
    refine vr_get (v := .int (cl_children c)) C nd_Club_addChild_24 rfl fl_Club_24 (at_Club_0 (cs_kinds c (upd (cl_kinds c) (nj_n (cl_children c)) a1))) rfl ?_
    refine vr_il C nd_Club_addChild_27 rfl ?_
    obtain ⟨hN2, h⟩ := no_i h
    refine vr_iask (j := (nj_n (cl_children c))) (f := (cl_pence c)) (hp' := (rp_Club (cs_pence (cs_kinds c (upd (cl_kinds c) (nj_n (cl_children c)) a1)) (upd (cl_pence c) (nj_n (cl_children c)) a2)))) C nd_Club_addChild_28 rfl (at_Club_2 (cs_kinds c (upd (cl_kinds c) (nj_n (cl_children c)) a1))) hN2 rfl (st_Club_2 (cs_kinds c (upd (cl_kinds c) (nj_n (cl_children c)) a1)) (upd (cl_pence c) (nj_n (cl_children c)) a2)) ?_
    refine vr_al C nd_Club_addChild_29 rfl ?_
    refine vr_get (v := .ref 3) C nd_Club_addChild_30 rfl fl_Club_18 (at_Club_0 (cs_pence (cs_kinds c (upd (cl_kinds c) (nj_n (cl_children c)) a1)) (upd (cl_pence c) (nj_n (cl_children c)) a2))) rfl ?_
    refine vr_al C nd_Club_addChild_33 rfl ?_
    refine vr_get (v := .int (cl_children c)) C nd_Club_addChild_34 rfl fl_Club_24 (at_Club_0 (cs_pence (cs_kinds c (upd (cl_kinds c) (nj_n (cl_children c)) a1)) (upd (cl_pence c) (nj_n (cl_children c)) a2))) rfl ?_
    refine vr_ic C nd_Club_addChild_37 ?_
    obtain ⟨hN3, h⟩ := no_i h
    refine vr_iask (j := (nj_n (cl_children c))) (f := (cl_liked c)) (hp' := (rp_Club (cs_liked (cs_pence (cs_kinds c (upd (cl_kinds c) (nj_n (cl_children c)) a1)) (upd (cl_pence c) (nj_n (cl_children c)) a2)) (upd (cl_liked c) (nj_n (cl_children c)) (0 : Int32))))) C nd_Club_addChild_38 rfl (at_Club_3 (cs_pence (cs_kinds c (upd (cl_kinds c) (nj_n (cl_children c)) a1)) (upd (cl_pence c) (nj_n (cl_children c)) a2))) hN3 rfl (st_Club_3 (cs_pence (cs_kinds c (upd (cl_kinds c) (nj_n (cl_children c)) a1)) (upd (cl_pence c) (nj_n (cl_children c)) a2)) (upd (cl_liked c) (nj_n (cl_children c)) (0 : Int32))) ?_
    refine vr_al C nd_Club_addChild_39 rfl ?_
    refine vr_dup C nd_Club_addChild_40 rfl rfl ?_
    refine vr_get (v := .int (cl_inn c)) C nd_Club_addChild_41 rfl fl_Club_31 (at_Club_0 (cs_liked (cs_pence (cs_kinds c (upd (cl_kinds c) (nj_n (cl_children c)) a1)) (upd (cl_pence c) (nj_n (cl_children c)) a2)) (upd (cl_liked c) (nj_n (cl_children c)) (0 : Int32)))) rfl ?_
    refine vr_ic C nd_Club_addChild_44 ?_
    refine vr_al C nd_Club_addChild_45 rfl ?_
    refine vr_get (v := .int (cl_children c)) C nd_Club_addChild_46 rfl fl_Club_24 (at_Club_0 (cs_liked (cs_pence (cs_kinds c (upd (cl_kinds c) (nj_n (cl_children c)) a1)) (upd (cl_pence c) (nj_n (cl_children c)) a2)) (upd (cl_liked c) (nj_n (cl_children c)) (0 : Int32)))) rfl ?_
    refine vr_ishl C nd_Club_addChild_49 rfl ?_
    refine vr_ior C nd_Club_addChild_50 rfl ?_
    refine vr_puti (hp' := (rp_Club (cs_inn (cs_liked (cs_pence (cs_kinds c (upd (cl_kinds c) (nj_n (cl_children c)) a1)) (upd (cl_pence c) (nj_n (cl_children c)) a2)) (upd (cl_liked c) (nj_n (cl_children c)) (0 : Int32))) ((cl_inn c) ||| ((1 : Int32) <<< ((cl_children c) &&& 31)))))) C nd_Club_addChild_51 rfl fl_Club_31 (at_Club_0 (cs_liked (cs_pence (cs_kinds c (upd (cl_kinds c) (nj_n (cl_children c)) a1)) (upd (cl_pence c) (nj_n (cl_children c)) a2)) (upd (cl_liked c) (nj_n (cl_children c)) (0 : Int32)))) rfl (st_Club_0_6 (cs_liked (cs_pence (cs_kinds c (upd (cl_kinds c) (nj_n (cl_children c)) a1)) (upd (cl_pence c) (nj_n (cl_children c)) a2)) (upd (cl_liked c) (nj_n (cl_children c)) (0 : Int32))) ((cl_inn c) ||| ((1 : Int32) <<< ((cl_children c) &&& 31)))) ?_
    refine vr_al C nd_Club_addChild_54 rfl ?_
    refine vr_dup C nd_Club_addChild_55 rfl rfl ?_
    refine vr_get (v := .int (cl_children c)) C nd_Club_addChild_56 rfl fl_Club_24 (at_Club_0 (cs_inn (cs_liked (cs_pence (cs_kinds c (upd (cl_kinds c) (nj_n (cl_children c)) a1)) (upd (cl_pence c) (nj_n (cl_children c)) a2)) (upd (cl_liked c) (nj_n (cl_children c)) (0 : Int32))) ((cl_inn c) ||| ((1 : Int32) <<< ((cl_children c) &&& 31))))) rfl ?_
    refine vr_ic C nd_Club_addChild_59 ?_
    refine vr_iadd C nd_Club_addChild_60 rfl ?_
    refine vr_puti (hp' := (rp_Club (cs_children (cs_inn (cs_liked (cs_pence (cs_kinds c (upd (cl_kinds c) (nj_n (cl_children c)) a1)) (upd (cl_pence c) (nj_n (cl_children c)) a2)) (upd (cl_liked c) (nj_n (cl_children c)) (0 : Int32))) ((cl_inn c) ||| ((1 : Int32) <<< ((cl_children c) &&& 31)))) ((cl_children c) + (1 : Int32))))) C nd_Club_addChild_61 rfl fl_Club_24 (at_Club_0 (cs_inn (cs_liked (cs_pence (cs_kinds c (upd (cl_kinds c) (nj_n (cl_children c)) a1)) (upd (cl_pence c) (nj_n (cl_children c)) a2)) (upd (cl_liked c) (nj_n (cl_children c)) (0 : Int32))) ((cl_inn c) ||| ((1 : Int32) <<< ((cl_children c) &&& 31))))) rfl (st_Club_0_4 (cs_inn (cs_liked (cs_pence (cs_kinds c (upd (cl_kinds c) (nj_n (cl_children c)) a1)) (upd (cl_pence c) (nj_n (cl_children c)) a2)) (upd (cl_liked c) (nj_n (cl_children c)) (0 : Int32))) ((cl_inn c) ||| ((1 : Int32) <<< ((cl_children c) &&& 31)))) ((cl_children c) + (1 : Int32))) ?_
    have h := no_s h
    subst h
    exact vr_vret C hq nd_Club_addChild_64 rfl
abbrev nr_Reader_readChild : Room := { frames := 3, cells := 0, slots := 0, locals := 65 }
theorem co_Reader_readChild (d : RdS) (t : TexS) (c : CluS) (x : Bool × RdS × CluS) (h : mo_Reader_readChild d t c = some x) : nj_Con ny_Reader_readChild nb_Reader_readChild 5 (some .boolean) nr_Reader_readChild (rp_Rdr d t c) [.ref 0, .ref 1, .ref 3] (some (.int (nj_b (x.1)))) (rp_Rdr (x.2.1) t (x.2.2)) := by
  rw [mo_Reader_readChild] at h
  refine nj_con (by decide) rfl 2 rfl (fun G ad C hq => ?_)
  have C : nj_C G nb_Reader_readChild 5 "NobodyJoins$Reader" nr_Reader_readChild := C
  show nj_V G ad 0 0 0 [some (.ref 0), some (.ref 1), some (.ref 3), none, none] [] (rp_Rdr d t c)
  refine vr_al C nd_Reader_readChild_0 rfl ?_
  refine vr_al C nd_Reader_readChild_1 rfl ?_
  refine vr_get (v := .int (rd_place d)) C nd_Reader_readChild_2 rfl fl_Reader_9 (at_Rdr_0 d t c) rfl ?_
  obtain ⟨w1, hV2, h⟩ := no_b h
  refine vr_cVip [1, 2] [.int (rd_place d)] [] C nd_Reader_readChild_5 rfl ml_Reader_39 my_Text_signAt (co_Text_signAt t (rd_place d) w1 hV2) (em_Rdr_Text d t c) ⟨_, _, _, rfl, rfl, rfl⟩ rfl rfl ⟨rfl, rfl, rfl, rfl⟩ (Nat.zero_le _) (Nat.zero_le _) rfl ?_
  obtain ⟨w3, hV4, h⟩ := no_b h
  refine vr_cSip [] [.int w1] [] C nd_Reader_readChild_8 rfl ml_Reader_56 my_Reader_kindOf (co_Reader_kindOf w1 w3 hV4) (em_E _) rfl rfl ⟨rfl, rfl, rfl, rfl⟩ (Nat.zero_le _) (Nat.zero_le _) rfl ?_
  refine vr_is (ls' := [some (.ref 0), some (.ref 1), some (.ref 3), some (.int w3), none]) C nd_Reader_readChild_11 rfl rfl ?_
  refine vr_il C nd_Reader_readChild_12 rfl ?_
  refine vr_if_lt C nd_Reader_readChild_13 (fun hc => ?_) (fun hc => ?_)
  · have h := no_t hc h
    refine vr_ic C nd_Reader_readChild_32 ?_
    have h := no_s h
    subst h
    exact vr_zret false C hq nd_Reader_readChild_33 rfl
  · have h := no_f hc h
    refine vr_al C nd_Reader_readChild_16 rfl ?_
    refine vr_get (v := .int (rd_pairs d)) C nd_Reader_readChild_17 rfl fl_Reader_15 (at_Rdr_0 d t c) rfl ?_
    refine vr_if_gt C nd_Reader_readChild_20 (fun hc => ?_) (fun hc => ?_)
    · have h := no_t hc h
      refine vr_ic C nd_Reader_readChild_32 ?_
      have h := no_s h
      subst h
      exact vr_zret false C hq nd_Reader_readChild_33 rfl
    · have h := no_f hc h
      refine vr_al C nd_Reader_readChild_23 rfl ?_
      refine vr_get (v := .int (cl_children c)) C nd_Reader_readChild_24 rfl fl_Reader_36 (at_Rdr_3 d t c) rfl ?_
      refine vr_ic C nd_Reader_readChild_27 ?_
      refine vr_cm_lt C nd_Reader_readChild_29 (fun hc => ?_) (fun hc => ?_)
      · have h := no_t hc h
        refine vr_al C nd_Reader_readChild_34 rfl ?_
        refine vr_dup C nd_Reader_readChild_35 rfl rfl ?_
        refine vr_get (v := .int (rd_place d)) C nd_Reader_readChild_36 rfl fl_Reader_9 (at_Rdr_0 d t c) rfl ?_
        refine vr_ic C nd_Reader_readChild_39 ?_
        refine vr_iadd C nd_Reader_readChild_40 rfl ?_
        refine vr_puti (hp' := (rp_Rdr (ds_place d ((rd_place d) + (1 : Int32))) t c)) C nd_Reader_readChild_41 rfl fl_Reader_9 (at_Rdr_0 d t c) rfl (st_Rdr_0_0 d t c ((rd_place d) + (1 : Int32))) ?_
        refine vr_al C nd_Reader_readChild_44 rfl ?_
        refine vr_al C nd_Reader_readChild_45 rfl ?_
        refine vr_get (v := .int ((rd_place d) + (1 : Int32))) C nd_Reader_readChild_46 rfl fl_Reader_9 (at_Rdr_0 (ds_place d ((rd_place d) + (1 : Int32))) t c) rfl ?_
        refine vr_ic C nd_Reader_readChild_49 ?_
        obtain ⟨w5, hV6, h⟩ := no_b h
        refine vr_cVip [1, 2] [.int ((rd_place d) + (1 : Int32)), .int (10 : Int32)] [] C nd_Reader_readChild_51 rfl ml_Reader_49 my_Text_figureAt (co_Text_figureAt t ((rd_place d) + (1 : Int32)) (10 : Int32) w5 hV6) (em_Rdr_Text (ds_place d ((rd_place d) + (1 : Int32))) t c) ⟨_, _, _, rfl, rfl, rfl⟩ rfl rfl ⟨rfl, rfl, rfl, rfl⟩ (Nat.zero_le _) (Nat.zero_le _) rfl ?_
        refine vr_is (ls' := [some (.ref 0), some (.ref 1), some (.ref 3), some (.int w3), some (.int w5)]) C nd_Reader_readChild_54 rfl rfl ?_
        refine vr_il C nd_Reader_readChild_56 rfl ?_
        refine vr_if_ge C nd_Reader_readChild_58 (fun hc => ?_) (fun hc => ?_)
        · have h := no_t hc h
          refine vr_al C nd_Reader_readChild_63 rfl ?_
          refine vr_dup C nd_Reader_readChild_64 rfl rfl ?_
          refine vr_get (v := .int ((rd_place d) + (1 : Int32))) C nd_Reader_readChild_65 rfl fl_Reader_9 (at_Rdr_0 (ds_place d ((rd_place d) + (1 : Int32))) t c) rfl ?_
          refine vr_ic C nd_Reader_readChild_68 ?_
          refine vr_iadd C nd_Reader_readChild_69 rfl ?_
          refine vr_puti (hp' := (rp_Rdr (ds_place d (((rd_place d) + (1 : Int32)) + (1 : Int32))) t c)) C nd_Reader_readChild_70 rfl fl_Reader_9 (at_Rdr_0 (ds_place d ((rd_place d) + (1 : Int32))) t c) rfl (st_Rdr_0_0 (ds_place d ((rd_place d) + (1 : Int32))) t c (((rd_place d) + (1 : Int32)) + (1 : Int32))) ?_
          refine vr_al C nd_Reader_readChild_73 rfl ?_
          refine vr_il C nd_Reader_readChild_74 rfl ?_
          refine vr_il C nd_Reader_readChild_75 rfl ?_
          obtain ⟨w7, hV8, h⟩ := no_b h
          refine vr_cVv (hp' := (rp_Rdr (ds_place d (((rd_place d) + (1 : Int32)) + (1 : Int32))) t w7)) [3, 4, 5, 6, 7] [.int w3, .int w5] [] C nd_Reader_readChild_77 rfl ml_Reader_59 my_Club_addChild (co_Club_addChild c w3 w5 w7 hV8) (em_Rdr_Club (ds_place d (((rd_place d) + (1 : Int32)) + (1 : Int32))) t c) ⟨_, _, _, rfl, rfl, rfl⟩ rfl rfl ⟨rfl, rfl, rfl, rfl⟩ (Nat.zero_le _) (Nat.zero_le _) rfl (pa_Rdr_Club (ds_place d (((rd_place d) + (1 : Int32)) + (1 : Int32))) t c w7) ?_
          refine vr_ic C nd_Reader_readChild_80 ?_
          have h := no_s h
          subst h
          exact vr_zret true C hq nd_Reader_readChild_81 rfl
        · have h := no_f hc h
          refine vr_ic C nd_Reader_readChild_61 ?_
          have h := no_s h
          subst h
          exact vr_zret false C hq nd_Reader_readChild_62 rfl
      · have h := no_f hc h
        refine vr_ic C nd_Reader_readChild_32 ?_
        have h := no_s h
        subst h
        exact vr_zret false C hq nd_Reader_readChild_33 rfl
abbrev nr_Reader_readClub : Room := { frames := 4, cells := 0, slots := 0, locals := 89 }
theorem lw_Reader_readClub_35 {G : nj_G} {ad : Nat → Nat} (C : nj_C G nb_Reader_readClub 5 "NobodyJoins$Reader" nr_Reader_readClub) (t : TexS) : ∀ (n : Nat) (d : RdS) (c : CluS) (v3 : Int32) (x : Int32 × RdS × CluS), lo_Reader_readClub_35 t n d c v3 = some x → nj_Rt G ad (some (.int (x.1))) (rp_Rdr (x.2.1) t (x.2.2)) (some .int) → nj_V G ad 0 0 35 [some (.ref 0), some (.ref 1), some (.ref 3), some (.int v3), none] [] (rp_Rdr d t c) := by
  intro n
  induction n with
  | zero => intro d c v3 x h; rw [lo_Reader_readClub_35] at h; cases h
  | succ n ih =>
    intro d c v3 x h hq
    rw [lo_Reader_readClub_35] at h
    refine vr_il C nd_Reader_readClub_35 rfl ?_
    refine vr_ic C nd_Reader_readClub_36 ?_
    refine vr_cm_gt C nd_Reader_readClub_38 (fun hc => ?_) (fun hc => ?_)
    · have h := no_t hc h
      refine vr_al C nd_Reader_readClub_120 rfl ?_
      refine vr_get (v := .int (rd_place d)) C nd_Reader_readClub_121 rfl fl_Reader_9 (at_Rdr_0 d t c) rfl ?_
      have h := no_s h
      subst h
      exact vr_iret C hq nd_Reader_readClub_124 rfl
    · have h := no_f hc h
      refine vr_al C nd_Reader_readClub_41 rfl ?_
      refine vr_al C nd_Reader_readClub_42 rfl ?_
      obtain ⟨w7, hV8, h⟩ := no_b h
      refine vr_sVv (hp' := (rp_Rdr w7 t c)) [.ref 1] [] C nd_Reader_readClub_43 rfl ml_Reader_23 my_Reader_skipBlanks (co_Reader_skipBlanks d t c w7 hV8) ⟨_, _, _, rfl, rfl, rfl⟩ rfl rfl ⟨rfl, rfl, rfl, rfl⟩ (Nat.zero_le _) (Nat.zero_le _) rfl ?_
      refine vr_al C nd_Reader_readClub_46 rfl ?_
      refine vr_get (v := .int (rd_place w7)) C nd_Reader_readClub_47 rfl fl_Reader_9 (at_Rdr_0 w7 t c) rfl ?_
      refine vr_al C nd_Reader_readClub_50 rfl ?_
      refine vr_get (v := .int (te_size t)) C nd_Reader_readClub_51 rfl fl_Reader_31 (at_Rdr_1 w7 t c) rfl ?_
      refine vr_cm_lt C nd_Reader_readClub_54 (fun hc => ?_) (fun hc => ?_)
      · have h := no_t hc h
        refine vr_al C nd_Reader_readClub_74 rfl ?_
        refine vr_al C nd_Reader_readClub_75 rfl ?_
        refine vr_get (v := .int (rd_place w7)) C nd_Reader_readClub_76 rfl fl_Reader_9 (at_Rdr_0 w7 t c) rfl ?_
        obtain ⟨w9, hV10, h⟩ := no_b h
        refine vr_cVip [1, 2] [.int (rd_place w7)] [] C nd_Reader_readClub_79 rfl ml_Reader_39 my_Text_signAt (co_Text_signAt t (rd_place w7) w9 hV10) (em_Rdr_Text w7 t c) ⟨_, _, _, rfl, rfl, rfl⟩ rfl rfl ⟨rfl, rfl, rfl, rfl⟩ (Nat.zero_le _) (Nat.zero_le _) rfl ?_
        refine vr_ic C nd_Reader_readClub_82 ?_
        obtain ⟨p11, hP16, h⟩ := no_b h
        have hj : nj_V G ad 0 0 102 [some (.ref 0), some (.ref 1), some (.ref 3), some (.int v3), none] [.int (p11.1)] (rp_Rdr (p11.2.1) t (p11.2.2)) := by
          refine vr_is (ls' := [some (.ref 0), some (.ref 1), some (.ref 3), some (.int v3), some (.int (p11.1))]) C nd_Reader_readClub_102 rfl rfl ?_
          refine vr_il C nd_Reader_readClub_104 rfl ?_
          refine vr_if_ne C nd_Reader_readClub_106 (fun hc => ?_) (fun hc => ?_)
          · have h := no_f hc h
            refine vr_inc (v := (v3 + (1 : Int32))) (ls' := [some (.ref 0), some (.ref 1), some (.ref 3), some (.int (v3 + (1 : Int32))), some (.int (p11.1))]) C nd_Reader_readClub_114 rfl rfl rfl rfl rfl ?_
            refine vr_go C nd_Reader_readClub_117 ?_
            exact vr_wk [4] rfl (ih _ _ _ _ h hq)
          · have h := no_t hc h
            refine vr_al C nd_Reader_readClub_109 rfl ?_
            refine vr_get (v := .int (rd_place (p11.2.1))) C nd_Reader_readClub_110 rfl fl_Reader_9 (at_Rdr_0 (p11.2.1) t (p11.2.2)) rfl ?_
            have h := no_s h
            subst h
            exact vr_iret C hq nd_Reader_readClub_113 rfl
        clear h
        have h := hP16
        clear hP16
        refine vr_cm_ne C nd_Reader_readClub_84 (fun hc => ?_) (fun hc => ?_)
        · have h := no_f hc h
          refine vr_al C nd_Reader_readClub_96 rfl ?_
          refine vr_al C nd_Reader_readClub_97 rfl ?_
          refine vr_al C nd_Reader_readClub_98 rfl ?_
          obtain ⟨w12, hV13, h⟩ := no_b h
          refine vr_sVi (hp' := (rp_Rdr (w12.2.1) t (w12.2.2))) [.ref 1, .ref 3] [] C nd_Reader_readClub_99 rfl ml_Reader_46 my_Reader_readChild (co_Reader_readChild w7 t c w12 hV13) ⟨_, _, _, rfl, rfl, rfl⟩ rfl rfl ⟨rfl, rfl, rfl, rfl⟩ (Nat.zero_le _) (Nat.zero_le _) rfl ?_
          have h := no_s h
          subst h
          exact hj
        · have h := no_t hc h
          refine vr_al C nd_Reader_readClub_87 rfl ?_
          refine vr_al C nd_Reader_readClub_88 rfl ?_
          refine vr_al C nd_Reader_readClub_89 rfl ?_
          obtain ⟨w14, hV15, h⟩ := no_b h
          refine vr_sVi (hp' := (rp_Rdr (w14.2.1) t (w14.2.2))) [.ref 1, .ref 3] [] C nd_Reader_readClub_90 rfl ml_Reader_43 my_Reader_readPair (co_Reader_readPair w7 t c w14 hV15) ⟨_, _, _, rfl, rfl, rfl⟩ rfl rfl ⟨rfl, rfl, rfl, rfl⟩ (Nat.zero_le _) (Nat.zero_le _) rfl ?_
          refine vr_go C nd_Reader_readClub_93 ?_
          have h := no_s h
          subst h
          exact hj
      · have h := no_f hc h
        refine vr_al C nd_Reader_readClub_57 rfl ?_
        refine vr_get (v := .int (cl_children c)) C nd_Reader_readClub_58 rfl fl_Reader_36 (at_Rdr_3 w7 t c) rfl ?_
        refine vr_if_le C nd_Reader_readClub_61 (fun hc => ?_) (fun hc => ?_)
        · have h := no_t hc h
          refine vr_al C nd_Reader_readClub_69 rfl ?_
          refine vr_get (v := .int (rd_place w7)) C nd_Reader_readClub_70 rfl fl_Reader_9 (at_Rdr_0 w7 t c) rfl ?_
          have h := no_s h
          subst h
          exact vr_iret C hq nd_Reader_readClub_73 rfl
        · have h := no_f hc h
          refine vr_ic C nd_Reader_readClub_64 ?_
          refine vr_go C nd_Reader_readClub_66 ?_
          have h := no_s h
          subst h
          exact vr_iret C hq nd_Reader_readClub_73 rfl
theorem co_Reader_readClub (d : RdS) (t : TexS) (c : CluS) (x : Int32 × RdS × CluS) (h : mo_Reader_readClub d t c = some x) : nj_Con ny_Reader_readClub nb_Reader_readClub 5 (some .int) nr_Reader_readClub (rp_Rdr d t c) [.ref 0, .ref 1, .ref 3] (some (.int (x.1))) (rp_Rdr (x.2.1) t (x.2.2)) := by
  rw [mo_Reader_readClub] at h
  refine nj_con (by decide) rfl 2 rfl (fun G ad C hq => ?_)
  have C : nj_C G nb_Reader_readClub 5 "NobodyJoins$Reader" nr_Reader_readClub := C
  show nj_V G ad 0 0 0 [some (.ref 0), some (.ref 1), some (.ref 3), none, none] [] (rp_Rdr d t c)
  refine vr_al C nd_Reader_readClub_0 rfl ?_
  refine vr_ic C nd_Reader_readClub_1 ?_
  refine vr_puti (hp' := (rp_Rdr (ds_place d (0 : Int32)) t c)) C nd_Reader_readClub_2 rfl fl_Reader_9 (at_Rdr_0 d t c) rfl (st_Rdr_0_0 d t c (0 : Int32)) ?_
  refine vr_al C nd_Reader_readClub_5 rfl ?_
  refine vr_ic C nd_Reader_readClub_6 ?_
  refine vr_puti (hp' := (rp_Rdr (ds_pairs (ds_place d (0 : Int32)) (0 : Int32)) t c)) C nd_Reader_readClub_7 rfl fl_Reader_15 (at_Rdr_0 (ds_place d (0 : Int32)) t c) rfl (st_Rdr_0_1 (ds_place d (0 : Int32)) t c (0 : Int32)) ?_
  refine vr_al C nd_Reader_readClub_10 rfl ?_
  obtain ⟨w1, hV2, h⟩ := no_b h
  refine vr_cVv (hp' := (rp_Rdr (ds_pairs (ds_place d (0 : Int32)) (0 : Int32)) t w1)) [3, 4, 5, 6, 7] [] [] C nd_Reader_readClub_11 rfl ml_Reader_18 my_Club_clear (co_Club_clear c w1 hV2) (em_Rdr_Club (ds_pairs (ds_place d (0 : Int32)) (0 : Int32)) t c) ⟨_, _, _, rfl, rfl, rfl⟩ rfl rfl ⟨rfl, rfl, rfl, rfl⟩ (Nat.zero_le _) (Nat.zero_le _) rfl (pa_Rdr_Club (ds_pairs (ds_place d (0 : Int32)) (0 : Int32)) t c w1) ?_
  refine vr_al C nd_Reader_readClub_14 rfl ?_
  refine vr_al C nd_Reader_readClub_15 rfl ?_
  obtain ⟨w3, hV4, h⟩ := no_b h
  refine vr_sVv (hp' := (rp_Rdr w3 t w1)) [.ref 1] [] C nd_Reader_readClub_16 rfl ml_Reader_23 my_Reader_skipBlanks (co_Reader_skipBlanks (ds_pairs (ds_place d (0 : Int32)) (0 : Int32)) t w1 w3 hV4) ⟨_, _, _, rfl, rfl, rfl⟩ rfl rfl ⟨rfl, rfl, rfl, rfl⟩ (Nat.zero_le _) (Nat.zero_le _) rfl ?_
  refine vr_al C nd_Reader_readClub_19 rfl ?_
  refine vr_al C nd_Reader_readClub_20 rfl ?_
  refine vr_al C nd_Reader_readClub_21 rfl ?_
  obtain ⟨w5, hV6, h⟩ := no_b h
  refine vr_sVi (hp' := (rp_Rdr (w5.2.1) t (w5.2.2))) [.ref 1, .ref 3] [] C nd_Reader_readClub_22 rfl ml_Reader_27 my_Reader_readRule (co_Reader_readRule w3 t w1 w5 hV6) ⟨_, _, _, rfl, rfl, rfl⟩ rfl rfl ⟨rfl, rfl, rfl, rfl⟩ (Nat.zero_le _) (Nat.zero_le _) rfl ?_
  refine vr_ifb_ne C nd_Reader_readClub_25 (fun hc => ?_) (fun hc => ?_)
  · have h := no_bt hc h
    refine vr_ic C nd_Reader_readClub_33 ?_
    refine vr_is (ls' := [some (.ref 0), some (.ref 1), some (.ref 3), some (.int (0 : Int32)), none]) C nd_Reader_readClub_34 rfl rfl ?_
    exact lw_Reader_readClub_35 C t nj_fu _ _ _ _ h hq
  · have h := no_bf hc h
    refine vr_al C nd_Reader_readClub_28 rfl ?_
    refine vr_get (v := .int (rd_place (w5.2.1))) C nd_Reader_readClub_29 rfl fl_Reader_9 (at_Rdr_0 (w5.2.1) t (w5.2.2)) rfl ?_
    have h := no_s h
    subst h
    exact vr_iret C hq nd_Reader_readClub_32 rfl
abbrev nr_Club_become : Room := { frames := 1, cells := 0, slots := 0, locals := 40 }
theorem co_Club_become (c : CluS) (d : CluS) (x : CluS) (h : mo_Club_become c d = some x) : nj_Con ny_Club_become nb_Club_become 2 none nr_Club_become (rp_Club2 c d) [.ref 0, .ref 5] none (rp_Club2 x d) := by
  rw [mo_Club_become] at h
  refine nj_con (by decide) rfl 0 rfl (fun G ad C hq => ?_)
  have C : nj_C G nb_Club_become 2 "NobodyJoins$Club" nr_Club_become := C
  show nj_V G ad 0 0 0 [some (.ref 0), some (.ref 5)] [] (rp_Club2 c d)
  refine vr_al C nd_Club_become_0 rfl ?_
  refine vr_get (v := .ref 6) C nd_Club_become_1 rfl fl_Club_9 (at_Club2_5 c d) rfl ?_
  refine vr_ic C nd_Club_become_4 ?_
  refine vr_al C nd_Club_become_5 rfl ?_
  refine vr_get (v := .ref 1) C nd_Club_become_6 rfl fl_Club_9 (at_Club2_0 c d) rfl ?_
  refine vr_ic C nd_Club_become_9 ?_
  refine vr_ic C nd_Club_become_10 ?_
  refine vr_acpy (f := (cl_kinds d)) (g := (cl_kinds c)) (hp' := (rp_Club2 (cs_kinds c (va_cpy (cl_kinds d) (cl_kinds c) 0 0 6)) d)) C nd_Club_become_12 rfl ml_Club_40 sy_n sy_s sy_i (at_Club2_6 c d) (at_Club2_1 c d) (by decide) (by decide) (by decide) (by decide) (by decide) rfl rfl rfl (st_Club2_1 c d (va_cpy (cl_kinds d) (cl_kinds c) 0 0 6)) ?_
  refine vr_al C nd_Club_become_15 rfl ?_
  refine vr_get (v := .ref 7) C nd_Club_become_16 rfl fl_Club_15 (at_Club2_5 (cs_kinds c (va_cpy (cl_kinds d) (cl_kinds c) 0 0 6)) d) rfl ?_
  refine vr_ic C nd_Club_become_19 ?_
  refine vr_al C nd_Club_become_20 rfl ?_
  refine vr_get (v := .ref 2) C nd_Club_become_21 rfl fl_Club_15 (at_Club2_0 (cs_kinds c (va_cpy (cl_kinds d) (cl_kinds c) 0 0 6)) d) rfl ?_
  refine vr_ic C nd_Club_become_24 ?_
  refine vr_ic C nd_Club_become_25 ?_
  refine vr_acpy (f := (cl_pence d)) (g := (cl_pence c)) (hp' := (rp_Club2 (cs_pence (cs_kinds c (va_cpy (cl_kinds d) (cl_kinds c) 0 0 6)) (va_cpy (cl_pence d) (cl_pence c) 0 0 6)) d)) C nd_Club_become_27 rfl ml_Club_40 sy_n sy_s sy_i (at_Club2_7 (cs_kinds c (va_cpy (cl_kinds d) (cl_kinds c) 0 0 6)) d) (at_Club2_2 (cs_kinds c (va_cpy (cl_kinds d) (cl_kinds c) 0 0 6)) d) (by decide) (by decide) (by decide) (by decide) (by decide) rfl rfl rfl (st_Club2_2 (cs_kinds c (va_cpy (cl_kinds d) (cl_kinds c) 0 0 6)) d (va_cpy (cl_pence d) (cl_pence c) 0 0 6)) ?_
  refine vr_al C nd_Club_become_30 rfl ?_
  refine vr_get (v := .ref 8) C nd_Club_become_31 rfl fl_Club_18 (at_Club2_5 (cs_pence (cs_kinds c (va_cpy (cl_kinds d) (cl_kinds c) 0 0 6)) (va_cpy (cl_pence d) (cl_pence c) 0 0 6)) d) rfl ?_
  refine vr_ic C nd_Club_become_34 ?_
  refine vr_al C nd_Club_become_35 rfl ?_
  refine vr_get (v := .ref 3) C nd_Club_become_36 rfl fl_Club_18 (at_Club2_0 (cs_pence (cs_kinds c (va_cpy (cl_kinds d) (cl_kinds c) 0 0 6)) (va_cpy (cl_pence d) (cl_pence c) 0 0 6)) d) rfl ?_
  refine vr_ic C nd_Club_become_39 ?_
  refine vr_ic C nd_Club_become_40 ?_
  refine vr_acpy (f := (cl_liked d)) (g := (cl_liked c)) (hp' := (rp_Club2 (cs_liked (cs_pence (cs_kinds c (va_cpy (cl_kinds d) (cl_kinds c) 0 0 6)) (va_cpy (cl_pence d) (cl_pence c) 0 0 6)) (va_cpy (cl_liked d) (cl_liked c) 0 0 6)) d)) C nd_Club_become_42 rfl ml_Club_40 sy_n sy_s sy_i (at_Club2_8 (cs_pence (cs_kinds c (va_cpy (cl_kinds d) (cl_kinds c) 0 0 6)) (va_cpy (cl_pence d) (cl_pence c) 0 0 6)) d) (at_Club2_3 (cs_pence (cs_kinds c (va_cpy (cl_kinds d) (cl_kinds c) 0 0 6)) (va_cpy (cl_pence d) (cl_pence c) 0 0 6)) d) (by decide) (by decide) (by decide) (by decide) (by decide) rfl rfl rfl (st_Club2_3 (cs_pence (cs_kinds c (va_cpy (cl_kinds d) (cl_kinds c) 0 0 6)) (va_cpy (cl_pence d) (cl_pence c) 0 0 6)) d (va_cpy (cl_liked d) (cl_liked c) 0 0 6)) ?_
  refine vr_al C nd_Club_become_45 rfl ?_
  refine vr_get (v := .ref 9) C nd_Club_become_46 rfl fl_Club_21 (at_Club2_5 (cs_liked (cs_pence (cs_kinds c (va_cpy (cl_kinds d) (cl_kinds c) 0 0 6)) (va_cpy (cl_pence d) (cl_pence c) 0 0 6)) (va_cpy (cl_liked d) (cl_liked c) 0 0 6)) d) rfl ?_
  refine vr_ic C nd_Club_become_49 ?_
  refine vr_al C nd_Club_become_50 rfl ?_
  refine vr_get (v := .ref 4) C nd_Club_become_51 rfl fl_Club_21 (at_Club2_0 (cs_liked (cs_pence (cs_kinds c (va_cpy (cl_kinds d) (cl_kinds c) 0 0 6)) (va_cpy (cl_pence d) (cl_pence c) 0 0 6)) (va_cpy (cl_liked d) (cl_liked c) 0 0 6)) d) rfl ?_
  refine vr_ic C nd_Club_become_54 ?_
  refine vr_ic C nd_Club_become_55 ?_
  refine vr_acpy (f := (cl_deeds d)) (g := (cl_deeds c)) (hp' := (rp_Club2 (cs_deeds (cs_liked (cs_pence (cs_kinds c (va_cpy (cl_kinds d) (cl_kinds c) 0 0 6)) (va_cpy (cl_pence d) (cl_pence c) 0 0 6)) (va_cpy (cl_liked d) (cl_liked c) 0 0 6)) (va_cpy (cl_deeds d) (cl_deeds c) 0 0 40)) d)) C nd_Club_become_57 rfl ml_Club_40 sy_n sy_s sy_i (at_Club2_9 (cs_liked (cs_pence (cs_kinds c (va_cpy (cl_kinds d) (cl_kinds c) 0 0 6)) (va_cpy (cl_pence d) (cl_pence c) 0 0 6)) (va_cpy (cl_liked d) (cl_liked c) 0 0 6)) d) (at_Club2_4 (cs_liked (cs_pence (cs_kinds c (va_cpy (cl_kinds d) (cl_kinds c) 0 0 6)) (va_cpy (cl_pence d) (cl_pence c) 0 0 6)) (va_cpy (cl_liked d) (cl_liked c) 0 0 6)) d) (by decide) (by decide) (by decide) (by decide) (by decide) rfl rfl rfl (st_Club2_4 (cs_liked (cs_pence (cs_kinds c (va_cpy (cl_kinds d) (cl_kinds c) 0 0 6)) (va_cpy (cl_pence d) (cl_pence c) 0 0 6)) (va_cpy (cl_liked d) (cl_liked c) 0 0 6)) d (va_cpy (cl_deeds d) (cl_deeds c) 0 0 40)) ?_
  refine vr_al C nd_Club_become_60 rfl ?_
  refine vr_al C nd_Club_become_61 rfl ?_
  refine vr_get (v := .int (cl_children d)) C nd_Club_become_62 rfl fl_Club_24 (at_Club2_5 (cs_deeds (cs_liked (cs_pence (cs_kinds c (va_cpy (cl_kinds d) (cl_kinds c) 0 0 6)) (va_cpy (cl_pence d) (cl_pence c) 0 0 6)) (va_cpy (cl_liked d) (cl_liked c) 0 0 6)) (va_cpy (cl_deeds d) (cl_deeds c) 0 0 40)) d) rfl ?_
  refine vr_puti (hp' := (rp_Club2 (cs_children (cs_deeds (cs_liked (cs_pence (cs_kinds c (va_cpy (cl_kinds d) (cl_kinds c) 0 0 6)) (va_cpy (cl_pence d) (cl_pence c) 0 0 6)) (va_cpy (cl_liked d) (cl_liked c) 0 0 6)) (va_cpy (cl_deeds d) (cl_deeds c) 0 0 40)) (cl_children d)) d)) C nd_Club_become_65 rfl fl_Club_24 (at_Club2_0 (cs_deeds (cs_liked (cs_pence (cs_kinds c (va_cpy (cl_kinds d) (cl_kinds c) 0 0 6)) (va_cpy (cl_pence d) (cl_pence c) 0 0 6)) (va_cpy (cl_liked d) (cl_liked c) 0 0 6)) (va_cpy (cl_deeds d) (cl_deeds c) 0 0 40)) d) rfl (st_Club2_0_4 (cs_deeds (cs_liked (cs_pence (cs_kinds c (va_cpy (cl_kinds d) (cl_kinds c) 0 0 6)) (va_cpy (cl_pence d) (cl_pence c) 0 0 6)) (va_cpy (cl_liked d) (cl_liked c) 0 0 6)) (va_cpy (cl_deeds d) (cl_deeds c) 0 0 40)) d (cl_children d)) ?_
  refine vr_al C nd_Club_become_68 rfl ?_
  refine vr_al C nd_Club_become_69 rfl ?_
  refine vr_get (v := .int (cl_rule d)) C nd_Club_become_70 rfl fl_Club_28 (at_Club2_5 (cs_children (cs_deeds (cs_liked (cs_pence (cs_kinds c (va_cpy (cl_kinds d) (cl_kinds c) 0 0 6)) (va_cpy (cl_pence d) (cl_pence c) 0 0 6)) (va_cpy (cl_liked d) (cl_liked c) 0 0 6)) (va_cpy (cl_deeds d) (cl_deeds c) 0 0 40)) (cl_children d)) d) rfl ?_
  refine vr_puti (hp' := (rp_Club2 (cs_rule (cs_children (cs_deeds (cs_liked (cs_pence (cs_kinds c (va_cpy (cl_kinds d) (cl_kinds c) 0 0 6)) (va_cpy (cl_pence d) (cl_pence c) 0 0 6)) (va_cpy (cl_liked d) (cl_liked c) 0 0 6)) (va_cpy (cl_deeds d) (cl_deeds c) 0 0 40)) (cl_children d)) (cl_rule d)) d)) C nd_Club_become_73 rfl fl_Club_28 (at_Club2_0 (cs_children (cs_deeds (cs_liked (cs_pence (cs_kinds c (va_cpy (cl_kinds d) (cl_kinds c) 0 0 6)) (va_cpy (cl_pence d) (cl_pence c) 0 0 6)) (va_cpy (cl_liked d) (cl_liked c) 0 0 6)) (va_cpy (cl_deeds d) (cl_deeds c) 0 0 40)) (cl_children d)) d) rfl (st_Club2_0_5 (cs_children (cs_deeds (cs_liked (cs_pence (cs_kinds c (va_cpy (cl_kinds d) (cl_kinds c) 0 0 6)) (va_cpy (cl_pence d) (cl_pence c) 0 0 6)) (va_cpy (cl_liked d) (cl_liked c) 0 0 6)) (va_cpy (cl_deeds d) (cl_deeds c) 0 0 40)) (cl_children d)) d (cl_rule d)) ?_
  refine vr_al C nd_Club_become_76 rfl ?_
  refine vr_al C nd_Club_become_77 rfl ?_
  refine vr_get (v := .int (cl_inn d)) C nd_Club_become_78 rfl fl_Club_31 (at_Club2_5 (cs_rule (cs_children (cs_deeds (cs_liked (cs_pence (cs_kinds c (va_cpy (cl_kinds d) (cl_kinds c) 0 0 6)) (va_cpy (cl_pence d) (cl_pence c) 0 0 6)) (va_cpy (cl_liked d) (cl_liked c) 0 0 6)) (va_cpy (cl_deeds d) (cl_deeds c) 0 0 40)) (cl_children d)) (cl_rule d)) d) rfl ?_
  refine vr_puti (hp' := (rp_Club2 (cs_inn (cs_rule (cs_children (cs_deeds (cs_liked (cs_pence (cs_kinds c (va_cpy (cl_kinds d) (cl_kinds c) 0 0 6)) (va_cpy (cl_pence d) (cl_pence c) 0 0 6)) (va_cpy (cl_liked d) (cl_liked c) 0 0 6)) (va_cpy (cl_deeds d) (cl_deeds c) 0 0 40)) (cl_children d)) (cl_rule d)) (cl_inn d)) d)) C nd_Club_become_81 rfl fl_Club_31 (at_Club2_0 (cs_rule (cs_children (cs_deeds (cs_liked (cs_pence (cs_kinds c (va_cpy (cl_kinds d) (cl_kinds c) 0 0 6)) (va_cpy (cl_pence d) (cl_pence c) 0 0 6)) (va_cpy (cl_liked d) (cl_liked c) 0 0 6)) (va_cpy (cl_deeds d) (cl_deeds c) 0 0 40)) (cl_children d)) (cl_rule d)) d) rfl (st_Club2_0_6 (cs_rule (cs_children (cs_deeds (cs_liked (cs_pence (cs_kinds c (va_cpy (cl_kinds d) (cl_kinds c) 0 0 6)) (va_cpy (cl_pence d) (cl_pence c) 0 0 6)) (va_cpy (cl_liked d) (cl_liked c) 0 0 6)) (va_cpy (cl_deeds d) (cl_deeds c) 0 0 40)) (cl_children d)) (cl_rule d)) d (cl_inn d)) ?_
  refine vr_al C nd_Club_become_84 rfl ?_
  refine vr_al C nd_Club_become_85 rfl ?_
  refine vr_get (v := .int (cl_tin d)) C nd_Club_become_86 rfl fl_Club_34 (at_Club2_5 (cs_inn (cs_rule (cs_children (cs_deeds (cs_liked (cs_pence (cs_kinds c (va_cpy (cl_kinds d) (cl_kinds c) 0 0 6)) (va_cpy (cl_pence d) (cl_pence c) 0 0 6)) (va_cpy (cl_liked d) (cl_liked c) 0 0 6)) (va_cpy (cl_deeds d) (cl_deeds c) 0 0 40)) (cl_children d)) (cl_rule d)) (cl_inn d)) d) rfl ?_
  refine vr_puti (hp' := (rp_Club2 (cs_tin (cs_inn (cs_rule (cs_children (cs_deeds (cs_liked (cs_pence (cs_kinds c (va_cpy (cl_kinds d) (cl_kinds c) 0 0 6)) (va_cpy (cl_pence d) (cl_pence c) 0 0 6)) (va_cpy (cl_liked d) (cl_liked c) 0 0 6)) (va_cpy (cl_deeds d) (cl_deeds c) 0 0 40)) (cl_children d)) (cl_rule d)) (cl_inn d)) (cl_tin d)) d)) C nd_Club_become_89 rfl fl_Club_34 (at_Club2_0 (cs_inn (cs_rule (cs_children (cs_deeds (cs_liked (cs_pence (cs_kinds c (va_cpy (cl_kinds d) (cl_kinds c) 0 0 6)) (va_cpy (cl_pence d) (cl_pence c) 0 0 6)) (va_cpy (cl_liked d) (cl_liked c) 0 0 6)) (va_cpy (cl_deeds d) (cl_deeds c) 0 0 40)) (cl_children d)) (cl_rule d)) (cl_inn d)) d) rfl (st_Club2_0_7 (cs_inn (cs_rule (cs_children (cs_deeds (cs_liked (cs_pence (cs_kinds c (va_cpy (cl_kinds d) (cl_kinds c) 0 0 6)) (va_cpy (cl_pence d) (cl_pence c) 0 0 6)) (va_cpy (cl_liked d) (cl_liked c) 0 0 6)) (va_cpy (cl_deeds d) (cl_deeds c) 0 0 40)) (cl_children d)) (cl_rule d)) (cl_inn d)) d (cl_tin d)) ?_
  refine vr_al C nd_Club_become_92 rfl ?_
  refine vr_al C nd_Club_become_93 rfl ?_
  refine vr_get (v := .int (cl_dc d)) C nd_Club_become_94 rfl fl_Club_37 (at_Club2_5 (cs_tin (cs_inn (cs_rule (cs_children (cs_deeds (cs_liked (cs_pence (cs_kinds c (va_cpy (cl_kinds d) (cl_kinds c) 0 0 6)) (va_cpy (cl_pence d) (cl_pence c) 0 0 6)) (va_cpy (cl_liked d) (cl_liked c) 0 0 6)) (va_cpy (cl_deeds d) (cl_deeds c) 0 0 40)) (cl_children d)) (cl_rule d)) (cl_inn d)) (cl_tin d)) d) rfl ?_
  refine vr_puti (hp' := (rp_Club2 (cs_dc (cs_tin (cs_inn (cs_rule (cs_children (cs_deeds (cs_liked (cs_pence (cs_kinds c (va_cpy (cl_kinds d) (cl_kinds c) 0 0 6)) (va_cpy (cl_pence d) (cl_pence c) 0 0 6)) (va_cpy (cl_liked d) (cl_liked c) 0 0 6)) (va_cpy (cl_deeds d) (cl_deeds c) 0 0 40)) (cl_children d)) (cl_rule d)) (cl_inn d)) (cl_tin d)) (cl_dc d)) d)) C nd_Club_become_97 rfl fl_Club_37 (at_Club2_0 (cs_tin (cs_inn (cs_rule (cs_children (cs_deeds (cs_liked (cs_pence (cs_kinds c (va_cpy (cl_kinds d) (cl_kinds c) 0 0 6)) (va_cpy (cl_pence d) (cl_pence c) 0 0 6)) (va_cpy (cl_liked d) (cl_liked c) 0 0 6)) (va_cpy (cl_deeds d) (cl_deeds c) 0 0 40)) (cl_children d)) (cl_rule d)) (cl_inn d)) (cl_tin d)) d) rfl (st_Club2_0_8 (cs_tin (cs_inn (cs_rule (cs_children (cs_deeds (cs_liked (cs_pence (cs_kinds c (va_cpy (cl_kinds d) (cl_kinds c) 0 0 6)) (va_cpy (cl_pence d) (cl_pence c) 0 0 6)) (va_cpy (cl_liked d) (cl_liked c) 0 0 6)) (va_cpy (cl_deeds d) (cl_deeds c) 0 0 40)) (cl_children d)) (cl_rule d)) (cl_inn d)) (cl_tin d)) d (cl_dc d)) ?_
  have h := no_s h
  subst h
  exact vr_vret C hq nd_Club_become_100 rfl
abbrev nr_Club_votesOf : Room := { frames := 0, cells := 0, slots := 0, locals := 0 }
theorem co_Club_votesOf (c : CluS) (a1 : Int32) (x : Int32) (h : mo_Club_votesOf c a1 = some x) : nj_Con ny_Club_votesOf nb_Club_votesOf 3 (some .int) nr_Club_votesOf (rp_Club c) [.ref 0, .int a1] (some (.int x)) (rp_Club c) := by
  rw [mo_Club_votesOf] at h
  refine nj_con (by decide) rfl 1 rfl (fun G ad C hq => ?_)
  have C : nj_C G nb_Club_votesOf 3 "NobodyJoins$Club" nr_Club_votesOf := C
  show nj_V G ad 0 0 0 [some (.ref 0), some (.int a1), none] [] (rp_Club c)
  refine vr_al C nd_Club_votesOf_0 rfl ?_
  refine vr_get (v := .ref 1) C nd_Club_votesOf_1 rfl fl_Club_9 (at_Club_0 c) rfl ?_
  refine vr_il C nd_Club_votesOf_4 rfl ?_
  obtain ⟨hN1, h⟩ := no_i h
  refine vr_ialk (j := (nj_n a1)) (f := (cl_kinds c)) C nd_Club_votesOf_5 rfl (at_Club_1 c) hN1 rfl ?_
  refine vr_ic C nd_Club_votesOf_6 ?_
  obtain ⟨p2, hP6, h⟩ := no_b h
  have hj : nj_V G ad 0 0 25 [some (.ref 0), some (.int a1), none] [.int p2] (rp_Club c) := by
    refine vr_is (ls' := [some (.ref 0), some (.int a1), some (.int p2)]) C nd_Club_votesOf_25 rfl rfl ?_
    refine vr_gsN1 C rfl nd_Club_votesOf_26 rfl ?_
    refine vr_al C nd_Club_votesOf_29 rfl ?_
    refine vr_get (v := .ref 1) C nd_Club_votesOf_30 rfl fl_Club_9 (at_Club_0 c) rfl ?_
    refine vr_il C nd_Club_votesOf_33 rfl ?_
    obtain ⟨hN4, h⟩ := no_i h
    refine vr_ialk (j := (nj_n a1)) (f := (cl_kinds c)) C nd_Club_votesOf_34 rfl (at_Club_1 c) hN4 rfl ?_
    obtain ⟨hN5, h⟩ := no_i h
    refine vr_sld1 C nd_Club_votesOf_35 rfl hN5 ?_
    refine vr_il C nd_Club_votesOf_36 rfl ?_
    refine vr_iadd C nd_Club_votesOf_37 rfl ?_
    have h := no_s h
    subst h
    exact vr_iret C hq nd_Club_votesOf_38 rfl
  clear h
  have h := hP6
  clear hP6
  refine vr_cm_ne C nd_Club_votesOf_7 (fun hc => ?_) (fun hc => ?_)
  · have h := no_f hc h
    refine vr_ic C nd_Club_votesOf_24 ?_
    have h := no_s h
    subst h
    exact hj
  · have h := no_t hc h
    refine vr_al C nd_Club_votesOf_10 rfl ?_
    refine vr_get (v := .ref 2) C nd_Club_votesOf_11 rfl fl_Club_15 (at_Club_0 c) rfl ?_
    refine vr_il C nd_Club_votesOf_14 rfl ?_
    obtain ⟨hN3, h⟩ := no_i h
    refine vr_ialk (j := (nj_n a1)) (f := (cl_pence c)) C nd_Club_votesOf_15 rfl (at_Club_2 c) hN3 rfl ?_
    refine vr_ic C nd_Club_votesOf_16 ?_
    refine vr_cm_lt C nd_Club_votesOf_17 (fun hc => ?_) (fun hc => ?_)
    · have h := no_t hc h
      refine vr_ic C nd_Club_votesOf_24 ?_
      have h := no_s h
      subst h
      exact hj
    · have h := no_f hc h
      refine vr_ic C nd_Club_votesOf_20 ?_
      refine vr_go C nd_Club_votesOf_21 ?_
      have h := no_s h
      subst h
      exact hj
abbrev nr_Club_likingsOf : Room := { frames := 0, cells := 0, slots := 0, locals := 0 }
theorem lw_Club_likingsOf_4 {G : nj_G} {ad : Nat → Nat} (C : nj_C G nb_Club_likingsOf 4 "NobodyJoins$Club" nr_Club_likingsOf) (c : CluS) (f1 : Int32) : ∀ (n : Nat) (v2 : Int32) (v3 : Int32) (x : Int32), lo_Club_likingsOf_4 c f1 n v2 v3 = some x → nj_V G ad 0 0 33 [none, none, some (.int x), none] [] (rp_Club c) → nj_V G ad 0 0 4 [some (.ref 0), some (.int f1), some (.int v2), some (.int v3)] [] (rp_Club c) := by
  intro n
  induction n with
  | zero => intro v2 v3 x h; rw [lo_Club_likingsOf_4] at h; cases h
  | succ n ih =>
    intro v2 v3 x h hk
    rw [lo_Club_likingsOf_4] at h
    refine vr_il C nd_Club_likingsOf_4 rfl ?_
    refine vr_al C nd_Club_likingsOf_5 rfl ?_
    refine vr_get (v := .int (cl_children c)) C nd_Club_likingsOf_6 rfl fl_Club_24 (at_Club_0 c) rfl ?_
    refine vr_cm_ge C nd_Club_likingsOf_9 (fun hc => ?_) (fun hc => ?_)
    · have h := no_t hc h
      have h := no_s h
      subst h
      exact vr_wk [0, 1, 3] rfl hk
    · have h := no_f hc h
      refine vr_il C nd_Club_likingsOf_12 rfl ?_
      refine vr_al C nd_Club_likingsOf_13 rfl ?_
      refine vr_get (v := .ref 3) C nd_Club_likingsOf_14 rfl fl_Club_18 (at_Club_0 c) rfl ?_
      refine vr_il C nd_Club_likingsOf_17 rfl ?_
      obtain ⟨hN1, h⟩ := no_i h
      refine vr_ialk (j := (nj_n v3)) (f := (cl_liked c)) C nd_Club_likingsOf_18 rfl (at_Club_3 c) hN1 rfl ?_
      refine vr_il C nd_Club_likingsOf_19 rfl ?_
      refine vr_ishr C nd_Club_likingsOf_20 rfl ?_
      refine vr_ic C nd_Club_likingsOf_21 ?_
      refine vr_iand C nd_Club_likingsOf_22 rfl ?_
      refine vr_il C nd_Club_likingsOf_23 rfl ?_
      refine vr_ishl C nd_Club_likingsOf_24 rfl ?_
      refine vr_ior C nd_Club_likingsOf_25 rfl ?_
      refine vr_is (ls' := [some (.ref 0), some (.int f1), some (.int (v2 ||| (((((cl_liked c) (nj_n v3)) >>> (f1 &&& 31)) &&& (1 : Int32)) <<< (v3 &&& 31)))), some (.int v3)]) C nd_Club_likingsOf_26 rfl rfl ?_
      refine vr_inc (v := (v3 + (1 : Int32))) (ls' := [some (.ref 0), some (.int f1), some (.int (v2 ||| (((((cl_liked c) (nj_n v3)) >>> (f1 &&& 31)) &&& (1 : Int32)) <<< (v3 &&& 31)))), some (.int (v3 + (1 : Int32)))]) C nd_Club_likingsOf_27 rfl rfl rfl rfl rfl ?_
      refine vr_go C nd_Club_likingsOf_30 ?_
      exact (ih _ _ _ h hk)
theorem co_Club_likingsOf (c : CluS) (a1 : Int32) (x : Int32) (h : mo_Club_likingsOf c a1 = some x) : nj_Con ny_Club_likingsOf nb_Club_likingsOf 4 (some .int) nr_Club_likingsOf (rp_Club c) [.ref 0, .int a1] (some (.int x)) (rp_Club c) := by
  rw [mo_Club_likingsOf] at h
  refine nj_con (by decide) rfl 2 rfl (fun G ad C hq => ?_)
  have C : nj_C G nb_Club_likingsOf 4 "NobodyJoins$Club" nr_Club_likingsOf := C
  show nj_V G ad 0 0 0 [some (.ref 0), some (.int a1), none, none] [] (rp_Club c)
  refine vr_ic C nd_Club_likingsOf_0 ?_
  refine vr_is (ls' := [some (.ref 0), some (.int a1), some (.int (0 : Int32)), none]) C nd_Club_likingsOf_1 rfl rfl ?_
  refine vr_ic C nd_Club_likingsOf_2 ?_
  refine vr_is (ls' := [some (.ref 0), some (.int a1), some (.int (0 : Int32)), some (.int (0 : Int32))]) C nd_Club_likingsOf_3 rfl rfl ?_
  obtain ⟨x2, hX3, h⟩ := no_b h
  refine lw_Club_likingsOf_4 C c a1 nj_fu _ _ x2 hX3 ?_
  refine vr_il C nd_Club_likingsOf_33 rfl ?_
  have h := no_s h
  subst h
  exact vr_iret C hq nd_Club_likingsOf_34 rfl
abbrev nr_Club_valueOf : Room := { frames := 1, cells := 0, slots := 0, locals := 23 }
theorem co_Club_valueOf (c : CluS) (a1 : Int32) (a2 : Int32) (x : Int32) (h : mo_Club_valueOf c a1 a2 = some x) : nj_Con ny_Club_valueOf nb_Club_valueOf 3 (some .int) nr_Club_valueOf (rp_Club c) [.ref 0, .int a1, .int a2] (some (.int x)) (rp_Club c) := by
  rw [mo_Club_valueOf] at h
  refine nj_con (by decide) rfl 0 rfl (fun G ad C hq => ?_)
  have C : nj_C G nb_Club_valueOf 3 "NobodyJoins$Club" nr_Club_valueOf := C
  show nj_V G ad 0 0 0 [some (.ref 0), some (.int a1), some (.int a2)] [] (rp_Club c)
  refine vr_il C nd_Club_valueOf_0 rfl ?_
  by_cases hS2 : a2 = (0 : Int32)
  · have h := no_t hS2 h
    refine vr_tsI (0 : Int32) C nd_Club_valueOf_1 hS2 (by decide) (by decide) rfl rfl ?_
    refine vr_al C nd_Club_valueOf_36 rfl ?_
    refine vr_get (v := .ref 1) C nd_Club_valueOf_37 rfl fl_Club_9 (at_Club_0 c) rfl ?_
    refine vr_il C nd_Club_valueOf_40 rfl ?_
    obtain ⟨hN1, h⟩ := no_i h
    refine vr_ialk (j := (nj_n a1)) (f := (cl_kinds c)) C nd_Club_valueOf_41 rfl (at_Club_1 c) hN1 rfl ?_
    have h := no_s h
    subst h
    exact vr_iret C hq nd_Club_valueOf_42 rfl
  have h := no_f hS2 h
  by_cases hS4 : a2 = (1 : Int32)
  · have h := no_t hS4 h
    refine vr_tsI (1 : Int32) C nd_Club_valueOf_1 hS4 (by decide) (by decide) rfl rfl ?_
    refine vr_al C nd_Club_valueOf_43 rfl ?_
    refine vr_get (v := .ref 2) C nd_Club_valueOf_44 rfl fl_Club_15 (at_Club_0 c) rfl ?_
    refine vr_il C nd_Club_valueOf_47 rfl ?_
    obtain ⟨hN3, h⟩ := no_i h
    refine vr_ialk (j := (nj_n a1)) (f := (cl_pence c)) C nd_Club_valueOf_48 rfl (at_Club_2 c) hN3 rfl ?_
    have h := no_s h
    subst h
    exact vr_iret C hq nd_Club_valueOf_49 rfl
  have h := no_f hS4 h
  by_cases hS5 : a2 = (2 : Int32)
  · have h := no_t hS5 h
    refine vr_tsI (2 : Int32) C nd_Club_valueOf_1 hS5 (by decide) (by decide) rfl rfl ?_
    refine vr_al C nd_Club_valueOf_50 rfl ?_
    refine vr_get (v := .int (cl_inn c)) C nd_Club_valueOf_51 rfl fl_Club_31 (at_Club_0 c) rfl ?_
    refine vr_il C nd_Club_valueOf_54 rfl ?_
    refine vr_ishr C nd_Club_valueOf_55 rfl ?_
    refine vr_ic C nd_Club_valueOf_56 ?_
    refine vr_iand C nd_Club_valueOf_57 rfl ?_
    have h := no_s h
    subst h
    exact vr_iret C hq nd_Club_valueOf_58 rfl
  have h := no_f hS5 h
  by_cases hS8 : a2 = (3 : Int32)
  · have h := no_t hS8 h
    refine vr_tsI (3 : Int32) C nd_Club_valueOf_1 hS8 (by decide) (by decide) rfl rfl ?_
    refine vr_al C nd_Club_valueOf_59 rfl ?_
    refine vr_il C nd_Club_valueOf_60 rfl ?_
    obtain ⟨w6, hV7, h⟩ := no_b h
    refine vr_sVi (hp' := (rp_Club c)) [.int a1] [] C nd_Club_valueOf_61 rfl ml_Club_53 my_Club_votesOf (co_Club_votesOf c a1 w6 hV7) ⟨_, _, _, rfl, rfl, rfl⟩ rfl rfl ⟨rfl, rfl, rfl, rfl⟩ (Nat.zero_le _) (Nat.zero_le _) rfl ?_
    have h := no_s h
    subst h
    exact vr_iret C hq nd_Club_valueOf_64 rfl
  have h := no_f hS8 h
  by_cases hS11 : a2 = (4 : Int32)
  · have h := no_t hS11 h
    refine vr_tsI (4 : Int32) C nd_Club_valueOf_1 hS11 (by decide) (by decide) rfl rfl ?_
    refine vr_al C nd_Club_valueOf_65 rfl ?_
    refine vr_il C nd_Club_valueOf_66 rfl ?_
    obtain ⟨w9, hV10, h⟩ := no_b h
    refine vr_sVi (hp' := (rp_Club c)) [.int a1] [] C nd_Club_valueOf_67 rfl ml_Club_57 my_Club_likingsOf (co_Club_likingsOf c a1 w9 hV10) ⟨_, _, _, rfl, rfl, rfl⟩ rfl rfl ⟨rfl, rfl, rfl, rfl⟩ (Nat.zero_le _) (Nat.zero_le _) rfl ?_
    have h := no_s h
    subst h
    exact vr_iret C hq nd_Club_valueOf_70 rfl
  have h := no_f hS11 h
  refine vr_tsO C nd_Club_valueOf_1 (by have a0 := lv_neT (a := 0) hS2 (by decide); have a1 := lv_neT (a := 1) hS4 (by decide); have a2 := lv_neT (a := 2) hS5 (by decide); have a3 := lv_neT (a := 3) hS8 (by decide); have a4 := lv_neT (a := 4) hS11 (by decide); omega) rfl ?_
  refine vr_al C nd_Club_valueOf_71 rfl ?_
  refine vr_get (v := .ref 3) C nd_Club_valueOf_72 rfl fl_Club_18 (at_Club_0 c) rfl ?_
  refine vr_il C nd_Club_valueOf_75 rfl ?_
  obtain ⟨hN12, h⟩ := no_i h
  refine vr_ialk (j := (nj_n a1)) (f := (cl_liked c)) C nd_Club_valueOf_76 rfl (at_Club_3 c) hN12 rfl ?_
  have h := no_s h
  subst h
  exact vr_iret C hq nd_Club_valueOf_77 rfl
abbrev nr_Club_isOfKind : Room := { frames := 0, cells := 0, slots := 0, locals := 0 }
theorem co_Club_isOfKind (c : CluS) (a1 : Int32) (a2 : Int32) (x : Bool) (h : mo_Club_isOfKind c a1 a2 = some x) : nj_Con ny_Club_isOfKind nb_Club_isOfKind 3 (some .boolean) nr_Club_isOfKind (rp_Club c) [.ref 0, .int a1, .int a2] (some (.int (nj_b x))) (rp_Club c) := by
  rw [mo_Club_isOfKind] at h
  refine nj_con (by decide) rfl 0 rfl (fun G ad C hq => ?_)
  have C : nj_C G nb_Club_isOfKind 3 "NobodyJoins$Club" nr_Club_isOfKind := C
  show nj_V G ad 0 0 0 [some (.ref 0), some (.int a1), some (.int a2)] [] (rp_Club c)
  refine vr_al C nd_Club_isOfKind_0 rfl ?_
  refine vr_get (v := .ref 1) C nd_Club_isOfKind_1 rfl fl_Club_9 (at_Club_0 c) rfl ?_
  refine vr_il C nd_Club_isOfKind_4 rfl ?_
  obtain ⟨hN1, h⟩ := no_i h
  refine vr_ialk (j := (nj_n a1)) (f := (cl_kinds c)) C nd_Club_isOfKind_5 rfl (at_Club_1 c) hN1 rfl ?_
  refine vr_il C nd_Club_isOfKind_6 rfl ?_
  refine vr_cm_eq C nd_Club_isOfKind_7 (fun hc => ?_) (fun hc => ?_)
  · have h := no_t hc h
    refine vr_ic C nd_Club_isOfKind_25 ?_
    refine vr_go C nd_Club_isOfKind_26 ?_
    have h := no_s h
    subst h
    exact vr_zret true C hq nd_Club_isOfKind_30 rfl
  · have h := no_f hc h
    refine vr_il C nd_Club_isOfKind_10 rfl ?_
    refine vr_ic C nd_Club_isOfKind_11 ?_
    refine vr_cm_ne C nd_Club_isOfKind_12 (fun hc => ?_) (fun hc => ?_)
    · have h := no_f hc h
      refine vr_ic C nd_Club_isOfKind_29 ?_
      have h := no_s h
      subst h
      exact vr_zret false C hq nd_Club_isOfKind_30 rfl
    · have h := no_t hc h
      refine vr_al C nd_Club_isOfKind_15 rfl ?_
      refine vr_get (v := .ref 1) C nd_Club_isOfKind_16 rfl fl_Club_9 (at_Club_0 c) rfl ?_
      refine vr_il C nd_Club_isOfKind_19 rfl ?_
      obtain ⟨hN2, h⟩ := no_i h
      refine vr_ialk (j := (nj_n a1)) (f := (cl_kinds c)) C nd_Club_isOfKind_20 rfl (at_Club_1 c) hN2 rfl ?_
      refine vr_ic C nd_Club_isOfKind_21 ?_
      refine vr_cm_ne C nd_Club_isOfKind_22 (fun hc => ?_) (fun hc => ?_)
      · have h := no_f hc h
        refine vr_ic C nd_Club_isOfKind_29 ?_
        have h := no_s h
        subst h
        exact vr_zret false C hq nd_Club_isOfKind_30 rfl
      · have h := no_t hc h
        refine vr_ic C nd_Club_isOfKind_25 ?_
        refine vr_go C nd_Club_isOfKind_26 ?_
        have h := no_s h
        subst h
        exact vr_zret true C hq nd_Club_isOfKind_30 rfl
abbrev nr_Integer_bitCount : Room := { frames := 0, cells := 0, slots := 0, locals := 0 }
theorem co_Integer_bitCount  (a0 : Int32) (x : Int32) (h : mo_Integer_bitCount a0 = some x) : nj_Con ny_Integer_bitCount nb_Integer_bitCount 1 (some .int) nr_Integer_bitCount [] [.int a0] (some (.int x)) [] := by
  rw [mo_Integer_bitCount] at h
  refine nj_con (by decide) rfl 0 rfl (fun G ad C hq => ?_)
  have C : nj_C G nb_Integer_bitCount 1 "java/lang/Integer" nr_Integer_bitCount := C
  show nj_V G ad 0 0 0 [some (.int a0)] [] []
  refine vr_il C nd_Integer_bitCount_0 rfl ?_
  refine vr_il C nd_Integer_bitCount_1 rfl ?_
  refine vr_ic C nd_Integer_bitCount_2 ?_
  refine vr_iushr C nd_Integer_bitCount_3 rfl ?_
  refine vr_ldcw C nd_Integer_bitCount_4 rfl kl_Integer_265 ?_
  refine vr_iand C nd_Integer_bitCount_7 rfl ?_
  refine vr_isub C nd_Integer_bitCount_8 rfl ?_
  refine vr_is (ls' := [some (.int (a0 - ((nj_us a0 (1 : Int32)) &&& (1431655765 : Int32))))]) C nd_Integer_bitCount_9 rfl rfl ?_
  refine vr_il C nd_Integer_bitCount_10 rfl ?_
  refine vr_ldcw C nd_Integer_bitCount_11 rfl kl_Integer_266 ?_
  refine vr_iand C nd_Integer_bitCount_14 rfl ?_
  refine vr_il C nd_Integer_bitCount_15 rfl ?_
  refine vr_ic C nd_Integer_bitCount_16 ?_
  refine vr_iushr C nd_Integer_bitCount_17 rfl ?_
  refine vr_ldcw C nd_Integer_bitCount_18 rfl kl_Integer_266 ?_
  refine vr_iand C nd_Integer_bitCount_21 rfl ?_
  refine vr_iadd C nd_Integer_bitCount_22 rfl ?_
  refine vr_is (ls' := [some (.int (((a0 - ((nj_us a0 (1 : Int32)) &&& (1431655765 : Int32))) &&& (858993459 : Int32)) + ((nj_us (a0 - ((nj_us a0 (1 : Int32)) &&& (1431655765 : Int32))) (2 : Int32)) &&& (858993459 : Int32))))]) C nd_Integer_bitCount_23 rfl rfl ?_
  refine vr_il C nd_Integer_bitCount_24 rfl ?_
  refine vr_il C nd_Integer_bitCount_25 rfl ?_
  refine vr_ic C nd_Integer_bitCount_26 ?_
  refine vr_iushr C nd_Integer_bitCount_27 rfl ?_
  refine vr_iadd C nd_Integer_bitCount_28 rfl ?_
  refine vr_ldcw C nd_Integer_bitCount_29 rfl kl_Integer_267 ?_
  refine vr_iand C nd_Integer_bitCount_32 rfl ?_
  refine vr_is (ls' := [some (.int (((((a0 - ((nj_us a0 (1 : Int32)) &&& (1431655765 : Int32))) &&& (858993459 : Int32)) + ((nj_us (a0 - ((nj_us a0 (1 : Int32)) &&& (1431655765 : Int32))) (2 : Int32)) &&& (858993459 : Int32))) + (nj_us (((a0 - ((nj_us a0 (1 : Int32)) &&& (1431655765 : Int32))) &&& (858993459 : Int32)) + ((nj_us (a0 - ((nj_us a0 (1 : Int32)) &&& (1431655765 : Int32))) (2 : Int32)) &&& (858993459 : Int32))) (4 : Int32))) &&& (252645135 : Int32)))]) C nd_Integer_bitCount_33 rfl rfl ?_
  refine vr_il C nd_Integer_bitCount_34 rfl ?_
  refine vr_il C nd_Integer_bitCount_35 rfl ?_
  refine vr_ic C nd_Integer_bitCount_36 ?_
  refine vr_iushr C nd_Integer_bitCount_38 rfl ?_
  refine vr_iadd C nd_Integer_bitCount_39 rfl ?_
  refine vr_is (ls' := [some (.int ((((((a0 - ((nj_us a0 (1 : Int32)) &&& (1431655765 : Int32))) &&& (858993459 : Int32)) + ((nj_us (a0 - ((nj_us a0 (1 : Int32)) &&& (1431655765 : Int32))) (2 : Int32)) &&& (858993459 : Int32))) + (nj_us (((a0 - ((nj_us a0 (1 : Int32)) &&& (1431655765 : Int32))) &&& (858993459 : Int32)) + ((nj_us (a0 - ((nj_us a0 (1 : Int32)) &&& (1431655765 : Int32))) (2 : Int32)) &&& (858993459 : Int32))) (4 : Int32))) &&& (252645135 : Int32)) + (nj_us (((((a0 - ((nj_us a0 (1 : Int32)) &&& (1431655765 : Int32))) &&& (858993459 : Int32)) + ((nj_us (a0 - ((nj_us a0 (1 : Int32)) &&& (1431655765 : Int32))) (2 : Int32)) &&& (858993459 : Int32))) + (nj_us (((a0 - ((nj_us a0 (1 : Int32)) &&& (1431655765 : Int32))) &&& (858993459 : Int32)) + ((nj_us (a0 - ((nj_us a0 (1 : Int32)) &&& (1431655765 : Int32))) (2 : Int32)) &&& (858993459 : Int32))) (4 : Int32))) &&& (252645135 : Int32)) (8 : Int32))))]) C nd_Integer_bitCount_40 rfl rfl ?_
  refine vr_il C nd_Integer_bitCount_41 rfl ?_
  refine vr_il C nd_Integer_bitCount_42 rfl ?_
  refine vr_ic C nd_Integer_bitCount_43 ?_
  refine vr_iushr C nd_Integer_bitCount_45 rfl ?_
  refine vr_iadd C nd_Integer_bitCount_46 rfl ?_
  refine vr_is (ls' := [some (.int (((((((a0 - ((nj_us a0 (1 : Int32)) &&& (1431655765 : Int32))) &&& (858993459 : Int32)) + ((nj_us (a0 - ((nj_us a0 (1 : Int32)) &&& (1431655765 : Int32))) (2 : Int32)) &&& (858993459 : Int32))) + (nj_us (((a0 - ((nj_us a0 (1 : Int32)) &&& (1431655765 : Int32))) &&& (858993459 : Int32)) + ((nj_us (a0 - ((nj_us a0 (1 : Int32)) &&& (1431655765 : Int32))) (2 : Int32)) &&& (858993459 : Int32))) (4 : Int32))) &&& (252645135 : Int32)) + (nj_us (((((a0 - ((nj_us a0 (1 : Int32)) &&& (1431655765 : Int32))) &&& (858993459 : Int32)) + ((nj_us (a0 - ((nj_us a0 (1 : Int32)) &&& (1431655765 : Int32))) (2 : Int32)) &&& (858993459 : Int32))) + (nj_us (((a0 - ((nj_us a0 (1 : Int32)) &&& (1431655765 : Int32))) &&& (858993459 : Int32)) + ((nj_us (a0 - ((nj_us a0 (1 : Int32)) &&& (1431655765 : Int32))) (2 : Int32)) &&& (858993459 : Int32))) (4 : Int32))) &&& (252645135 : Int32)) (8 : Int32))) + (nj_us ((((((a0 - ((nj_us a0 (1 : Int32)) &&& (1431655765 : Int32))) &&& (858993459 : Int32)) + ((nj_us (a0 - ((nj_us a0 (1 : Int32)) &&& (1431655765 : Int32))) (2 : Int32)) &&& (858993459 : Int32))) + (nj_us (((a0 - ((nj_us a0 (1 : Int32)) &&& (1431655765 : Int32))) &&& (858993459 : Int32)) + ((nj_us (a0 - ((nj_us a0 (1 : Int32)) &&& (1431655765 : Int32))) (2 : Int32)) &&& (858993459 : Int32))) (4 : Int32))) &&& (252645135 : Int32)) + (nj_us (((((a0 - ((nj_us a0 (1 : Int32)) &&& (1431655765 : Int32))) &&& (858993459 : Int32)) + ((nj_us (a0 - ((nj_us a0 (1 : Int32)) &&& (1431655765 : Int32))) (2 : Int32)) &&& (858993459 : Int32))) + (nj_us (((a0 - ((nj_us a0 (1 : Int32)) &&& (1431655765 : Int32))) &&& (858993459 : Int32)) + ((nj_us (a0 - ((nj_us a0 (1 : Int32)) &&& (1431655765 : Int32))) (2 : Int32)) &&& (858993459 : Int32))) (4 : Int32))) &&& (252645135 : Int32)) (8 : Int32))) (16 : Int32))))]) C nd_Integer_bitCount_47 rfl rfl ?_
  refine vr_il C nd_Integer_bitCount_48 rfl ?_
  refine vr_ic C nd_Integer_bitCount_49 ?_
  refine vr_iand C nd_Integer_bitCount_51 rfl ?_
  have h := no_s h
  subst h
  exact vr_iret C hq nd_Integer_bitCount_52 rfl
abbrev nr_Club_markOf : Room := { frames := 1, cells := 0, slots := 0, locals := 23 }
theorem co_Club_markOf (c : CluS) (a1 : Int32) (a2 : Int32) (x : Int32) (h : mo_Club_markOf c a1 a2 = some x) : nj_Con ny_Club_markOf nb_Club_markOf 3 (some .int) nr_Club_markOf (rp_Club c) [.ref 0, .int a1, .int a2] (some (.int x)) (rp_Club c) := by
  rw [mo_Club_markOf] at h
  refine nj_con (by decide) rfl 0 rfl (fun G ad C hq => ?_)
  have C : nj_C G nb_Club_markOf 3 "NobodyJoins$Club" nr_Club_markOf := C
  show nj_V G ad 0 0 0 [some (.ref 0), some (.int a1), some (.int a2)] [] (rp_Club c)
  refine vr_il C nd_Club_markOf_0 rfl ?_
  by_cases hS3 : a2 = (1 : Int32)
  · have h := no_t hS3 h
    refine vr_tsI (1 : Int32) C nd_Club_markOf_1 hS3 (by decide) (by decide) rfl rfl ?_
    refine vr_al C nd_Club_markOf_32 rfl ?_
    refine vr_il C nd_Club_markOf_33 rfl ?_
    obtain ⟨w1, hV2, h⟩ := no_b h
    refine vr_sVi (hp' := (rp_Club c)) [.int a1] [] C nd_Club_markOf_34 rfl ml_Club_53 my_Club_votesOf (co_Club_votesOf c a1 w1 hV2) ⟨_, _, _, rfl, rfl, rfl⟩ rfl rfl ⟨rfl, rfl, rfl, rfl⟩ (Nat.zero_le _) (Nat.zero_le _) rfl ?_
    refine vr_gsN1 C rfl nd_Club_markOf_37 rfl ?_
    refine vr_ic C nd_Club_markOf_40 ?_
    refine vr_sld1 C nd_Club_markOf_41 rfl (nj_inc rfl) ?_
    refine vr_isub C nd_Club_markOf_42 rfl ?_
    have h := no_s h
    subst h
    exact vr_iret C hq nd_Club_markOf_43 rfl
  have h := no_f hS3 h
  by_cases hS8 : a2 = (2 : Int32)
  · have h := no_t hS8 h
    refine vr_tsI (2 : Int32) C nd_Club_markOf_1 hS8 (by decide) (by decide) rfl rfl ?_
    refine vr_al C nd_Club_markOf_44 rfl ?_
    refine vr_get (v := .int (cl_inn c)) C nd_Club_markOf_45 rfl fl_Club_31 (at_Club_0 c) rfl ?_
    refine vr_al C nd_Club_markOf_48 rfl ?_
    refine vr_il C nd_Club_markOf_49 rfl ?_
    obtain ⟨w4, hV5, h⟩ := no_b h
    refine vr_sVi (hp' := (rp_Club c)) [.int a1] [.int (cl_inn c)] C nd_Club_markOf_50 rfl ml_Club_57 my_Club_likingsOf (co_Club_likingsOf c a1 w4 hV5) ⟨_, _, _, rfl, rfl, rfl⟩ rfl rfl ⟨rfl, rfl, rfl, rfl⟩ (Nat.zero_le _) (Nat.zero_le _) rfl ?_
    refine vr_iand C nd_Club_markOf_53 rfl ?_
    obtain ⟨w6, hV7, h⟩ := no_b h
    refine vr_cSip [] [.int ((cl_inn c) &&& w4)] [] C nd_Club_markOf_54 rfl ml_Club_60 my_Integer_bitCount (co_Integer_bitCount ((cl_inn c) &&& w4) w6 hV7) (em_E _) rfl rfl ⟨rfl, rfl, rfl, rfl⟩ (Nat.zero_le _) (Nat.zero_le _) rfl ?_
    have h := no_s h
    subst h
    exact vr_iret C hq nd_Club_markOf_57 rfl
  have h := no_f hS8 h
  by_cases hS10 : a2 = (3 : Int32)
  · have h := no_t hS10 h
    refine vr_tsI (3 : Int32) C nd_Club_markOf_1 hS10 (by decide) (by decide) rfl rfl ?_
    refine vr_ic C nd_Club_markOf_58 ?_
    refine vr_ic C nd_Club_markOf_59 ?_
    refine vr_al C nd_Club_markOf_60 rfl ?_
    refine vr_get (v := .ref 2) C nd_Club_markOf_61 rfl fl_Club_15 (at_Club_0 c) rfl ?_
    refine vr_il C nd_Club_markOf_64 rfl ?_
    obtain ⟨hN9, h⟩ := no_i h
    refine vr_ialk (j := (nj_n a1)) (f := (cl_pence c)) C nd_Club_markOf_65 rfl (at_Club_2 c) hN9 rfl ?_
    refine vr_isub C nd_Club_markOf_66 rfl ?_
    refine vr_max C nd_Club_markOf_67 rfl ml_Club_65 mx_s mx_i mx_c rfl rfl rfl (Nat.zero_le _) (Nat.zero_le _) ?_
    have h := no_s h
    subst h
    exact vr_iret C hq nd_Club_markOf_70 rfl
  have h := no_f hS10 h
  by_cases hS14 : a2 = (4 : Int32)
  · have h := no_t hS14 h
    refine vr_tsI (4 : Int32) C nd_Club_markOf_1 hS14 (by decide) (by decide) rfl rfl ?_
    refine vr_al C nd_Club_markOf_71 rfl ?_
    refine vr_get (v := .int (cl_inn c)) C nd_Club_markOf_72 rfl fl_Club_31 (at_Club_0 c) rfl ?_
    refine vr_al C nd_Club_markOf_75 rfl ?_
    refine vr_get (v := .ref 3) C nd_Club_markOf_76 rfl fl_Club_18 (at_Club_0 c) rfl ?_
    refine vr_il C nd_Club_markOf_79 rfl ?_
    obtain ⟨hN11, h⟩ := no_i h
    refine vr_ialk (j := (nj_n a1)) (f := (cl_liked c)) C nd_Club_markOf_80 rfl (at_Club_3 c) hN11 rfl ?_
    refine vr_ic C nd_Club_markOf_81 ?_
    refine vr_ixor C nd_Club_markOf_82 rfl ?_
    refine vr_iand C nd_Club_markOf_83 rfl ?_
    refine vr_ic C nd_Club_markOf_84 ?_
    refine vr_il C nd_Club_markOf_85 rfl ?_
    refine vr_ishl C nd_Club_markOf_86 rfl ?_
    refine vr_ic C nd_Club_markOf_87 ?_
    refine vr_ixor C nd_Club_markOf_88 rfl ?_
    refine vr_iand C nd_Club_markOf_89 rfl ?_
    obtain ⟨w12, hV13, h⟩ := no_b h
    refine vr_cSip [] [.int (((cl_inn c) &&& (((cl_liked c) (nj_n a1)) ^^^ (-1 : Int32))) &&& (((1 : Int32) <<< (a1 &&& 31)) ^^^ (-1 : Int32)))] [] C nd_Club_markOf_90 rfl ml_Club_60 my_Integer_bitCount (co_Integer_bitCount (((cl_inn c) &&& (((cl_liked c) (nj_n a1)) ^^^ (-1 : Int32))) &&& (((1 : Int32) <<< (a1 &&& 31)) ^^^ (-1 : Int32))) w12 hV13) (em_E _) rfl rfl ⟨rfl, rfl, rfl, rfl⟩ (Nat.zero_le _) (Nat.zero_le _) rfl ?_
    have h := no_s h
    subst h
    exact vr_iret C hq nd_Club_markOf_93 rfl
  have h := no_f hS14 h
  refine vr_tsO C nd_Club_markOf_1 (by have a0 := lv_neT (a := 1) hS3 (by decide); have a1 := lv_neT (a := 2) hS8 (by decide); have a2 := lv_neT (a := 3) hS10 (by decide); have a3 := lv_neT (a := 4) hS14 (by decide); omega) rfl ?_
  refine vr_al C nd_Club_markOf_94 rfl ?_
  refine vr_get (v := .int (cl_inn c)) C nd_Club_markOf_95 rfl fl_Club_31 (at_Club_0 c) rfl ?_
  refine vr_al C nd_Club_markOf_98 rfl ?_
  refine vr_get (v := .ref 3) C nd_Club_markOf_99 rfl fl_Club_18 (at_Club_0 c) rfl ?_
  refine vr_il C nd_Club_markOf_102 rfl ?_
  obtain ⟨hN15, h⟩ := no_i h
  refine vr_ialk (j := (nj_n a1)) (f := (cl_liked c)) C nd_Club_markOf_103 rfl (at_Club_3 c) hN15 rfl ?_
  refine vr_iand C nd_Club_markOf_104 rfl ?_
  obtain ⟨w16, hV17, h⟩ := no_b h
  refine vr_cSip [] [.int ((cl_inn c) &&& ((cl_liked c) (nj_n a1)))] [] C nd_Club_markOf_105 rfl ml_Club_60 my_Integer_bitCount (co_Integer_bitCount ((cl_inn c) &&& ((cl_liked c) (nj_n a1))) w16 hV17) (em_E _) rfl rfl ⟨rfl, rfl, rfl, rfl⟩ (Nat.zero_le _) (Nat.zero_le _) rfl ?_
  have h := no_s h
  subst h
  exact vr_iret C hq nd_Club_markOf_108 rfl
abbrev nr_Club_votesOfSet : Room := { frames := 1, cells := 0, slots := 0, locals := 22 }
theorem lw_Club_votesOfSet_4 {G : nj_G} {ad : Nat → Nat} (C : nj_C G nb_Club_votesOfSet 4 "NobodyJoins$Club" nr_Club_votesOfSet) (c : CluS) (f1 : Int32) : ∀ (n : Nat) (v2 : Int32) (v3 : Int32) (x : Int32), lo_Club_votesOfSet_4 c f1 n v2 v3 = some x → nj_V G ad 0 0 34 [none, none, some (.int x), none] [] (rp_Club c) → nj_V G ad 0 0 4 [some (.ref 0), some (.int f1), some (.int v2), some (.int v3)] [] (rp_Club c) := by
  intro n
  induction n with
  | zero => intro v2 v3 x h; rw [lo_Club_votesOfSet_4] at h; cases h
  | succ n ih =>
    intro v2 v3 x h hk
    rw [lo_Club_votesOfSet_4] at h
    refine vr_il C nd_Club_votesOfSet_4 rfl ?_
    refine vr_al C nd_Club_votesOfSet_5 rfl ?_
    refine vr_get (v := .int (cl_children c)) C nd_Club_votesOfSet_6 rfl fl_Club_24 (at_Club_0 c) rfl ?_
    refine vr_cm_ge C nd_Club_votesOfSet_9 (fun hc => ?_) (fun hc => ?_)
    · have h := no_t hc h
      have h := no_s h
      subst h
      exact vr_wk [0, 1, 3] rfl hk
    · have h := no_f hc h
      refine vr_il C nd_Club_votesOfSet_12 rfl ?_
      refine vr_ic C nd_Club_votesOfSet_13 ?_
      refine vr_il C nd_Club_votesOfSet_14 rfl ?_
      refine vr_ishl C nd_Club_votesOfSet_15 rfl ?_
      refine vr_iand C nd_Club_votesOfSet_16 rfl ?_
      obtain ⟨p1, hP4, h⟩ := no_b h
      have hj : nj_V G ad 0 0 28 [some (.ref 0), some (.int f1), some (.int p1), some (.int v3)] [] (rp_Club c) := by
        refine vr_inc (v := (v3 + (1 : Int32))) (ls' := [some (.ref 0), some (.int f1), some (.int p1), some (.int (v3 + (1 : Int32)))]) C nd_Club_votesOfSet_28 rfl rfl rfl rfl rfl ?_
        refine vr_go C nd_Club_votesOfSet_31 ?_
        exact (ih _ _ _ h hk)
      clear h
      have h := hP4
      clear hP4
      refine vr_if_eq C nd_Club_votesOfSet_17 (fun hc => ?_) (fun hc => ?_)
      · have h := no_t hc h
        have h := no_s h
        subst h
        exact hj
      · have h := no_f hc h
        refine vr_il C nd_Club_votesOfSet_20 rfl ?_
        refine vr_al C nd_Club_votesOfSet_21 rfl ?_
        refine vr_il C nd_Club_votesOfSet_22 rfl ?_
        obtain ⟨w2, hV3, h⟩ := no_b h
        refine vr_sVi (hp' := (rp_Club c)) [.int v3] [.int v2] C nd_Club_votesOfSet_23 rfl ml_Club_53 my_Club_votesOf (co_Club_votesOf c v3 w2 hV3) ⟨_, _, _, rfl, rfl, rfl⟩ rfl rfl ⟨rfl, rfl, rfl, rfl⟩ (Nat.zero_le _) (Nat.zero_le _) rfl ?_
        refine vr_iadd C nd_Club_votesOfSet_26 rfl ?_
        refine vr_is (ls' := [some (.ref 0), some (.int f1), some (.int (v2 + w2)), some (.int v3)]) C nd_Club_votesOfSet_27 rfl rfl ?_
        have h := no_s h
        subst h
        exact hj
theorem co_Club_votesOfSet (c : CluS) (a1 : Int32) (x : Int32) (h : mo_Club_votesOfSet c a1 = some x) : nj_Con ny_Club_votesOfSet nb_Club_votesOfSet 4 (some .int) nr_Club_votesOfSet (rp_Club c) [.ref 0, .int a1] (some (.int x)) (rp_Club c) := by
  rw [mo_Club_votesOfSet] at h
  refine nj_con (by decide) rfl 2 rfl (fun G ad C hq => ?_)
  have C : nj_C G nb_Club_votesOfSet 4 "NobodyJoins$Club" nr_Club_votesOfSet := C
  show nj_V G ad 0 0 0 [some (.ref 0), some (.int a1), none, none] [] (rp_Club c)
  refine vr_ic C nd_Club_votesOfSet_0 ?_
  refine vr_is (ls' := [some (.ref 0), some (.int a1), some (.int (0 : Int32)), none]) C nd_Club_votesOfSet_1 rfl rfl ?_
  refine vr_ic C nd_Club_votesOfSet_2 ?_
  refine vr_is (ls' := [some (.ref 0), some (.int a1), some (.int (0 : Int32)), some (.int (0 : Int32))]) C nd_Club_votesOfSet_3 rfl rfl ?_
  obtain ⟨x5, hX6, h⟩ := no_b h
  refine lw_Club_votesOfSet_4 C c a1 nj_fu _ _ x5 hX6 ?_
  refine vr_il C nd_Club_votesOfSet_34 rfl ?_
  have h := no_s h
  subst h
  exact vr_iret C hq nd_Club_votesOfSet_35 rfl
abbrev nr_Club_isCarried : Room := { frames := 1, cells := 0, slots := 0, locals := 22 }
theorem co_Club_isCarried (c : CluS) (a1 : Int32) (a2 : Int32) (a3 : Int32) (a4 : Int32) (x : Bool) (h : mo_Club_isCarried c a1 a2 a3 a4 = some x) : nj_Con ny_Club_isCarried nb_Club_isCarried 5 (some .boolean) nr_Club_isCarried (rp_Club c) [.ref 0, .int a1, .int a2, .int a3, .int a4] (some (.int (nj_b x))) (rp_Club c) := by
  rw [mo_Club_isCarried] at h
  refine nj_con (by decide) rfl 0 rfl (fun G ad C hq => ?_)
  have C : nj_C G nb_Club_isCarried 5 "NobodyJoins$Club" nr_Club_isCarried := C
  show nj_V G ad 0 0 0 [some (.ref 0), some (.int a1), some (.int a2), some (.int a3), some (.int a4)] [] (rp_Club c)
  refine vr_il C nd_Club_isCarried_0 rfl ?_
  by_cases hS1 : a4 = (1 : Int32)
  · have h := no_t hS1 h
    refine vr_ls C nd_Club_isCarried_2 (by decide) (by first | (rw [hS1]; done) | (rw [hS1]; rfl)) rfl ?_
    refine vr_il C nd_Club_isCarried_28 rfl ?_
    refine vr_ic C nd_Club_isCarried_29 ?_
    refine vr_il C nd_Club_isCarried_30 rfl ?_
    refine vr_imul C nd_Club_isCarried_31 rfl ?_
    refine vr_cm_lt C nd_Club_isCarried_32 (fun hc => ?_) (fun hc => ?_)
    · have h := no_t hc h
      refine vr_ic C nd_Club_isCarried_43 ?_
      have h := no_s h
      subst h
      exact vr_zret false C hq nd_Club_isCarried_44 rfl
    · have h := no_f hc h
      refine vr_il C nd_Club_isCarried_35 rfl ?_
      refine vr_if_le C nd_Club_isCarried_36 (fun hc => ?_) (fun hc => ?_)
      · have h := no_t hc h
        refine vr_ic C nd_Club_isCarried_43 ?_
        have h := no_s h
        subst h
        exact vr_zret false C hq nd_Club_isCarried_44 rfl
      · have h := no_f hc h
        refine vr_ic C nd_Club_isCarried_39 ?_
        refine vr_go C nd_Club_isCarried_40 ?_
        have h := no_s h
        subst h
        exact vr_zret true C hq nd_Club_isCarried_44 rfl
  have h := no_f hS1 h
  by_cases hS4 : a4 = (2 : Int32)
  · have h := no_t hS4 h
    refine vr_ls C nd_Club_isCarried_2 (by decide) (by first | (rw [hS4]; done) | (rw [hS4]; rfl)) rfl ?_
    refine vr_il C nd_Club_isCarried_45 rfl ?_
    refine vr_al C nd_Club_isCarried_46 rfl ?_
    refine vr_il C nd_Club_isCarried_47 rfl ?_
    obtain ⟨w2, hV3, h⟩ := no_b h
    refine vr_sVi (hp' := (rp_Club c)) [.int a1] [.int a3] C nd_Club_isCarried_48 rfl ml_Club_53 my_Club_votesOf (co_Club_votesOf c a1 w2 hV3) ⟨_, _, _, rfl, rfl, rfl⟩ rfl rfl ⟨rfl, rfl, rfl, rfl⟩ (Nat.zero_le _) (Nat.zero_le _) rfl ?_
    refine vr_cm_ne C nd_Club_isCarried_51 (fun hc => ?_) (fun hc => ?_)
    · have h := no_f hc h
      refine vr_ic C nd_Club_isCarried_62 ?_
      have h := no_s h
      subst h
      exact vr_zret false C hq nd_Club_isCarried_63 rfl
    · have h := no_t hc h
      refine vr_il C nd_Club_isCarried_54 rfl ?_
      refine vr_if_le C nd_Club_isCarried_55 (fun hc => ?_) (fun hc => ?_)
      · have h := no_t hc h
        refine vr_ic C nd_Club_isCarried_62 ?_
        have h := no_s h
        subst h
        exact vr_zret false C hq nd_Club_isCarried_63 rfl
      · have h := no_f hc h
        refine vr_ic C nd_Club_isCarried_58 ?_
        refine vr_go C nd_Club_isCarried_59 ?_
        have h := no_s h
        subst h
        exact vr_zret true C hq nd_Club_isCarried_63 rfl
  have h := no_f hS4 h
  refine vr_ls (off := 62) C nd_Club_isCarried_2 (by decide) (by rw [lv_osw (a := 1) hS1 (by decide), lv_osw (a := 2) hS4 (by decide)]; rfl) rfl ?_
  refine vr_il C nd_Club_isCarried_64 rfl ?_
  refine vr_il C nd_Club_isCarried_65 rfl ?_
  refine vr_cm_le C nd_Club_isCarried_66 (fun hc => ?_) (fun hc => ?_)
  · have h := no_t hc h
    refine vr_ic C nd_Club_isCarried_73 ?_
    have h := no_s h
    subst h
    exact vr_zret false C hq nd_Club_isCarried_74 rfl
  · have h := no_f hc h
    refine vr_ic C nd_Club_isCarried_69 ?_
    refine vr_go C nd_Club_isCarried_70 ?_
    have h := no_s h
    subst h
    exact vr_zret true C hq nd_Club_isCarried_74 rfl
abbrev nr_Club_allOfKind : Room := { frames := 1, cells := 0, slots := 0, locals := 22 }
theorem lw_Club_allOfKind_4 {G : nj_G} {ad : Nat → Nat} (C : nj_C G nb_Club_allOfKind 4 "NobodyJoins$Club" nr_Club_allOfKind) (c : CluS) (f1 : Int32) : ∀ (n : Nat) (v2 : Int32) (v3 : Int32) (x : Int32), lo_Club_allOfKind_4 c f1 n v2 v3 = some x → nj_V G ad 0 0 33 [none, none, some (.int x), none] [] (rp_Club c) → nj_V G ad 0 0 4 [some (.ref 0), some (.int f1), some (.int v2), some (.int v3)] [] (rp_Club c) := by
  intro n
  induction n with
  | zero => intro v2 v3 x h; rw [lo_Club_allOfKind_4] at h; cases h
  | succ n ih =>
    intro v2 v3 x h hk
    rw [lo_Club_allOfKind_4] at h
    refine vr_il C nd_Club_allOfKind_4 rfl ?_
    refine vr_al C nd_Club_allOfKind_5 rfl ?_
    refine vr_get (v := .int (cl_children c)) C nd_Club_allOfKind_6 rfl fl_Club_24 (at_Club_0 c) rfl ?_
    refine vr_cm_ge C nd_Club_allOfKind_9 (fun hc => ?_) (fun hc => ?_)
    · have h := no_t hc h
      have h := no_s h
      subst h
      exact vr_wk [0, 1, 3] rfl hk
    · have h := no_f hc h
      refine vr_al C nd_Club_allOfKind_12 rfl ?_
      refine vr_il C nd_Club_allOfKind_13 rfl ?_
      refine vr_il C nd_Club_allOfKind_14 rfl ?_
      obtain ⟨w1, hV2, h⟩ := no_b h
      refine vr_sVi (hp' := (rp_Club c)) [.int v3, .int f1] [] C nd_Club_allOfKind_15 rfl ml_Club_46 my_Club_isOfKind (co_Club_isOfKind c v3 f1 w1 hV2) ⟨_, _, _, rfl, rfl, rfl⟩ rfl rfl ⟨rfl, rfl, rfl, rfl⟩ (Nat.zero_le _) (Nat.zero_le _) rfl ?_
      obtain ⟨p3, hP4, h⟩ := no_b h
      have hj : nj_V G ad 0 0 27 [some (.ref 0), some (.int f1), some (.int p3), some (.int v3)] [] (rp_Club c) := by
        refine vr_inc (v := (v3 + (1 : Int32))) (ls' := [some (.ref 0), some (.int f1), some (.int p3), some (.int (v3 + (1 : Int32)))]) C nd_Club_allOfKind_27 rfl rfl rfl rfl rfl ?_
        refine vr_go C nd_Club_allOfKind_30 ?_
        exact (ih _ _ _ h hk)
      clear h
      have h := hP4
      clear hP4
      refine vr_ifb_eq C nd_Club_allOfKind_18 (fun hc => ?_) (fun hc => ?_)
      · have h := no_bf hc h
        have h := no_s h
        subst h
        exact hj
      · have h := no_bt hc h
        refine vr_il C nd_Club_allOfKind_21 rfl ?_
        refine vr_ic C nd_Club_allOfKind_22 ?_
        refine vr_il C nd_Club_allOfKind_23 rfl ?_
        refine vr_ishl C nd_Club_allOfKind_24 rfl ?_
        refine vr_ior C nd_Club_allOfKind_25 rfl ?_
        refine vr_is (ls' := [some (.ref 0), some (.int f1), some (.int (v2 ||| ((1 : Int32) <<< (v3 &&& 31)))), some (.int v3)]) C nd_Club_allOfKind_26 rfl rfl ?_
        have h := no_s h
        subst h
        exact hj
theorem co_Club_allOfKind (c : CluS) (a1 : Int32) (x : Int32) (h : mo_Club_allOfKind c a1 = some x) : nj_Con ny_Club_allOfKind nb_Club_allOfKind 4 (some .int) nr_Club_allOfKind (rp_Club c) [.ref 0, .int a1] (some (.int x)) (rp_Club c) := by
  rw [mo_Club_allOfKind] at h
  refine nj_con (by decide) rfl 2 rfl (fun G ad C hq => ?_)
  have C : nj_C G nb_Club_allOfKind 4 "NobodyJoins$Club" nr_Club_allOfKind := C
  show nj_V G ad 0 0 0 [some (.ref 0), some (.int a1), none, none] [] (rp_Club c)
  refine vr_ic C nd_Club_allOfKind_0 ?_
  refine vr_is (ls' := [some (.ref 0), some (.int a1), some (.int (0 : Int32)), none]) C nd_Club_allOfKind_1 rfl rfl ?_
  refine vr_ic C nd_Club_allOfKind_2 ?_
  refine vr_is (ls' := [some (.ref 0), some (.int a1), some (.int (0 : Int32)), some (.int (0 : Int32))]) C nd_Club_allOfKind_3 rfl rfl ?_
  obtain ⟨x5, hX6, h⟩ := no_b h
  refine lw_Club_allOfKind_4 C c a1 nj_fu _ _ x5 hX6 ?_
  refine vr_il C nd_Club_allOfKind_33 rfl ?_
  have h := no_s h
  subst h
  exact vr_iret C hq nd_Club_allOfKind_34 rfl
abbrev nr_Club_doSistersAgree : Room := { frames := 2, cells := 0, slots := 0, locals := 45 }
theorem co_Club_doSistersAgree (c : CluS) (a1 : Int32) (a2 : Int32) (x : Bool) (h : mo_Club_doSistersAgree c a1 a2 = some x) : nj_Con ny_Club_doSistersAgree nb_Club_doSistersAgree 4 (some .boolean) nr_Club_doSistersAgree (rp_Club c) [.ref 0, .int a1, .int a2] (some (.int (nj_b x))) (rp_Club c) := by
  rw [mo_Club_doSistersAgree] at h
  refine nj_con (by decide) rfl 1 rfl (fun G ad C hq => ?_)
  have C : nj_C G nb_Club_doSistersAgree 4 "NobodyJoins$Club" nr_Club_doSistersAgree := C
  show nj_V G ad 0 0 0 [some (.ref 0), some (.int a1), some (.int a2), none] [] (rp_Club c)
  refine vr_il C nd_Club_doSistersAgree_0 rfl ?_
  refine vr_al C nd_Club_doSistersAgree_1 rfl ?_
  refine vr_ic C nd_Club_doSistersAgree_2 ?_
  obtain ⟨w1, hV2, h⟩ := no_b h
  refine vr_sVi (hp' := (rp_Club c)) [.int (5 : Int32)] [.int a1] C nd_Club_doSistersAgree_3 rfl ml_Club_81 my_Club_allOfKind (co_Club_allOfKind c (5 : Int32) w1 hV2) ⟨_, _, _, rfl, rfl, rfl⟩ rfl rfl ⟨rfl, rfl, rfl, rfl⟩ (Nat.zero_le _) (Nat.zero_le _) rfl ?_
  refine vr_iand C nd_Club_doSistersAgree_6 rfl ?_
  refine vr_is (ls' := [some (.ref 0), some (.int a1), some (.int a2), some (.int (a1 &&& w1))]) C nd_Club_doSistersAgree_7 rfl rfl ?_
  refine vr_il C nd_Club_doSistersAgree_8 rfl ?_
  refine vr_if_eq C nd_Club_doSistersAgree_9 (fun hc => ?_) (fun hc => ?_)
  · have h := no_t hc h
    refine vr_ic C nd_Club_doSistersAgree_20 ?_
    refine vr_go C nd_Club_doSistersAgree_21 ?_
    have h := no_s h
    subst h
    exact vr_zret true C hq nd_Club_doSistersAgree_25 rfl
  · have h := no_f hc h
    refine vr_il C nd_Club_doSistersAgree_12 rfl ?_
    refine vr_il C nd_Club_doSistersAgree_13 rfl ?_
    refine vr_ic C nd_Club_doSistersAgree_14 ?_
    refine vr_ixor C nd_Club_doSistersAgree_15 rfl ?_
    refine vr_iand C nd_Club_doSistersAgree_16 rfl ?_
    refine vr_if_eq C nd_Club_doSistersAgree_17 (fun hc => ?_) (fun hc => ?_)
    · have h := no_t hc h
      refine vr_ic C nd_Club_doSistersAgree_24 ?_
      have h := no_s h
      subst h
      exact vr_zret false C hq nd_Club_doSistersAgree_25 rfl
    · have h := no_f hc h
      refine vr_ic C nd_Club_doSistersAgree_20 ?_
      refine vr_go C nd_Club_doSistersAgree_21 ?_
      have h := no_s h
      subst h
      exact vr_zret true C hq nd_Club_doSistersAgree_25 rfl
abbrev nr_Club_isPutOut : Room := { frames := 3, cells := 0, slots := 0, locals := 68 }
theorem co_Club_isPutOut (c : CluS) (a1 : Int32) (a2 : Int32) (a3 : Int32) (a4 : Int32) (x : Bool) (h : mo_Club_isPutOut c a1 a2 a3 a4 = some x) : nj_Con ny_Club_isPutOut nb_Club_isPutOut 8 (some .boolean) nr_Club_isPutOut (rp_Club c) [.ref 0, .int a1, .int a2, .int a3, .int a4] (some (.int (nj_b x))) (rp_Club c) := by
  rw [mo_Club_isPutOut] at h
  refine nj_con (by decide) rfl 3 rfl (fun G ad C hq => ?_)
  have C : nj_C G nb_Club_isPutOut 8 "NobodyJoins$Club" nr_Club_isPutOut := C
  show nj_V G ad 0 0 0 [some (.ref 0), some (.int a1), some (.int a2), some (.int a3), some (.int a4), none, none, none] [] (rp_Club c)
  refine vr_il C nd_Club_isPutOut_0 rfl ?_
  refine vr_ic C nd_Club_isPutOut_1 ?_
  refine vr_il C nd_Club_isPutOut_2 rfl ?_
  refine vr_ishl C nd_Club_isPutOut_3 rfl ?_
  refine vr_ic C nd_Club_isPutOut_4 ?_
  refine vr_ixor C nd_Club_isPutOut_5 rfl ?_
  refine vr_iand C nd_Club_isPutOut_6 rfl ?_
  refine vr_is (ls' := [some (.ref 0), some (.int a1), some (.int a2), some (.int a3), some (.int a4), some (.int (a2 &&& (((1 : Int32) <<< (a1 &&& 31)) ^^^ (-1 : Int32)))), none, none]) C nd_Club_isPutOut_7 rfl rfl ?_
  refine vr_al C nd_Club_isPutOut_9 rfl ?_
  refine vr_il C nd_Club_isPutOut_10 rfl ?_
  refine vr_il C nd_Club_isPutOut_12 rfl ?_
  refine vr_ic C nd_Club_isPutOut_13 ?_
  refine vr_ixor C nd_Club_isPutOut_14 rfl ?_
  refine vr_iand C nd_Club_isPutOut_15 rfl ?_
  obtain ⟨w1, hV2, h⟩ := no_b h
  refine vr_sVi (hp' := (rp_Club c)) [.int ((a2 &&& (((1 : Int32) <<< (a1 &&& 31)) ^^^ (-1 : Int32))) &&& (a3 ^^^ (-1 : Int32)))] [] C nd_Club_isPutOut_16 rfl ml_Club_71 my_Club_votesOfSet (co_Club_votesOfSet c ((a2 &&& (((1 : Int32) <<< (a1 &&& 31)) ^^^ (-1 : Int32))) &&& (a3 ^^^ (-1 : Int32))) w1 hV2) ⟨_, _, _, rfl, rfl, rfl⟩ rfl rfl ⟨rfl, rfl, rfl, rfl⟩ (Nat.zero_le _) (Nat.zero_le _) rfl ?_
  refine vr_is (ls' := [some (.ref 0), some (.int a1), some (.int a2), some (.int a3), some (.int a4), some (.int (a2 &&& (((1 : Int32) <<< (a1 &&& 31)) ^^^ (-1 : Int32)))), some (.int w1), none]) C nd_Club_isPutOut_19 rfl rfl ?_
  refine vr_al C nd_Club_isPutOut_21 rfl ?_
  refine vr_il C nd_Club_isPutOut_22 rfl ?_
  obtain ⟨w3, hV4, h⟩ := no_b h
  refine vr_sVi (hp' := (rp_Club c)) [.int a2] [] C nd_Club_isPutOut_23 rfl ml_Club_71 my_Club_votesOfSet (co_Club_votesOfSet c a2 w3 hV4) ⟨_, _, _, rfl, rfl, rfl⟩ rfl rfl ⟨rfl, rfl, rfl, rfl⟩ (Nat.zero_le _) (Nat.zero_le _) rfl ?_
  refine vr_il C nd_Club_isPutOut_26 rfl ?_
  refine vr_isub C nd_Club_isPutOut_28 rfl ?_
  refine vr_is (ls' := [some (.ref 0), some (.int a1), some (.int a2), some (.int a3), some (.int a4), some (.int (a2 &&& (((1 : Int32) <<< (a1 &&& 31)) ^^^ (-1 : Int32)))), some (.int w1), some (.int (w3 - w1))]) C nd_Club_isPutOut_29 rfl rfl ?_
  refine vr_al C nd_Club_isPutOut_31 rfl ?_
  refine vr_il C nd_Club_isPutOut_32 rfl ?_
  refine vr_il C nd_Club_isPutOut_33 rfl ?_
  refine vr_il C nd_Club_isPutOut_35 rfl ?_
  refine vr_il C nd_Club_isPutOut_37 rfl ?_
  obtain ⟨w5, hV6, h⟩ := no_b h
  refine vr_sVi (hp' := (rp_Club c)) [.int a1, .int w1, .int (w3 - w1), .int a4] [] C nd_Club_isPutOut_39 rfl ml_Club_74 my_Club_isCarried (co_Club_isCarried c a1 w1 (w3 - w1) a4 w5 hV6) ⟨_, _, _, rfl, rfl, rfl⟩ rfl rfl ⟨rfl, rfl, rfl, rfl⟩ (Nat.zero_le _) (Nat.zero_le _) rfl ?_
  refine vr_ifb_ne C nd_Club_isPutOut_42 (fun hc => ?_) (fun hc => ?_)
  · have h := no_bt hc h
    refine vr_al C nd_Club_isPutOut_47 rfl ?_
    refine vr_get (v := .ref 1) C nd_Club_isPutOut_48 rfl fl_Club_9 (at_Club_0 c) rfl ?_
    refine vr_il C nd_Club_isPutOut_51 rfl ?_
    obtain ⟨hN7, h⟩ := no_i h
    refine vr_ialk (j := (nj_n a1)) (f := (cl_kinds c)) C nd_Club_isPutOut_52 rfl (at_Club_1 c) hN7 rfl ?_
    refine vr_ic C nd_Club_isPutOut_53 ?_
    refine vr_cm_ne C nd_Club_isPutOut_54 (fun hc => ?_) (fun hc => ?_)
    · have h := no_f hc h
      refine vr_il C nd_Club_isPutOut_72 rfl ?_
      refine vr_ic C nd_Club_isPutOut_74 ?_
      refine vr_cm_ne C nd_Club_isPutOut_75 (fun hc => ?_) (fun hc => ?_)
      · have h := no_f hc h
        refine vr_il C nd_Club_isPutOut_90 rfl ?_
        refine vr_il C nd_Club_isPutOut_92 rfl ?_
        refine vr_iand C nd_Club_isPutOut_93 rfl ?_
        refine vr_al C nd_Club_isPutOut_94 rfl ?_
        refine vr_ic C nd_Club_isPutOut_95 ?_
        obtain ⟨w8, hV9, h⟩ := no_b h
        refine vr_sVi (hp' := (rp_Club c)) [.int (2 : Int32)] [.int ((a2 &&& (((1 : Int32) <<< (a1 &&& 31)) ^^^ (-1 : Int32))) &&& a3)] C nd_Club_isPutOut_96 rfl ml_Club_81 my_Club_allOfKind (co_Club_allOfKind c (2 : Int32) w8 hV9) ⟨_, _, _, rfl, rfl, rfl⟩ rfl rfl ⟨rfl, rfl, rfl, rfl⟩ (Nat.zero_le _) (Nat.zero_le _) rfl ?_
        refine vr_iand C nd_Club_isPutOut_99 rfl ?_
        refine vr_if_ne C nd_Club_isPutOut_100 (fun hc => ?_) (fun hc => ?_)
        · have h := no_f hc h
          refine vr_ic C nd_Club_isPutOut_107 ?_
          have h := no_s h
          subst h
          exact vr_zret false C hq nd_Club_isPutOut_108 rfl
        · have h := no_t hc h
          refine vr_ic C nd_Club_isPutOut_103 ?_
          refine vr_go C nd_Club_isPutOut_104 ?_
          have h := no_s h
          subst h
          exact vr_zret true C hq nd_Club_isPutOut_108 rfl
      · have h := no_t hc h
        refine vr_al C nd_Club_isPutOut_78 rfl ?_
        refine vr_il C nd_Club_isPutOut_79 rfl ?_
        refine vr_il C nd_Club_isPutOut_81 rfl ?_
        obtain ⟨w10, hV11, h⟩ := no_b h
        refine vr_sVi (hp' := (rp_Club c)) [.int (a2 &&& (((1 : Int32) <<< (a1 &&& 31)) ^^^ (-1 : Int32))), .int a3] [] C nd_Club_isPutOut_82 rfl ml_Club_78 my_Club_doSistersAgree (co_Club_doSistersAgree c (a2 &&& (((1 : Int32) <<< (a1 &&& 31)) ^^^ (-1 : Int32))) a3 w10 hV11) ⟨_, _, _, rfl, rfl, rfl⟩ rfl rfl ⟨rfl, rfl, rfl, rfl⟩ (Nat.zero_le _) (Nat.zero_le _) rfl ?_
        refine vr_ifb_ne C nd_Club_isPutOut_85 (fun hc => ?_) (fun hc => ?_)
        · have h := no_bt hc h
          refine vr_il C nd_Club_isPutOut_90 rfl ?_
          refine vr_il C nd_Club_isPutOut_92 rfl ?_
          refine vr_iand C nd_Club_isPutOut_93 rfl ?_
          refine vr_al C nd_Club_isPutOut_94 rfl ?_
          refine vr_ic C nd_Club_isPutOut_95 ?_
          obtain ⟨w12, hV13, h⟩ := no_b h
          refine vr_sVi (hp' := (rp_Club c)) [.int (2 : Int32)] [.int ((a2 &&& (((1 : Int32) <<< (a1 &&& 31)) ^^^ (-1 : Int32))) &&& a3)] C nd_Club_isPutOut_96 rfl ml_Club_81 my_Club_allOfKind (co_Club_allOfKind c (2 : Int32) w12 hV13) ⟨_, _, _, rfl, rfl, rfl⟩ rfl rfl ⟨rfl, rfl, rfl, rfl⟩ (Nat.zero_le _) (Nat.zero_le _) rfl ?_
          refine vr_iand C nd_Club_isPutOut_99 rfl ?_
          refine vr_if_ne C nd_Club_isPutOut_100 (fun hc => ?_) (fun hc => ?_)
          · have h := no_f hc h
            refine vr_ic C nd_Club_isPutOut_107 ?_
            have h := no_s h
            subst h
            exact vr_zret false C hq nd_Club_isPutOut_108 rfl
          · have h := no_t hc h
            refine vr_ic C nd_Club_isPutOut_103 ?_
            refine vr_go C nd_Club_isPutOut_104 ?_
            have h := no_s h
            subst h
            exact vr_zret true C hq nd_Club_isPutOut_108 rfl
        · have h := no_bf hc h
          refine vr_ic C nd_Club_isPutOut_88 ?_
          have h := no_s h
          subst h
          exact vr_zret false C hq nd_Club_isPutOut_89 rfl
    · have h := no_t hc h
      refine vr_al C nd_Club_isPutOut_57 rfl ?_
      refine vr_il C nd_Club_isPutOut_58 rfl ?_
      refine vr_il C nd_Club_isPutOut_59 rfl ?_
      refine vr_il C nd_Club_isPutOut_61 rfl ?_
      refine vr_ic C nd_Club_isPutOut_63 ?_
      obtain ⟨w14, hV15, h⟩ := no_b h
      refine vr_sVi (hp' := (rp_Club c)) [.int a1, .int w1, .int (w3 - w1), .int (2 : Int32)] [] C nd_Club_isPutOut_64 rfl ml_Club_74 my_Club_isCarried (co_Club_isCarried c a1 w1 (w3 - w1) (2 : Int32) w14 hV15) ⟨_, _, _, rfl, rfl, rfl⟩ rfl rfl ⟨rfl, rfl, rfl, rfl⟩ (Nat.zero_le _) (Nat.zero_le _) rfl ?_
      refine vr_ifb_ne C nd_Club_isPutOut_67 (fun hc => ?_) (fun hc => ?_)
      · have h := no_bt hc h
        refine vr_il C nd_Club_isPutOut_72 rfl ?_
        refine vr_ic C nd_Club_isPutOut_74 ?_
        refine vr_cm_ne C nd_Club_isPutOut_75 (fun hc => ?_) (fun hc => ?_)
        · have h := no_f hc h
          refine vr_il C nd_Club_isPutOut_90 rfl ?_
          refine vr_il C nd_Club_isPutOut_92 rfl ?_
          refine vr_iand C nd_Club_isPutOut_93 rfl ?_
          refine vr_al C nd_Club_isPutOut_94 rfl ?_
          refine vr_ic C nd_Club_isPutOut_95 ?_
          obtain ⟨w16, hV17, h⟩ := no_b h
          refine vr_sVi (hp' := (rp_Club c)) [.int (2 : Int32)] [.int ((a2 &&& (((1 : Int32) <<< (a1 &&& 31)) ^^^ (-1 : Int32))) &&& a3)] C nd_Club_isPutOut_96 rfl ml_Club_81 my_Club_allOfKind (co_Club_allOfKind c (2 : Int32) w16 hV17) ⟨_, _, _, rfl, rfl, rfl⟩ rfl rfl ⟨rfl, rfl, rfl, rfl⟩ (Nat.zero_le _) (Nat.zero_le _) rfl ?_
          refine vr_iand C nd_Club_isPutOut_99 rfl ?_
          refine vr_if_ne C nd_Club_isPutOut_100 (fun hc => ?_) (fun hc => ?_)
          · have h := no_f hc h
            refine vr_ic C nd_Club_isPutOut_107 ?_
            have h := no_s h
            subst h
            exact vr_zret false C hq nd_Club_isPutOut_108 rfl
          · have h := no_t hc h
            refine vr_ic C nd_Club_isPutOut_103 ?_
            refine vr_go C nd_Club_isPutOut_104 ?_
            have h := no_s h
            subst h
            exact vr_zret true C hq nd_Club_isPutOut_108 rfl
        · have h := no_t hc h
          refine vr_al C nd_Club_isPutOut_78 rfl ?_
          refine vr_il C nd_Club_isPutOut_79 rfl ?_
          refine vr_il C nd_Club_isPutOut_81 rfl ?_
          obtain ⟨w18, hV19, h⟩ := no_b h
          refine vr_sVi (hp' := (rp_Club c)) [.int (a2 &&& (((1 : Int32) <<< (a1 &&& 31)) ^^^ (-1 : Int32))), .int a3] [] C nd_Club_isPutOut_82 rfl ml_Club_78 my_Club_doSistersAgree (co_Club_doSistersAgree c (a2 &&& (((1 : Int32) <<< (a1 &&& 31)) ^^^ (-1 : Int32))) a3 w18 hV19) ⟨_, _, _, rfl, rfl, rfl⟩ rfl rfl ⟨rfl, rfl, rfl, rfl⟩ (Nat.zero_le _) (Nat.zero_le _) rfl ?_
          refine vr_ifb_ne C nd_Club_isPutOut_85 (fun hc => ?_) (fun hc => ?_)
          · have h := no_bt hc h
            refine vr_il C nd_Club_isPutOut_90 rfl ?_
            refine vr_il C nd_Club_isPutOut_92 rfl ?_
            refine vr_iand C nd_Club_isPutOut_93 rfl ?_
            refine vr_al C nd_Club_isPutOut_94 rfl ?_
            refine vr_ic C nd_Club_isPutOut_95 ?_
            obtain ⟨w20, hV21, h⟩ := no_b h
            refine vr_sVi (hp' := (rp_Club c)) [.int (2 : Int32)] [.int ((a2 &&& (((1 : Int32) <<< (a1 &&& 31)) ^^^ (-1 : Int32))) &&& a3)] C nd_Club_isPutOut_96 rfl ml_Club_81 my_Club_allOfKind (co_Club_allOfKind c (2 : Int32) w20 hV21) ⟨_, _, _, rfl, rfl, rfl⟩ rfl rfl ⟨rfl, rfl, rfl, rfl⟩ (Nat.zero_le _) (Nat.zero_le _) rfl ?_
            refine vr_iand C nd_Club_isPutOut_99 rfl ?_
            refine vr_if_ne C nd_Club_isPutOut_100 (fun hc => ?_) (fun hc => ?_)
            · have h := no_f hc h
              refine vr_ic C nd_Club_isPutOut_107 ?_
              have h := no_s h
              subst h
              exact vr_zret false C hq nd_Club_isPutOut_108 rfl
            · have h := no_t hc h
              refine vr_ic C nd_Club_isPutOut_103 ?_
              refine vr_go C nd_Club_isPutOut_104 ?_
              have h := no_s h
              subst h
              exact vr_zret true C hq nd_Club_isPutOut_108 rfl
          · have h := no_bf hc h
            refine vr_ic C nd_Club_isPutOut_88 ?_
            have h := no_s h
            subst h
            exact vr_zret false C hq nd_Club_isPutOut_89 rfl
      · have h := no_bf hc h
        refine vr_ic C nd_Club_isPutOut_70 ?_
        have h := no_s h
        subst h
        exact vr_zret false C hq nd_Club_isPutOut_71 rfl
  · have h := no_bf hc h
    refine vr_ic C nd_Club_isPutOut_45 ?_
    have h := no_s h
    subst h
    exact vr_zret false C hq nd_Club_isPutOut_46 rfl
abbrev nr_Club_putOutOf : Room := { frames := 4, cells := 0, slots := 0, locals := 95 }
theorem lw_Club_putOutOf_4 {G : nj_G} {ad : Nat → Nat} (C : nj_C G nb_Club_putOutOf 4 "NobodyJoins$Club" nr_Club_putOutOf) (c : CluS) (f1 : Int32) : ∀ (n : Nat) (v2 : Int32) (v3 : Int32) (x : Int32), lo_Club_putOutOf_4 c f1 n v2 v3 = some x → nj_V G ad 0 0 51 [none, none, some (.int x), none] [] (rp_Club c) → nj_V G ad 0 0 4 [some (.ref 0), some (.int f1), some (.int v2), some (.int v3)] [] (rp_Club c) := by
  intro n
  induction n with
  | zero => intro v2 v3 x h; rw [lo_Club_putOutOf_4] at h; cases h
  | succ n ih =>
    intro v2 v3 x h hk
    rw [lo_Club_putOutOf_4] at h
    refine vr_il C nd_Club_putOutOf_4 rfl ?_
    refine vr_al C nd_Club_putOutOf_5 rfl ?_
    refine vr_get (v := .int (cl_children c)) C nd_Club_putOutOf_6 rfl fl_Club_24 (at_Club_0 c) rfl ?_
    refine vr_cm_ge C nd_Club_putOutOf_9 (fun hc => ?_) (fun hc => ?_)
    · have h := no_t hc h
      have h := no_s h
      subst h
      exact vr_wk [0, 1, 3] rfl hk
    · have h := no_f hc h
      refine vr_il C nd_Club_putOutOf_12 rfl ?_
      refine vr_ic C nd_Club_putOutOf_13 ?_
      refine vr_il C nd_Club_putOutOf_14 rfl ?_
      refine vr_ishl C nd_Club_putOutOf_15 rfl ?_
      refine vr_iand C nd_Club_putOutOf_16 rfl ?_
      obtain ⟨p1, hP5, h⟩ := no_b h
      have hj : nj_V G ad 0 0 45 [some (.ref 0), some (.int f1), some (.int p1), some (.int v3)] [] (rp_Club c) := by
        refine vr_inc (v := (v3 + (1 : Int32))) (ls' := [some (.ref 0), some (.int f1), some (.int p1), some (.int (v3 + (1 : Int32)))]) C nd_Club_putOutOf_45 rfl rfl rfl rfl rfl ?_
        refine vr_go C nd_Club_putOutOf_48 ?_
        exact (ih _ _ _ h hk)
      clear h
      have h := hP5
      clear hP5
      refine vr_if_eq C nd_Club_putOutOf_17 (fun hc => ?_) (fun hc => ?_)
      · have h := no_t hc h
        have h := no_s h
        subst h
        exact hj
      · have h := no_f hc h
        refine vr_al C nd_Club_putOutOf_20 rfl ?_
        refine vr_il C nd_Club_putOutOf_21 rfl ?_
        refine vr_il C nd_Club_putOutOf_22 rfl ?_
        refine vr_al C nd_Club_putOutOf_23 rfl ?_
        refine vr_get (v := .ref 3) C nd_Club_putOutOf_24 rfl fl_Club_18 (at_Club_0 c) rfl ?_
        refine vr_il C nd_Club_putOutOf_27 rfl ?_
        obtain ⟨hN2, h⟩ := no_i h
        refine vr_ialk (j := (nj_n v3)) (f := (cl_liked c)) C nd_Club_putOutOf_28 rfl (at_Club_3 c) hN2 rfl ?_
        refine vr_al C nd_Club_putOutOf_29 rfl ?_
        refine vr_get (v := .int (cl_rule c)) C nd_Club_putOutOf_30 rfl fl_Club_28 (at_Club_0 c) rfl ?_
        obtain ⟨w3, hV4, h⟩ := no_b h
        refine vr_sVi (hp' := (rp_Club c)) [.int v3, .int f1, .int ((cl_liked c) (nj_n v3)), .int (cl_rule c)] [] C nd_Club_putOutOf_33 rfl ml_Club_84 my_Club_isPutOut (co_Club_isPutOut c v3 f1 ((cl_liked c) (nj_n v3)) (cl_rule c) w3 hV4) ⟨_, _, _, rfl, rfl, rfl⟩ rfl rfl ⟨rfl, rfl, rfl, rfl⟩ (Nat.zero_le _) (Nat.zero_le _) rfl ?_
        refine vr_ifb_eq C nd_Club_putOutOf_36 (fun hc => ?_) (fun hc => ?_)
        · have h := no_bf hc h
          have h := no_s h
          subst h
          exact hj
        · have h := no_bt hc h
          refine vr_il C nd_Club_putOutOf_39 rfl ?_
          refine vr_ic C nd_Club_putOutOf_40 ?_
          refine vr_il C nd_Club_putOutOf_41 rfl ?_
          refine vr_ishl C nd_Club_putOutOf_42 rfl ?_
          refine vr_ior C nd_Club_putOutOf_43 rfl ?_
          refine vr_is (ls' := [some (.ref 0), some (.int f1), some (.int (v2 ||| ((1 : Int32) <<< (v3 &&& 31)))), some (.int v3)]) C nd_Club_putOutOf_44 rfl rfl ?_
          have h := no_s h
          subst h
          exact hj
theorem co_Club_putOutOf (c : CluS) (a1 : Int32) (x : Int32) (h : mo_Club_putOutOf c a1 = some x) : nj_Con ny_Club_putOutOf nb_Club_putOutOf 4 (some .int) nr_Club_putOutOf (rp_Club c) [.ref 0, .int a1] (some (.int x)) (rp_Club c) := by
  rw [mo_Club_putOutOf] at h
  refine nj_con (by decide) rfl 2 rfl (fun G ad C hq => ?_)
  have C : nj_C G nb_Club_putOutOf 4 "NobodyJoins$Club" nr_Club_putOutOf := C
  show nj_V G ad 0 0 0 [some (.ref 0), some (.int a1), none, none] [] (rp_Club c)
  refine vr_ic C nd_Club_putOutOf_0 ?_
  refine vr_is (ls' := [some (.ref 0), some (.int a1), some (.int (0 : Int32)), none]) C nd_Club_putOutOf_1 rfl rfl ?_
  refine vr_ic C nd_Club_putOutOf_2 ?_
  refine vr_is (ls' := [some (.ref 0), some (.int a1), some (.int (0 : Int32)), some (.int (0 : Int32))]) C nd_Club_putOutOf_3 rfl rfl ?_
  obtain ⟨x6, hX7, h⟩ := no_b h
  refine lw_Club_putOutOf_4 C c a1 nj_fu _ _ x6 hX7 ?_
  refine vr_il C nd_Club_putOutOf_51 rfl ?_
  have h := no_s h
  subst h
  exact vr_iret C hq nd_Club_putOutOf_52 rfl
abbrev nr_Club_note : Room := { frames := 0, cells := 0, slots := 0, locals := 0 }
theorem co_Club_note (c : CluS) (a1 : Int32) (a2 : Int32) (x : CluS) (h : mo_Club_note c a1 a2 = some x) : nj_Con ny_Club_note nb_Club_note 3 none nr_Club_note (rp_Club c) [.ref 0, .int a1, .int a2] none (rp_Club x) := by
  rw [mo_Club_note] at h
  refine nj_con (by decide) rfl 0 rfl (fun G ad C hq => ?_)
  have C : nj_C G nb_Club_note 3 "NobodyJoins$Club" nr_Club_note := C
  show nj_V G ad 0 0 0 [some (.ref 0), some (.int a1), some (.int a2)] [] (rp_Club c)
  refine vr_al C nd_Club_note_0 rfl ?_
  refine vr_get (v := .int (cl_dc c)) C nd_Club_note_1 rfl fl_Club_37 (at_Club_0 c) rfl ?_
  refine vr_ic C nd_Club_note_4 ?_
  refine vr_cm_ge C nd_Club_note_6 (fun hc => ?_) (fun hc => ?_)
  · have h := no_t hc h
    have h := no_s h
    subst h
    exact vr_vret C hq nd_Club_note_34 rfl
  · have h := no_f hc h
    refine vr_al C nd_Club_note_9 rfl ?_
    refine vr_get (v := .ref 4) C nd_Club_note_10 rfl fl_Club_21 (at_Club_0 c) rfl ?_
    refine vr_al C nd_Club_note_13 rfl ?_
    refine vr_get (v := .int (cl_dc c)) C nd_Club_note_14 rfl fl_Club_37 (at_Club_0 c) rfl ?_
    refine vr_ic C nd_Club_note_17 ?_
    refine vr_il C nd_Club_note_19 rfl ?_
    refine vr_imul C nd_Club_note_20 rfl ?_
    refine vr_il C nd_Club_note_21 rfl ?_
    refine vr_iadd C nd_Club_note_22 rfl ?_
    obtain ⟨hN1, h⟩ := no_i h
    refine vr_iask (j := (nj_n (cl_dc c))) (f := (cl_deeds c)) (hp' := (rp_Club (cs_deeds c (upd (cl_deeds c) (nj_n (cl_dc c)) (((64 : Int32) * a1) + a2))))) C nd_Club_note_23 rfl (at_Club_4 c) hN1 rfl (st_Club_4 c (upd (cl_deeds c) (nj_n (cl_dc c)) (((64 : Int32) * a1) + a2))) ?_
    refine vr_al C nd_Club_note_24 rfl ?_
    refine vr_dup C nd_Club_note_25 rfl rfl ?_
    refine vr_get (v := .int (cl_dc c)) C nd_Club_note_26 rfl fl_Club_37 (at_Club_0 (cs_deeds c (upd (cl_deeds c) (nj_n (cl_dc c)) (((64 : Int32) * a1) + a2)))) rfl ?_
    refine vr_ic C nd_Club_note_29 ?_
    refine vr_iadd C nd_Club_note_30 rfl ?_
    refine vr_puti (hp' := (rp_Club (cs_dc (cs_deeds c (upd (cl_deeds c) (nj_n (cl_dc c)) (((64 : Int32) * a1) + a2))) ((cl_dc c) + (1 : Int32))))) C nd_Club_note_31 rfl fl_Club_37 (at_Club_0 (cs_deeds c (upd (cl_deeds c) (nj_n (cl_dc c)) (((64 : Int32) * a1) + a2)))) rfl (st_Club_0_8 (cs_deeds c (upd (cl_deeds c) (nj_n (cl_dc c)) (((64 : Int32) * a1) + a2))) ((cl_dc c) + (1 : Int32))) ?_
    have h := no_s h
    subst h
    exact vr_vret C hq nd_Club_note_34 rfl
abbrev nr_Club_putOut : Room := { frames := 1, cells := 0, slots := 0, locals := 22 }
theorem co_Club_putOut (c : CluS) (a1 : Int32) (x : CluS) (h : mo_Club_putOut c a1 = some x) : nj_Con ny_Club_putOut nb_Club_putOut 2 none nr_Club_putOut (rp_Club c) [.ref 0, .int a1] none (rp_Club x) := by
  rw [mo_Club_putOut] at h
  refine nj_con (by decide) rfl 0 rfl (fun G ad C hq => ?_)
  have C : nj_C G nb_Club_putOut 2 "NobodyJoins$Club" nr_Club_putOut := C
  show nj_V G ad 0 0 0 [some (.ref 0), some (.int a1)] [] (rp_Club c)
  refine vr_al C nd_Club_putOut_0 rfl ?_
  refine vr_dup C nd_Club_putOut_1 rfl rfl ?_
  refine vr_get (v := .int (cl_inn c)) C nd_Club_putOut_2 rfl fl_Club_31 (at_Club_0 c) rfl ?_
  refine vr_ic C nd_Club_putOut_5 ?_
  refine vr_il C nd_Club_putOut_6 rfl ?_
  refine vr_ishl C nd_Club_putOut_7 rfl ?_
  refine vr_ic C nd_Club_putOut_8 ?_
  refine vr_ixor C nd_Club_putOut_9 rfl ?_
  refine vr_iand C nd_Club_putOut_10 rfl ?_
  refine vr_puti (hp' := (rp_Club (cs_inn c ((cl_inn c) &&& (((1 : Int32) <<< (a1 &&& 31)) ^^^ (-1 : Int32)))))) C nd_Club_putOut_11 rfl fl_Club_31 (at_Club_0 c) rfl (st_Club_0_6 c ((cl_inn c) &&& (((1 : Int32) <<< (a1 &&& 31)) ^^^ (-1 : Int32)))) ?_
  refine vr_al C nd_Club_putOut_14 rfl ?_
  refine vr_ic C nd_Club_putOut_15 ?_
  refine vr_il C nd_Club_putOut_16 rfl ?_
  obtain ⟨w1, hV2, h⟩ := no_b h
  refine vr_sVv (hp' := (rp_Club w1)) [.int (0 : Int32), .int a1] [] C nd_Club_putOut_17 rfl ml_Club_94 my_Club_note (co_Club_note (cs_inn c ((cl_inn c) &&& (((1 : Int32) <<< (a1 &&& 31)) ^^^ (-1 : Int32)))) (0 : Int32) a1 w1 hV2) ⟨_, _, _, rfl, rfl, rfl⟩ rfl rfl ⟨rfl, rfl, rfl, rfl⟩ (Nat.zero_le _) (Nat.zero_le _) rfl ?_
  have h := no_s h
  subst h
  exact vr_vret C hq nd_Club_putOut_20 rfl
abbrev nr_Club_isIn : Room := { frames := 0, cells := 0, slots := 0, locals := 0 }
theorem co_Club_isIn (c : CluS) (a1 : Int32) (x : Bool) (h : mo_Club_isIn c a1 = some x) : nj_Con ny_Club_isIn nb_Club_isIn 2 (some .boolean) nr_Club_isIn (rp_Club c) [.ref 0, .int a1] (some (.int (nj_b x))) (rp_Club c) := by
  rw [mo_Club_isIn] at h
  refine nj_con (by decide) rfl 0 rfl (fun G ad C hq => ?_)
  have C : nj_C G nb_Club_isIn 2 "NobodyJoins$Club" nr_Club_isIn := C
  show nj_V G ad 0 0 0 [some (.ref 0), some (.int a1)] [] (rp_Club c)
  refine vr_al C nd_Club_isIn_0 rfl ?_
  refine vr_get (v := .int (cl_inn c)) C nd_Club_isIn_1 rfl fl_Club_31 (at_Club_0 c) rfl ?_
  refine vr_ic C nd_Club_isIn_4 ?_
  refine vr_il C nd_Club_isIn_5 rfl ?_
  refine vr_ishl C nd_Club_isIn_6 rfl ?_
  refine vr_iand C nd_Club_isIn_7 rfl ?_
  refine vr_if_eq C nd_Club_isIn_8 (fun hc => ?_) (fun hc => ?_)
  · have h := no_t hc h
    refine vr_ic C nd_Club_isIn_15 ?_
    have h := no_s h
    subst h
    exact vr_zret false C hq nd_Club_isIn_16 rfl
  · have h := no_f hc h
    refine vr_ic C nd_Club_isIn_11 ?_
    refine vr_go C nd_Club_isIn_12 ?_
    have h := no_s h
    subst h
    exact vr_zret true C hq nd_Club_isIn_16 rfl
abbrev nr_Club_mayJoin : Room := { frames := 1, cells := 0, slots := 0, locals := 21 }
theorem co_Club_mayJoin (c : CluS) (a1 : Int32) (x : Bool) (h : mo_Club_mayJoin c a1 = some x) : nj_Con ny_Club_mayJoin nb_Club_mayJoin 2 (some .boolean) nr_Club_mayJoin (rp_Club c) [.ref 0, .int a1] (some (.int (nj_b x))) (rp_Club c) := by
  rw [mo_Club_mayJoin] at h
  refine nj_con (by decide) rfl 0 rfl (fun G ad C hq => ?_)
  have C : nj_C G nb_Club_mayJoin 2 "NobodyJoins$Club" nr_Club_mayJoin := C
  show nj_V G ad 0 0 0 [some (.ref 0), some (.int a1)] [] (rp_Club c)
  refine vr_al C nd_Club_mayJoin_0 rfl ?_
  refine vr_il C nd_Club_mayJoin_1 rfl ?_
  obtain ⟨w1, hV2, h⟩ := no_b h
  refine vr_sVi (hp' := (rp_Club c)) [.int a1] [] C nd_Club_mayJoin_2 rfl ml_Club_90 my_Club_isIn (co_Club_isIn c a1 w1 hV2) ⟨_, _, _, rfl, rfl, rfl⟩ rfl rfl ⟨rfl, rfl, rfl, rfl⟩ (Nat.zero_le _) (Nat.zero_le _) rfl ?_
  refine vr_ifb_ne C nd_Club_mayJoin_5 (fun hc => ?_) (fun hc => ?_)
  · have h := no_bt hc h
    refine vr_ic C nd_Club_mayJoin_28 ?_
    have h := no_s h
    subst h
    exact vr_zret false C hq nd_Club_mayJoin_29 rfl
  · have h := no_bf hc h
    refine vr_al C nd_Club_mayJoin_8 rfl ?_
    refine vr_get (v := .int (cl_inn c)) C nd_Club_mayJoin_9 rfl fl_Club_31 (at_Club_0 c) rfl ?_
    refine vr_al C nd_Club_mayJoin_12 rfl ?_
    refine vr_get (v := .ref 3) C nd_Club_mayJoin_13 rfl fl_Club_18 (at_Club_0 c) rfl ?_
    refine vr_il C nd_Club_mayJoin_16 rfl ?_
    obtain ⟨hN3, h⟩ := no_i h
    refine vr_ialk (j := (nj_n a1)) (f := (cl_liked c)) C nd_Club_mayJoin_17 rfl (at_Club_3 c) hN3 rfl ?_
    refine vr_ic C nd_Club_mayJoin_18 ?_
    refine vr_ixor C nd_Club_mayJoin_19 rfl ?_
    refine vr_iand C nd_Club_mayJoin_20 rfl ?_
    refine vr_if_ne C nd_Club_mayJoin_21 (fun hc => ?_) (fun hc => ?_)
    · have h := no_f hc h
      refine vr_ic C nd_Club_mayJoin_28 ?_
      have h := no_s h
      subst h
      exact vr_zret false C hq nd_Club_mayJoin_29 rfl
    · have h := no_t hc h
      refine vr_ic C nd_Club_mayJoin_24 ?_
      refine vr_go C nd_Club_mayJoin_25 ?_
      have h := no_s h
      subst h
      exact vr_zret true C hq nd_Club_mayJoin_29 rfl
abbrev nr_Club_letIn : Room := { frames := 1, cells := 0, slots := 0, locals := 22 }
theorem co_Club_letIn (c : CluS) (a1 : Int32) (x : CluS) (h : mo_Club_letIn c a1 = some x) : nj_Con ny_Club_letIn nb_Club_letIn 2 none nr_Club_letIn (rp_Club c) [.ref 0, .int a1] none (rp_Club x) := by
  rw [mo_Club_letIn] at h
  refine nj_con (by decide) rfl 0 rfl (fun G ad C hq => ?_)
  have C : nj_C G nb_Club_letIn 2 "NobodyJoins$Club" nr_Club_letIn := C
  show nj_V G ad 0 0 0 [some (.ref 0), some (.int a1)] [] (rp_Club c)
  refine vr_al C nd_Club_letIn_0 rfl ?_
  refine vr_dup C nd_Club_letIn_1 rfl rfl ?_
  refine vr_get (v := .int (cl_inn c)) C nd_Club_letIn_2 rfl fl_Club_31 (at_Club_0 c) rfl ?_
  refine vr_ic C nd_Club_letIn_5 ?_
  refine vr_il C nd_Club_letIn_6 rfl ?_
  refine vr_ishl C nd_Club_letIn_7 rfl ?_
  refine vr_ior C nd_Club_letIn_8 rfl ?_
  refine vr_puti (hp' := (rp_Club (cs_inn c ((cl_inn c) ||| ((1 : Int32) <<< (a1 &&& 31)))))) C nd_Club_letIn_9 rfl fl_Club_31 (at_Club_0 c) rfl (st_Club_0_6 c ((cl_inn c) ||| ((1 : Int32) <<< (a1 &&& 31)))) ?_
  refine vr_al C nd_Club_letIn_12 rfl ?_
  refine vr_ic C nd_Club_letIn_13 ?_
  refine vr_il C nd_Club_letIn_14 rfl ?_
  obtain ⟨w1, hV2, h⟩ := no_b h
  refine vr_sVv (hp' := (rp_Club w1)) [.int (1 : Int32), .int a1] [] C nd_Club_letIn_15 rfl ml_Club_94 my_Club_note (co_Club_note (cs_inn c ((cl_inn c) ||| ((1 : Int32) <<< (a1 &&& 31)))) (1 : Int32) a1 w1 hV2) ⟨_, _, _, rfl, rfl, rfl⟩ rfl rfl ⟨rfl, rfl, rfl, rfl⟩ (Nat.zero_le _) (Nat.zero_le _) rfl ?_
  have h := no_s h
  subst h
  exact vr_vret C hq nd_Club_letIn_18 rfl
abbrev nr_Club_payFee : Room := { frames := 1, cells := 0, slots := 0, locals := 22 }
theorem lw_Club_payFee_4 {G : nj_G} {ad : Nat → Nat} (C : nj_C G nb_Club_payFee 3 "NobodyJoins$Club" nr_Club_payFee)  : ∀ (n : Nat) (c : CluS) (v1 : Int32) (v2 : Int32) (x : CluS × Int32), lo_Club_payFee_4  n c v1 v2 = some x → nj_V G ad 0 0 61 [some (.ref 0), some (.int (x.2)), none] [] (rp_Club (x.1)) → nj_V G ad 0 0 4 [some (.ref 0), some (.int v1), some (.int v2)] [] (rp_Club c) := by
  intro n
  induction n with
  | zero => intro c v1 v2 x h; rw [lo_Club_payFee_4] at h; cases h
  | succ n ih =>
    intro c v1 v2 x h hk
    rw [lo_Club_payFee_4] at h
    refine vr_il C nd_Club_payFee_4 rfl ?_
    refine vr_al C nd_Club_payFee_5 rfl ?_
    refine vr_get (v := .int (cl_children c)) C nd_Club_payFee_6 rfl fl_Club_24 (at_Club_0 c) rfl ?_
    refine vr_cm_ge C nd_Club_payFee_9 (fun hc => ?_) (fun hc => ?_)
    · have h := no_t hc h
      have h := no_s h
      subst h
      exact vr_wk [2] rfl hk
    · have h := no_f hc h
      refine vr_al C nd_Club_payFee_12 rfl ?_
      refine vr_il C nd_Club_payFee_13 rfl ?_
      obtain ⟨w1, hV2, h⟩ := no_b h
      refine vr_sVi (hp' := (rp_Club c)) [.int v2] [] C nd_Club_payFee_14 rfl ml_Club_90 my_Club_isIn (co_Club_isIn c v2 w1 hV2) ⟨_, _, _, rfl, rfl, rfl⟩ rfl rfl ⟨rfl, rfl, rfl, rfl⟩ (Nat.zero_le _) (Nat.zero_le _) rfl ?_
      obtain ⟨p3, hP7, h⟩ := no_b h
      have hj : nj_V G ad 0 0 55 [some (.ref 0), some (.int (p3.1)), some (.int v2)] [] (rp_Club (p3.2)) := by
        refine vr_inc (v := (v2 + (1 : Int32))) (ls' := [some (.ref 0), some (.int (p3.1)), some (.int (v2 + (1 : Int32)))]) C nd_Club_payFee_55 rfl rfl rfl rfl rfl ?_
        refine vr_go C nd_Club_payFee_58 ?_
        exact (ih _ _ _ _ h hk)
      clear h
      have h := hP7
      clear hP7
      refine vr_ifb_eq C nd_Club_payFee_17 (fun hc => ?_) (fun hc => ?_)
      · have h := no_bf hc h
        have h := no_s h
        subst h
        exact hj
      · have h := no_bt hc h
        refine vr_al C nd_Club_payFee_20 rfl ?_
        refine vr_get (v := .ref 2) C nd_Club_payFee_21 rfl fl_Club_15 (at_Club_0 c) rfl ?_
        refine vr_il C nd_Club_payFee_24 rfl ?_
        obtain ⟨hN4, h⟩ := no_i h
        refine vr_ialk (j := (nj_n v2)) (f := (cl_pence c)) C nd_Club_payFee_25 rfl (at_Club_2 c) hN4 rfl ?_
        refine vr_if_le C nd_Club_payFee_26 (fun hc => ?_) (fun hc => ?_)
        · have h := no_t hc h
          have h := no_s h
          subst h
          exact hj
        · have h := no_f hc h
          refine vr_il C nd_Club_payFee_29 rfl ?_
          refine vr_ic C nd_Club_payFee_30 ?_
          refine vr_il C nd_Club_payFee_31 rfl ?_
          refine vr_ishl C nd_Club_payFee_32 rfl ?_
          refine vr_ior C nd_Club_payFee_33 rfl ?_
          refine vr_is (ls' := [some (.ref 0), some (.int (v1 ||| ((1 : Int32) <<< (v2 &&& 31)))), some (.int v2)]) C nd_Club_payFee_34 rfl rfl ?_
          refine vr_al C nd_Club_payFee_35 rfl ?_
          refine vr_get (v := .ref 2) C nd_Club_payFee_36 rfl fl_Club_15 (at_Club_0 c) rfl ?_
          refine vr_il C nd_Club_payFee_39 rfl ?_
          refine vr_dup2 C nd_Club_payFee_40 rfl rfl rfl ?_
          obtain ⟨hN5, h⟩ := no_i h
          refine vr_ialk (j := (nj_n v2)) (f := (cl_pence c)) C nd_Club_payFee_41 rfl (at_Club_2 c) hN5 rfl ?_
          refine vr_ic C nd_Club_payFee_42 ?_
          refine vr_isub C nd_Club_payFee_43 rfl ?_
          obtain ⟨hN6, h⟩ := no_i h
          refine vr_iask (j := (nj_n v2)) (f := (cl_pence c)) (hp' := (rp_Club (cs_pence c (upd (cl_pence c) (nj_n v2) (((cl_pence c) (nj_n v2)) - (1 : Int32)))))) C nd_Club_payFee_44 rfl (at_Club_2 c) hN6 rfl (st_Club_2 c (upd (cl_pence c) (nj_n v2) (((cl_pence c) (nj_n v2)) - (1 : Int32)))) ?_
          refine vr_al C nd_Club_payFee_45 rfl ?_
          refine vr_dup C nd_Club_payFee_46 rfl rfl ?_
          refine vr_get (v := .int (cl_tin c)) C nd_Club_payFee_47 rfl fl_Club_34 (at_Club_0 (cs_pence c (upd (cl_pence c) (nj_n v2) (((cl_pence c) (nj_n v2)) - (1 : Int32))))) rfl ?_
          refine vr_ic C nd_Club_payFee_50 ?_
          refine vr_iadd C nd_Club_payFee_51 rfl ?_
          refine vr_puti (hp' := (rp_Club (cs_tin (cs_pence c (upd (cl_pence c) (nj_n v2) (((cl_pence c) (nj_n v2)) - (1 : Int32)))) ((cl_tin c) + (1 : Int32))))) C nd_Club_payFee_52 rfl fl_Club_34 (at_Club_0 (cs_pence c (upd (cl_pence c) (nj_n v2) (((cl_pence c) (nj_n v2)) - (1 : Int32))))) rfl (st_Club_0_7 (cs_pence c (upd (cl_pence c) (nj_n v2) (((cl_pence c) (nj_n v2)) - (1 : Int32)))) ((cl_tin c) + (1 : Int32))) ?_
          have h := no_s h
          subst h
          exact hj
theorem co_Club_payFee (c : CluS) (x : CluS) (h : mo_Club_payFee c = some x) : nj_Con ny_Club_payFee nb_Club_payFee 3 none nr_Club_payFee (rp_Club c) [.ref 0] none (rp_Club x) := by
  rw [mo_Club_payFee] at h
  refine nj_con (by decide) rfl 2 rfl (fun G ad C hq => ?_)
  have C : nj_C G nb_Club_payFee 3 "NobodyJoins$Club" nr_Club_payFee := C
  show nj_V G ad 0 0 0 [some (.ref 0), none, none] [] (rp_Club c)
  refine vr_ic C nd_Club_payFee_0 ?_
  refine vr_is (ls' := [some (.ref 0), some (.int (0 : Int32)), none]) C nd_Club_payFee_1 rfl rfl ?_
  refine vr_ic C nd_Club_payFee_2 ?_
  refine vr_is (ls' := [some (.ref 0), some (.int (0 : Int32)), some (.int (0 : Int32))]) C nd_Club_payFee_3 rfl rfl ?_
  obtain ⟨x8, hX9, h⟩ := no_b h
  refine lw_Club_payFee_4 C  nj_fu _ _ _ x8 hX9 ?_
  refine vr_al C nd_Club_payFee_61 rfl ?_
  refine vr_ic C nd_Club_payFee_62 ?_
  refine vr_il C nd_Club_payFee_63 rfl ?_
  obtain ⟨w10, hV11, h⟩ := no_b h
  refine vr_sVv (hp' := (rp_Club w10)) [.int (2 : Int32), .int (x8.2)] [] C nd_Club_payFee_64 rfl ml_Club_94 my_Club_note (co_Club_note (x8.1) (2 : Int32) (x8.2) w10 hV11) ⟨_, _, _, rfl, rfl, rfl⟩ rfl rfl ⟨rfl, rfl, rfl, rfl⟩ (Nat.zero_le _) (Nat.zero_le _) rfl ?_
  have h := no_s h
  subst h
  exact vr_vret C hq nd_Club_payFee_67 rfl
abbrev nr_Club_bearGrudge : Room := { frames := 1, cells := 0, slots := 0, locals := 22 }
theorem co_Club_bearGrudge (c : CluS) (a1 : Int32) (a2 : Int32) (x : CluS) (h : mo_Club_bearGrudge c a1 a2 = some x) : nj_Con ny_Club_bearGrudge nb_Club_bearGrudge 3 none nr_Club_bearGrudge (rp_Club c) [.ref 0, .int a1, .int a2] none (rp_Club x) := by
  rw [mo_Club_bearGrudge] at h
  refine nj_con (by decide) rfl 0 rfl (fun G ad C hq => ?_)
  have C : nj_C G nb_Club_bearGrudge 3 "NobodyJoins$Club" nr_Club_bearGrudge := C
  show nj_V G ad 0 0 0 [some (.ref 0), some (.int a1), some (.int a2)] [] (rp_Club c)
  refine vr_al C nd_Club_bearGrudge_0 rfl ?_
  refine vr_il C nd_Club_bearGrudge_1 rfl ?_
  refine vr_il C nd_Club_bearGrudge_2 rfl ?_
  obtain ⟨w1, hV2, h⟩ := no_b h
  refine vr_sVv (hp' := (rp_Club w1)) [.int a1, .int a2] [] C nd_Club_bearGrudge_3 rfl ml_Club_98 my_Club_toggleLiking (co_Club_toggleLiking c a1 a2 w1 hV2) ⟨_, _, _, rfl, rfl, rfl⟩ rfl rfl ⟨rfl, rfl, rfl, rfl⟩ (Nat.zero_le _) (Nat.zero_le _) rfl ?_
  refine vr_al C nd_Club_bearGrudge_6 rfl ?_
  refine vr_ic C nd_Club_bearGrudge_7 ?_
  refine vr_ic C nd_Club_bearGrudge_8 ?_
  refine vr_il C nd_Club_bearGrudge_10 rfl ?_
  refine vr_imul C nd_Club_bearGrudge_11 rfl ?_
  refine vr_il C nd_Club_bearGrudge_12 rfl ?_
  refine vr_iadd C nd_Club_bearGrudge_13 rfl ?_
  obtain ⟨w3, hV4, h⟩ := no_b h
  refine vr_sVv (hp' := (rp_Club w3)) [.int (3 : Int32), .int (((6 : Int32) * a1) + a2)] [] C nd_Club_bearGrudge_14 rfl ml_Club_94 my_Club_note (co_Club_note w1 (3 : Int32) (((6 : Int32) * a1) + a2) w3 hV4) ⟨_, _, _, rfl, rfl, rfl⟩ rfl rfl ⟨rfl, rfl, rfl, rfl⟩ (Nat.zero_le _) (Nat.zero_le _) rfl ?_
  have h := no_s h
  subst h
  exact vr_vret C hq nd_Club_bearGrudge_17 rfl
abbrev nr_Club_giveBack : Room := { frames := 0, cells := 0, slots := 0, locals := 0 }
theorem lw_Club_giveBack_2 {G : nj_G} {ad : Nat → Nat} (C : nj_C G nb_Club_giveBack 3 "NobodyJoins$Club" nr_Club_giveBack) (f1 : Int32) : ∀ (n : Nat) (c : CluS) (v2 : Int32) (x : CluS), lo_Club_giveBack_2 f1 n c v2 = some x → nj_V G ad 0 0 44 [none, none, none] [] (rp_Club x) → nj_V G ad 0 0 2 [some (.ref 0), some (.int f1), some (.int v2)] [] (rp_Club c) := by
  intro n
  induction n with
  | zero => intro c v2 x h; rw [lo_Club_giveBack_2] at h; cases h
  | succ n ih =>
    intro c v2 x h hk
    rw [lo_Club_giveBack_2] at h
    refine vr_il C nd_Club_giveBack_2 rfl ?_
    refine vr_al C nd_Club_giveBack_3 rfl ?_
    refine vr_get (v := .int (cl_children c)) C nd_Club_giveBack_4 rfl fl_Club_24 (at_Club_0 c) rfl ?_
    refine vr_cm_ge C nd_Club_giveBack_7 (fun hc => ?_) (fun hc => ?_)
    · have h := no_t hc h
      have h := no_s h
      subst h
      exact vr_wk [0, 1, 2] rfl hk
    · have h := no_f hc h
      refine vr_il C nd_Club_giveBack_10 rfl ?_
      refine vr_ic C nd_Club_giveBack_11 ?_
      refine vr_il C nd_Club_giveBack_12 rfl ?_
      refine vr_ishl C nd_Club_giveBack_13 rfl ?_
      refine vr_iand C nd_Club_giveBack_14 rfl ?_
      obtain ⟨p1, hP4, h⟩ := no_b h
      have hj : nj_V G ad 0 0 38 [some (.ref 0), some (.int f1), some (.int v2)] [] (rp_Club p1) := by
        refine vr_inc (v := (v2 + (1 : Int32))) (ls' := [some (.ref 0), some (.int f1), some (.int (v2 + (1 : Int32)))]) C nd_Club_giveBack_38 rfl rfl rfl rfl rfl ?_
        refine vr_go C nd_Club_giveBack_41 ?_
        exact (ih _ _ _ h hk)
      clear h
      have h := hP4
      clear hP4
      refine vr_if_eq C nd_Club_giveBack_15 (fun hc => ?_) (fun hc => ?_)
      · have h := no_t hc h
        have h := no_s h
        subst h
        exact hj
      · have h := no_f hc h
        refine vr_al C nd_Club_giveBack_18 rfl ?_
        refine vr_get (v := .ref 2) C nd_Club_giveBack_19 rfl fl_Club_15 (at_Club_0 c) rfl ?_
        refine vr_il C nd_Club_giveBack_22 rfl ?_
        refine vr_dup2 C nd_Club_giveBack_23 rfl rfl rfl ?_
        obtain ⟨hN2, h⟩ := no_i h
        refine vr_ialk (j := (nj_n v2)) (f := (cl_pence c)) C nd_Club_giveBack_24 rfl (at_Club_2 c) hN2 rfl ?_
        refine vr_ic C nd_Club_giveBack_25 ?_
        refine vr_iadd C nd_Club_giveBack_26 rfl ?_
        obtain ⟨hN3, h⟩ := no_i h
        refine vr_iask (j := (nj_n v2)) (f := (cl_pence c)) (hp' := (rp_Club (cs_pence c (upd (cl_pence c) (nj_n v2) (((cl_pence c) (nj_n v2)) + (1 : Int32)))))) C nd_Club_giveBack_27 rfl (at_Club_2 c) hN3 rfl (st_Club_2 c (upd (cl_pence c) (nj_n v2) (((cl_pence c) (nj_n v2)) + (1 : Int32)))) ?_
        refine vr_al C nd_Club_giveBack_28 rfl ?_
        refine vr_dup C nd_Club_giveBack_29 rfl rfl ?_
        refine vr_get (v := .int (cl_tin c)) C nd_Club_giveBack_30 rfl fl_Club_34 (at_Club_0 (cs_pence c (upd (cl_pence c) (nj_n v2) (((cl_pence c) (nj_n v2)) + (1 : Int32))))) rfl ?_
        refine vr_ic C nd_Club_giveBack_33 ?_
        refine vr_isub C nd_Club_giveBack_34 rfl ?_
        refine vr_puti (hp' := (rp_Club (cs_tin (cs_pence c (upd (cl_pence c) (nj_n v2) (((cl_pence c) (nj_n v2)) + (1 : Int32)))) ((cl_tin c) - (1 : Int32))))) C nd_Club_giveBack_35 rfl fl_Club_34 (at_Club_0 (cs_pence c (upd (cl_pence c) (nj_n v2) (((cl_pence c) (nj_n v2)) + (1 : Int32))))) rfl (st_Club_0_7 (cs_pence c (upd (cl_pence c) (nj_n v2) (((cl_pence c) (nj_n v2)) + (1 : Int32)))) ((cl_tin c) - (1 : Int32))) ?_
        have h := no_s h
        subst h
        exact hj
theorem co_Club_giveBack (c : CluS) (a1 : Int32) (x : CluS) (h : mo_Club_giveBack c a1 = some x) : nj_Con ny_Club_giveBack nb_Club_giveBack 3 none nr_Club_giveBack (rp_Club c) [.ref 0, .int a1] none (rp_Club x) := by
  rw [mo_Club_giveBack] at h
  refine nj_con (by decide) rfl 1 rfl (fun G ad C hq => ?_)
  have C : nj_C G nb_Club_giveBack 3 "NobodyJoins$Club" nr_Club_giveBack := C
  show nj_V G ad 0 0 0 [some (.ref 0), some (.int a1), none] [] (rp_Club c)
  refine vr_ic C nd_Club_giveBack_0 ?_
  refine vr_is (ls' := [some (.ref 0), some (.int a1), some (.int (0 : Int32))]) C nd_Club_giveBack_1 rfl rfl ?_
  obtain ⟨x5, hX6, h⟩ := no_b h
  refine lw_Club_giveBack_2 C a1 nj_fu _ _ x5 hX6 ?_
  have h := no_s h
  subst h
  exact vr_vret C hq nd_Club_giveBack_44 rfl
abbrev nr_Club_undoLast : Room := { frames := 1, cells := 0, slots := 0, locals := 22 }
theorem co_Club_undoLast (c : CluS) (x : CluS) (h : mo_Club_undoLast c = some x) : nj_Con ny_Club_undoLast nb_Club_undoLast 2 none nr_Club_undoLast (rp_Club c) [.ref 0] none (rp_Club x) := by
  rw [mo_Club_undoLast] at h
  refine nj_con (by decide) rfl 1 rfl (fun G ad C hq => ?_)
  have C : nj_C G nb_Club_undoLast 2 "NobodyJoins$Club" nr_Club_undoLast := C
  show nj_V G ad 0 0 0 [some (.ref 0), none] [] (rp_Club c)
  refine vr_al C nd_Club_undoLast_0 rfl ?_
  refine vr_get (v := .int (cl_dc c)) C nd_Club_undoLast_1 rfl fl_Club_37 (at_Club_0 c) rfl ?_
  refine vr_if_ne C nd_Club_undoLast_4 (fun hc => ?_) (fun hc => ?_)
  · have h := no_f hc h
    refine vr_al C nd_Club_undoLast_8 rfl ?_
    refine vr_dup C nd_Club_undoLast_9 rfl rfl ?_
    refine vr_get (v := .int (cl_dc c)) C nd_Club_undoLast_10 rfl fl_Club_37 (at_Club_0 c) rfl ?_
    refine vr_ic C nd_Club_undoLast_13 ?_
    refine vr_isub C nd_Club_undoLast_14 rfl ?_
    refine vr_puti (hp' := (rp_Club (cs_dc c ((cl_dc c) - (1 : Int32))))) C nd_Club_undoLast_15 rfl fl_Club_37 (at_Club_0 c) rfl (st_Club_0_8 c ((cl_dc c) - (1 : Int32))) ?_
    refine vr_al C nd_Club_undoLast_18 rfl ?_
    refine vr_get (v := .ref 4) C nd_Club_undoLast_19 rfl fl_Club_21 (at_Club_0 (cs_dc c ((cl_dc c) - (1 : Int32)))) rfl ?_
    refine vr_al C nd_Club_undoLast_22 rfl ?_
    refine vr_get (v := .int ((cl_dc c) - (1 : Int32))) C nd_Club_undoLast_23 rfl fl_Club_37 (at_Club_0 (cs_dc c ((cl_dc c) - (1 : Int32)))) rfl ?_
    obtain ⟨hN1, h⟩ := no_i h
    refine vr_ialk (j := (nj_n ((cl_dc c) - (1 : Int32)))) (f := (cl_deeds c)) C nd_Club_undoLast_26 rfl (at_Club_4 (cs_dc c ((cl_dc c) - (1 : Int32)))) hN1 rfl ?_
    refine vr_ic C nd_Club_undoLast_27 ?_
    refine vr_irem C nd_Club_undoLast_29 rfl (by decide) ?_
    refine vr_is (ls' := [some (.ref 0), some (.int (nj_rem ((cl_deeds c) (nj_n ((cl_dc c) - (1 : Int32)))) (64 : Int32)))]) C nd_Club_undoLast_30 rfl rfl ?_
    refine vr_al C nd_Club_undoLast_31 rfl ?_
    refine vr_get (v := .ref 4) C nd_Club_undoLast_32 rfl fl_Club_21 (at_Club_0 (cs_dc c ((cl_dc c) - (1 : Int32)))) rfl ?_
    refine vr_al C nd_Club_undoLast_35 rfl ?_
    refine vr_get (v := .int ((cl_dc c) - (1 : Int32))) C nd_Club_undoLast_36 rfl fl_Club_37 (at_Club_0 (cs_dc c ((cl_dc c) - (1 : Int32)))) rfl ?_
    obtain ⟨hN2, h⟩ := no_i h
    refine vr_ialk (j := (nj_n ((cl_dc c) - (1 : Int32)))) (f := (cl_deeds c)) C nd_Club_undoLast_39 rfl (at_Club_4 (cs_dc c ((cl_dc c) - (1 : Int32)))) hN2 rfl ?_
    refine vr_ic C nd_Club_undoLast_40 ?_
    refine vr_idiv C nd_Club_undoLast_42 rfl (by decide) ?_
    by_cases hS3 : (((cl_deeds c) (nj_n ((cl_dc c) - (1 : Int32)))) / (64 : Int32)) = (0 : Int32)
    · have h := no_t hS3 h
      refine vr_tsI (0 : Int32) C nd_Club_undoLast_43 hS3 (by decide) (by decide) rfl rfl ?_
      refine vr_al C nd_Club_undoLast_68 rfl ?_
      refine vr_dup C nd_Club_undoLast_69 rfl rfl ?_
      refine vr_get (v := .int (cl_inn c)) C nd_Club_undoLast_70 rfl fl_Club_31 (at_Club_0 (cs_dc c ((cl_dc c) - (1 : Int32)))) rfl ?_
      refine vr_ic C nd_Club_undoLast_73 ?_
      refine vr_il C nd_Club_undoLast_74 rfl ?_
      refine vr_ishl C nd_Club_undoLast_75 rfl ?_
      refine vr_ior C nd_Club_undoLast_76 rfl ?_
      refine vr_puti (hp' := (rp_Club (cs_inn (cs_dc c ((cl_dc c) - (1 : Int32))) ((cl_inn c) ||| ((1 : Int32) <<< ((nj_rem ((cl_deeds c) (nj_n ((cl_dc c) - (1 : Int32)))) (64 : Int32)) &&& 31)))))) C nd_Club_undoLast_77 rfl fl_Club_31 (at_Club_0 (cs_dc c ((cl_dc c) - (1 : Int32)))) rfl (st_Club_0_6 (cs_dc c ((cl_dc c) - (1 : Int32))) ((cl_inn c) ||| ((1 : Int32) <<< ((nj_rem ((cl_deeds c) (nj_n ((cl_dc c) - (1 : Int32)))) (64 : Int32)) &&& 31)))) ?_
      refine vr_go C nd_Club_undoLast_80 ?_
      have h := no_s h
      subst h
      exact vr_vret C hq nd_Club_undoLast_120 rfl
    have h := no_f hS3 h
    by_cases hS4 : (((cl_deeds c) (nj_n ((cl_dc c) - (1 : Int32)))) / (64 : Int32)) = (1 : Int32)
    · have h := no_t hS4 h
      refine vr_tsI (1 : Int32) C nd_Club_undoLast_43 hS4 (by decide) (by decide) rfl rfl ?_
      refine vr_al C nd_Club_undoLast_83 rfl ?_
      refine vr_dup C nd_Club_undoLast_84 rfl rfl ?_
      refine vr_get (v := .int (cl_inn c)) C nd_Club_undoLast_85 rfl fl_Club_31 (at_Club_0 (cs_dc c ((cl_dc c) - (1 : Int32)))) rfl ?_
      refine vr_ic C nd_Club_undoLast_88 ?_
      refine vr_il C nd_Club_undoLast_89 rfl ?_
      refine vr_ishl C nd_Club_undoLast_90 rfl ?_
      refine vr_ic C nd_Club_undoLast_91 ?_
      refine vr_ixor C nd_Club_undoLast_92 rfl ?_
      refine vr_iand C nd_Club_undoLast_93 rfl ?_
      refine vr_puti (hp' := (rp_Club (cs_inn (cs_dc c ((cl_dc c) - (1 : Int32))) ((cl_inn c) &&& (((1 : Int32) <<< ((nj_rem ((cl_deeds c) (nj_n ((cl_dc c) - (1 : Int32)))) (64 : Int32)) &&& 31)) ^^^ (-1 : Int32)))))) C nd_Club_undoLast_94 rfl fl_Club_31 (at_Club_0 (cs_dc c ((cl_dc c) - (1 : Int32)))) rfl (st_Club_0_6 (cs_dc c ((cl_dc c) - (1 : Int32))) ((cl_inn c) &&& (((1 : Int32) <<< ((nj_rem ((cl_deeds c) (nj_n ((cl_dc c) - (1 : Int32)))) (64 : Int32)) &&& 31)) ^^^ (-1 : Int32)))) ?_
      refine vr_go C nd_Club_undoLast_97 ?_
      have h := no_s h
      subst h
      exact vr_vret C hq nd_Club_undoLast_120 rfl
    have h := no_f hS4 h
    by_cases hS7 : (((cl_deeds c) (nj_n ((cl_dc c) - (1 : Int32)))) / (64 : Int32)) = (2 : Int32)
    · have h := no_t hS7 h
      refine vr_tsI (2 : Int32) C nd_Club_undoLast_43 hS7 (by decide) (by decide) rfl rfl ?_
      refine vr_al C nd_Club_undoLast_100 rfl ?_
      refine vr_il C nd_Club_undoLast_101 rfl ?_
      obtain ⟨w5, hV6, h⟩ := no_b h
      refine vr_sVv (hp' := (rp_Club w5)) [.int (nj_rem ((cl_deeds c) (nj_n ((cl_dc c) - (1 : Int32)))) (64 : Int32))] [] C nd_Club_undoLast_102 rfl ml_Club_117 my_Club_giveBack (co_Club_giveBack (cs_dc c ((cl_dc c) - (1 : Int32))) (nj_rem ((cl_deeds c) (nj_n ((cl_dc c) - (1 : Int32)))) (64 : Int32)) w5 hV6) ⟨_, _, _, rfl, rfl, rfl⟩ rfl rfl ⟨rfl, rfl, rfl, rfl⟩ (Nat.zero_le _) (Nat.zero_le _) rfl ?_
      refine vr_go C nd_Club_undoLast_105 ?_
      have h := no_s h
      subst h
      exact vr_vret C hq nd_Club_undoLast_120 rfl
    have h := no_f hS7 h
    refine vr_tsO C nd_Club_undoLast_43 (by have a0 := lv_neT (a := 0) hS3 (by decide); have a1 := lv_neT (a := 1) hS4 (by decide); have a2 := lv_neT (a := 2) hS7 (by decide); omega) rfl ?_
    refine vr_al C nd_Club_undoLast_108 rfl ?_
    refine vr_il C nd_Club_undoLast_109 rfl ?_
    refine vr_ic C nd_Club_undoLast_110 ?_
    refine vr_idiv C nd_Club_undoLast_112 rfl (by decide) ?_
    refine vr_il C nd_Club_undoLast_113 rfl ?_
    refine vr_ic C nd_Club_undoLast_114 ?_
    refine vr_irem C nd_Club_undoLast_116 rfl (by decide) ?_
    obtain ⟨w8, hV9, h⟩ := no_b h
    refine vr_sVv (hp' := (rp_Club w8)) [.int ((nj_rem ((cl_deeds c) (nj_n ((cl_dc c) - (1 : Int32)))) (64 : Int32)) / (6 : Int32)), .int (nj_rem (nj_rem ((cl_deeds c) (nj_n ((cl_dc c) - (1 : Int32)))) (64 : Int32)) (6 : Int32))] [] C nd_Club_undoLast_117 rfl ml_Club_98 my_Club_toggleLiking (co_Club_toggleLiking (cs_dc c ((cl_dc c) - (1 : Int32))) ((nj_rem ((cl_deeds c) (nj_n ((cl_dc c) - (1 : Int32)))) (64 : Int32)) / (6 : Int32)) (nj_rem (nj_rem ((cl_deeds c) (nj_n ((cl_dc c) - (1 : Int32)))) (64 : Int32)) (6 : Int32)) w8 hV9) ⟨_, _, _, rfl, rfl, rfl⟩ rfl rfl ⟨rfl, rfl, rfl, rfl⟩ (Nat.zero_le _) (Nat.zero_le _) rfl ?_
    have h := no_s h
    subst h
    exact vr_vret C hq nd_Club_undoLast_120 rfl
  · have h := no_t hc h
    have h := no_s h
    subst h
    exact vr_vret C hq nd_Club_undoLast_7 rfl
abbrev nr_Club_votesAgainst : Room := { frames := 2, cells := 0, slots := 0, locals := 45 }
theorem co_Club_votesAgainst (c : CluS) (a1 : Int32) (a2 : Int32) (a3 : Int32) (x : Int32) (h : mo_Club_votesAgainst c a1 a2 a3 = some x) : nj_Con ny_Club_votesAgainst nb_Club_votesAgainst 4 (some .int) nr_Club_votesAgainst (rp_Club c) [.ref 0, .int a1, .int a2, .int a3] (some (.int x)) (rp_Club c) := by
  rw [mo_Club_votesAgainst] at h
  refine nj_con (by decide) rfl 0 rfl (fun G ad C hq => ?_)
  have C : nj_C G nb_Club_votesAgainst 4 "NobodyJoins$Club" nr_Club_votesAgainst := C
  show nj_V G ad 0 0 0 [some (.ref 0), some (.int a1), some (.int a2), some (.int a3)] [] (rp_Club c)
  refine vr_al C nd_Club_votesAgainst_0 rfl ?_
  refine vr_il C nd_Club_votesAgainst_1 rfl ?_
  refine vr_il C nd_Club_votesAgainst_2 rfl ?_
  refine vr_ic C nd_Club_votesAgainst_3 ?_
  refine vr_ixor C nd_Club_votesAgainst_4 rfl ?_
  refine vr_iand C nd_Club_votesAgainst_5 rfl ?_
  refine vr_ic C nd_Club_votesAgainst_6 ?_
  refine vr_il C nd_Club_votesAgainst_7 rfl ?_
  refine vr_ishl C nd_Club_votesAgainst_8 rfl ?_
  refine vr_ic C nd_Club_votesAgainst_9 ?_
  refine vr_ixor C nd_Club_votesAgainst_10 rfl ?_
  refine vr_iand C nd_Club_votesAgainst_11 rfl ?_
  obtain ⟨w1, hV2, h⟩ := no_b h
  refine vr_sVi (hp' := (rp_Club c)) [.int ((a2 &&& (a3 ^^^ (-1 : Int32))) &&& (((1 : Int32) <<< (a1 &&& 31)) ^^^ (-1 : Int32)))] [] C nd_Club_votesAgainst_12 rfl ml_Club_71 my_Club_votesOfSet (co_Club_votesOfSet c ((a2 &&& (a3 ^^^ (-1 : Int32))) &&& (((1 : Int32) <<< (a1 &&& 31)) ^^^ (-1 : Int32))) w1 hV2) ⟨_, _, _, rfl, rfl, rfl⟩ rfl rfl ⟨rfl, rfl, rfl, rfl⟩ (Nat.zero_le _) (Nat.zero_le _) rfl ?_
  have h := no_s h
  subst h
  exact vr_iret C hq nd_Club_votesAgainst_15 rfl
abbrev nr_Orders_measureLengths : Room := { frames := 5, cells := 0, slots := 0, locals := 118 }
theorem lw_Orders_measureLengths_52 {G : nj_G} {ad : Nat → Nat} (C : nj_C G nb_Orders_measureLengths 6 "NobodyJoins$Orders" nr_Orders_measureLengths) (c : CluS) (f2 : Int32) (f4 : Int32) : ∀ (n : Nat) (o : (Nat → Int32)) (v5 : Int32) (x : (Nat → Int32)), lo_Orders_measureLengths_52 c f2 f4 n o v5 = some x → nj_V G ad 0 0 107 [some (.ref 0), some (.ref 2), some (.int f2), none, none, none] [] (rp_Ord x c) → nj_V G ad 0 0 52 [some (.ref 0), some (.ref 2), some (.int f2), none, some (.int f4), some (.int v5)] [] (rp_Ord o c) := by
  intro n
  induction n with
  | zero => intro o v5 x h; rw [lo_Orders_measureLengths_52] at h; cases h
  | succ n ih =>
    intro o v5 x h hk
    rw [lo_Orders_measureLengths_52] at h
    refine vr_il C nd_Orders_measureLengths_52 rfl ?_
    refine vr_al C nd_Orders_measureLengths_54 rfl ?_
    refine vr_get (v := .int (cl_children c)) C nd_Orders_measureLengths_55 rfl fl_Orders_42 (at_Ord_2 o c) rfl ?_
    refine vr_cm_ge C nd_Orders_measureLengths_58 (fun hc => ?_) (fun hc => ?_)
    · have h := no_t hc h
      have h := no_s h
      subst h
      exact vr_wk [4, 5] rfl hk
    · have h := no_f hc h
      refine vr_il C nd_Orders_measureLengths_61 rfl ?_
      refine vr_ic C nd_Orders_measureLengths_63 ?_
      refine vr_il C nd_Orders_measureLengths_64 rfl ?_
      refine vr_ishl C nd_Orders_measureLengths_66 rfl ?_
      refine vr_iand C nd_Orders_measureLengths_67 rfl ?_
      obtain ⟨p6, hP10, h⟩ := no_b h
      have hj : nj_V G ad 0 0 101 [some (.ref 0), some (.ref 2), some (.int f2), none, some (.int f4), some (.int v5)] [] (rp_Ord p6 c) := by
        refine vr_inc (v := (v5 + (1 : Int32))) (ls' := [some (.ref 0), some (.ref 2), some (.int f2), none, some (.int f4), some (.int (v5 + (1 : Int32)))]) C nd_Orders_measureLengths_101 rfl rfl rfl rfl rfl ?_
        refine vr_go C nd_Orders_measureLengths_104 ?_
        exact (ih _ _ _ h hk)
      clear h
      have h := hP10
      clear hP10
      refine vr_if_eq C nd_Orders_measureLengths_68 (fun hc => ?_) (fun hc => ?_)
      · have h := no_t hc h
        have h := no_s h
        subst h
        exact hj
      · have h := no_f hc h
        refine vr_al C nd_Orders_measureLengths_71 rfl ?_
        refine vr_get (v := .ref 1) C nd_Orders_measureLengths_72 rfl fl_Orders_9 (at_Ord_0 o c) rfl ?_
        refine vr_il C nd_Orders_measureLengths_75 rfl ?_
        refine vr_al C nd_Orders_measureLengths_76 rfl ?_
        refine vr_get (v := .ref 1) C nd_Orders_measureLengths_77 rfl fl_Orders_9 (at_Ord_0 o c) rfl ?_
        refine vr_il C nd_Orders_measureLengths_80 rfl ?_
        obtain ⟨hN7, h⟩ := no_i h
        refine vr_ialk (j := (nj_n f2)) (f := o) C nd_Orders_measureLengths_81 rfl (at_Ord_1 o c) hN7 rfl ?_
        refine vr_ic C nd_Orders_measureLengths_82 ?_
        refine vr_al C nd_Orders_measureLengths_83 rfl ?_
        refine vr_get (v := .ref 1) C nd_Orders_measureLengths_84 rfl fl_Orders_9 (at_Ord_0 o c) rfl ?_
        refine vr_il C nd_Orders_measureLengths_87 rfl ?_
        refine vr_ic C nd_Orders_measureLengths_88 ?_
        refine vr_il C nd_Orders_measureLengths_89 rfl ?_
        refine vr_ishl C nd_Orders_measureLengths_91 rfl ?_
        refine vr_ic C nd_Orders_measureLengths_92 ?_
        refine vr_ixor C nd_Orders_measureLengths_93 rfl ?_
        refine vr_iand C nd_Orders_measureLengths_94 rfl ?_
        obtain ⟨hN8, h⟩ := no_i h
        refine vr_ialk (j := (nj_n (f2 &&& (((1 : Int32) <<< (v5 &&& 31)) ^^^ (-1 : Int32))))) (f := o) C nd_Orders_measureLengths_95 rfl (at_Ord_1 o c) hN8 rfl ?_
        refine vr_iadd C nd_Orders_measureLengths_96 rfl ?_
        refine vr_max C nd_Orders_measureLengths_97 rfl ml_Orders_45 mx_s mx_i mx_c rfl rfl rfl (Nat.zero_le _) (Nat.zero_le _) ?_
        obtain ⟨hN9, h⟩ := no_i h
        refine vr_iask (j := (nj_n f2)) (f := o) (hp' := (rp_Ord (upd o (nj_n f2) (if (o (nj_n f2)) < ((1 : Int32) + (o (nj_n (f2 &&& (((1 : Int32) <<< (v5 &&& 31)) ^^^ (-1 : Int32)))))) then ((1 : Int32) + (o (nj_n (f2 &&& (((1 : Int32) <<< (v5 &&& 31)) ^^^ (-1 : Int32)))))) else (o (nj_n f2)))) c)) C nd_Orders_measureLengths_100 rfl (at_Ord_1 o c) hN9 rfl (st_Ord_1 o c (upd o (nj_n f2) (if (o (nj_n f2)) < ((1 : Int32) + (o (nj_n (f2 &&& (((1 : Int32) <<< (v5 &&& 31)) ^^^ (-1 : Int32)))))) then ((1 : Int32) + (o (nj_n (f2 &&& (((1 : Int32) <<< (v5 &&& 31)) ^^^ (-1 : Int32)))))) else (o (nj_n f2))))) ?_
        have h := no_s h
        subst h
        exact hj
theorem lw_Orders_measureLengths_2 {G : nj_G} {ad : Nat → Nat} (C : nj_C G nb_Orders_measureLengths 6 "NobodyJoins$Orders" nr_Orders_measureLengths) (c : CluS) : ∀ (n : Nat) (o : (Nat → Int32)) (v2 : Int32) (x : (Nat → Int32)), lo_Orders_measureLengths_2 c n o v2 = some x → nj_V G ad 0 0 113 [none, none, none, none, none, none] [] (rp_Ord x c) → nj_V G ad 0 0 2 [some (.ref 0), some (.ref 2), some (.int v2), none, none, none] [] (rp_Ord o c) := by
  intro n
  induction n with
  | zero => intro o v2 x h; rw [lo_Orders_measureLengths_2] at h; cases h
  | succ n ih =>
    intro o v2 x h hk
    rw [lo_Orders_measureLengths_2] at h
    refine vr_il C nd_Orders_measureLengths_2 rfl ?_
    refine vr_al C nd_Orders_measureLengths_3 rfl ?_
    refine vr_get (v := .int (cl_inn c)) C nd_Orders_measureLengths_4 rfl fl_Orders_19 (at_Ord_2 o c) rfl ?_
    refine vr_cm_gt C nd_Orders_measureLengths_7 (fun hc => ?_) (fun hc => ?_)
    · have h := no_t hc h
      have h := no_s h
      subst h
      exact vr_wk [0, 1, 2] rfl hk
    · have h := no_f hc h
      refine vr_al C nd_Orders_measureLengths_10 rfl ?_
      refine vr_get (v := .ref 1) C nd_Orders_measureLengths_11 rfl fl_Orders_9 (at_Ord_0 o c) rfl ?_
      refine vr_il C nd_Orders_measureLengths_14 rfl ?_
      refine vr_ic C nd_Orders_measureLengths_15 ?_
      obtain ⟨hN1, h⟩ := no_i h
      refine vr_iask (j := (nj_n v2)) (f := o) (hp' := (rp_Ord (upd o (nj_n v2) (0 : Int32)) c)) C nd_Orders_measureLengths_16 rfl (at_Ord_1 o c) hN1 rfl (st_Ord_1 o c (upd o (nj_n v2) (0 : Int32))) ?_
      refine vr_il C nd_Orders_measureLengths_17 rfl ?_
      refine vr_al C nd_Orders_measureLengths_18 rfl ?_
      refine vr_get (v := .int (cl_inn c)) C nd_Orders_measureLengths_19 rfl fl_Orders_19 (at_Ord_2 (upd o (nj_n v2) (0 : Int32)) c) rfl ?_
      refine vr_ic C nd_Orders_measureLengths_22 ?_
      refine vr_ixor C nd_Orders_measureLengths_23 rfl ?_
      refine vr_iand C nd_Orders_measureLengths_24 rfl ?_
      obtain ⟨p2, hP14, h⟩ := no_b h
      have hj : nj_V G ad 0 0 33 [some (.ref 0), some (.ref 2), some (.int v2), none, none, none] [.int p2] (rp_Ord (upd o (nj_n v2) (0 : Int32)) c) := by
        refine vr_is (ls' := [some (.ref 0), some (.ref 2), some (.int v2), some (.int p2), none, none]) C nd_Orders_measureLengths_33 rfl rfl ?_
        refine vr_il C nd_Orders_measureLengths_34 rfl ?_
        obtain ⟨p3, hP13, h⟩ := no_b h
        have hj : nj_V G ad 0 0 47 [some (.ref 0), some (.ref 2), some (.int v2), none, none, none] [.int p3] (rp_Ord (upd o (nj_n v2) (0 : Int32)) c) := by
          refine vr_is (ls' := [some (.ref 0), some (.ref 2), some (.int v2), none, some (.int p3), none]) C nd_Orders_measureLengths_47 rfl rfl ?_
          refine vr_ic C nd_Orders_measureLengths_49 ?_
          refine vr_is (ls' := [some (.ref 0), some (.ref 2), some (.int v2), none, some (.int p3), some (.int (0 : Int32))]) C nd_Orders_measureLengths_50 rfl rfl ?_
          obtain ⟨x11, hX12, h⟩ := no_b h
          refine lw_Orders_measureLengths_52 C c v2 p3 nj_fu _ _ x11 hX12 ?_
          refine vr_inc (v := (v2 + (1 : Int32))) (ls' := [some (.ref 0), some (.ref 2), some (.int (v2 + (1 : Int32))), none, none, none]) C nd_Orders_measureLengths_107 rfl rfl rfl rfl rfl ?_
          refine vr_go C nd_Orders_measureLengths_110 ?_
          exact (ih _ _ _ h hk)
        clear h
        have h := hP13
        clear hP13
        refine vr_if_eq C nd_Orders_measureLengths_35 (fun hc => ?_) (fun hc => ?_)
        · have h := no_t hc h
          refine vr_ic C nd_Orders_measureLengths_46 ?_
          have h := no_s h
          subst h
          exact vr_wk [3] rfl hj
        · have h := no_f hc h
          refine vr_al C nd_Orders_measureLengths_38 rfl ?_
          refine vr_il C nd_Orders_measureLengths_39 rfl ?_
          obtain ⟨w4, hV5, h⟩ := no_b h
          refine vr_cVip [2, 3, 4, 5, 6] [.int v2] [] C nd_Orders_measureLengths_40 rfl ml_Orders_38 my_Club_putOutOf (co_Club_putOutOf c v2 w4 hV5) (em_Ord_Club (upd o (nj_n v2) (0 : Int32)) c) ⟨_, _, _, rfl, rfl, rfl⟩ rfl rfl ⟨rfl, rfl, rfl, rfl⟩ (Nat.zero_le _) (Nat.zero_le _) rfl ?_
          refine vr_go C nd_Orders_measureLengths_43 ?_
          have h := no_s h
          subst h
          exact vr_wk [3] rfl hj
      clear h
      have h := hP14
      clear hP14
      refine vr_if_ne C nd_Orders_measureLengths_25 (fun hc => ?_) (fun hc => ?_)
      · have h := no_f hc h
        refine vr_ic C nd_Orders_measureLengths_32 ?_
        have h := no_s h
        subst h
        exact hj
      · have h := no_t hc h
        refine vr_ic C nd_Orders_measureLengths_28 ?_
        refine vr_go C nd_Orders_measureLengths_29 ?_
        have h := no_s h
        subst h
        exact hj
theorem co_Orders_measureLengths (o : (Nat → Int32)) (c : CluS) (x : (Nat → Int32)) (h : mo_Orders_measureLengths o c = some x) : nj_Con ny_Orders_measureLengths nb_Orders_measureLengths 6 none nr_Orders_measureLengths (rp_Ord o c) [.ref 0, .ref 2] none (rp_Ord x c) := by
  rw [mo_Orders_measureLengths] at h
  refine nj_con (by decide) rfl 4 rfl (fun G ad C hq => ?_)
  have C : nj_C G nb_Orders_measureLengths 6 "NobodyJoins$Orders" nr_Orders_measureLengths := C
  show nj_V G ad 0 0 0 [some (.ref 0), some (.ref 2), none, none, none, none] [] (rp_Ord o c)
  refine vr_ic C nd_Orders_measureLengths_0 ?_
  refine vr_is (ls' := [some (.ref 0), some (.ref 2), some (.int (0 : Int32)), none, none, none]) C nd_Orders_measureLengths_1 rfl rfl ?_
  obtain ⟨x15, hX16, h⟩ := no_b h
  refine lw_Orders_measureLengths_2 C c nj_fu _ _ x15 hX16 ?_
  have h := no_s h
  subst h
  exact vr_vret C hq nd_Orders_measureLengths_113 rfl
abbrev nr_Orders_firstOfLongest : Room := { frames := 5, cells := 0, slots := 0, locals := 118 }
theorem lw_Orders_firstOfLongest_9 {G : nj_G} {ad : Nat → Nat} (C : nj_C G nb_Orders_firstOfLongest 5 "NobodyJoins$Orders" nr_Orders_firstOfLongest) (o : (Nat → Int32)) (c : CluS) (f2 : Int32) (f3 : Int32) : ∀ (n : Nat) (v4 : Int32) (x : Int32), lo_Orders_firstOfLongest_9 o c f2 f3 n v4 = some x → nj_Rt G ad (some (.int x)) (rp_Ord o c) (some .int) → nj_V G ad 0 0 9 [some (.ref 0), some (.ref 2), some (.int f2), some (.int f3), some (.int v4)] [] (rp_Ord o c) := by
  intro n
  induction n with
  | zero => intro v4 x h; rw [lo_Orders_firstOfLongest_9] at h; cases h
  | succ n ih =>
    intro v4 x h hq
    rw [lo_Orders_firstOfLongest_9] at h
    refine vr_il C nd_Orders_firstOfLongest_9 rfl ?_
    refine vr_al C nd_Orders_firstOfLongest_11 rfl ?_
    refine vr_get (v := .int (cl_children c)) C nd_Orders_firstOfLongest_12 rfl fl_Orders_42 (at_Ord_2 o c) rfl ?_
    refine vr_cm_ge C nd_Orders_firstOfLongest_15 (fun hc => ?_) (fun hc => ?_)
    · have h := no_t hc h
      refine vr_ic C nd_Orders_firstOfLongest_60 ?_
      have h := no_s h
      subst h
      exact vr_iret C hq nd_Orders_firstOfLongest_61 rfl
    · have h := no_f hc h
      refine vr_il C nd_Orders_firstOfLongest_18 rfl ?_
      refine vr_ic C nd_Orders_firstOfLongest_19 ?_
      refine vr_il C nd_Orders_firstOfLongest_20 rfl ?_
      refine vr_ishl C nd_Orders_firstOfLongest_22 rfl ?_
      refine vr_iand C nd_Orders_firstOfLongest_23 rfl ?_
      refine vr_if_eq C nd_Orders_firstOfLongest_24 (fun hc => ?_) (fun hc => ?_)
      · have h := no_t hc h
        refine vr_inc (v := (v4 + (1 : Int32))) (ls' := [some (.ref 0), some (.ref 2), some (.int f2), some (.int f3), some (.int (v4 + (1 : Int32)))]) C nd_Orders_firstOfLongest_54 rfl rfl rfl rfl rfl ?_
        refine vr_go C nd_Orders_firstOfLongest_57 ?_
        exact (ih _ _ h hq)
      · have h := no_f hc h
        refine vr_al C nd_Orders_firstOfLongest_27 rfl ?_
        refine vr_get (v := .ref 1) C nd_Orders_firstOfLongest_28 rfl fl_Orders_9 (at_Ord_0 o c) rfl ?_
        refine vr_il C nd_Orders_firstOfLongest_31 rfl ?_
        refine vr_ic C nd_Orders_firstOfLongest_32 ?_
        refine vr_il C nd_Orders_firstOfLongest_33 rfl ?_
        refine vr_ishl C nd_Orders_firstOfLongest_35 rfl ?_
        refine vr_ic C nd_Orders_firstOfLongest_36 ?_
        refine vr_ixor C nd_Orders_firstOfLongest_37 rfl ?_
        refine vr_iand C nd_Orders_firstOfLongest_38 rfl ?_
        obtain ⟨hN3, h⟩ := no_i h
        refine vr_ialk (j := (nj_n (f2 &&& (((1 : Int32) <<< (v4 &&& 31)) ^^^ (-1 : Int32))))) (f := o) C nd_Orders_firstOfLongest_39 rfl (at_Ord_1 o c) hN3 rfl ?_
        refine vr_al C nd_Orders_firstOfLongest_40 rfl ?_
        refine vr_get (v := .ref 1) C nd_Orders_firstOfLongest_41 rfl fl_Orders_9 (at_Ord_0 o c) rfl ?_
        refine vr_il C nd_Orders_firstOfLongest_44 rfl ?_
        obtain ⟨hN4, h⟩ := no_i h
        refine vr_ialk (j := (nj_n f2)) (f := o) C nd_Orders_firstOfLongest_45 rfl (at_Ord_1 o c) hN4 rfl ?_
        refine vr_ic C nd_Orders_firstOfLongest_46 ?_
        refine vr_isub C nd_Orders_firstOfLongest_47 rfl ?_
        refine vr_cm_ne C nd_Orders_firstOfLongest_48 (fun hc => ?_) (fun hc => ?_)
        · have h := no_f hc h
          refine vr_inc (v := (v4 + (1 : Int32))) (ls' := [some (.ref 0), some (.ref 2), some (.int f2), some (.int f3), some (.int (v4 + (1 : Int32)))]) C nd_Orders_firstOfLongest_54 rfl rfl rfl rfl rfl ?_
          refine vr_go C nd_Orders_firstOfLongest_57 ?_
          exact (ih _ _ h hq)
        · have h := no_t hc h
          refine vr_il C nd_Orders_firstOfLongest_51 rfl ?_
          have h := no_s h
          subst h
          exact vr_iret C hq nd_Orders_firstOfLongest_53 rfl
theorem co_Orders_firstOfLongest (o : (Nat → Int32)) (c : CluS) (a2 : Int32) (x : Int32) (h : mo_Orders_firstOfLongest o c a2 = some x) : nj_Con ny_Orders_firstOfLongest nb_Orders_firstOfLongest 5 (some .int) nr_Orders_firstOfLongest (rp_Ord o c) [.ref 0, .ref 2, .int a2] (some (.int x)) (rp_Ord o c) := by
  rw [mo_Orders_firstOfLongest] at h
  refine nj_con (by decide) rfl 2 rfl (fun G ad C hq => ?_)
  have C : nj_C G nb_Orders_firstOfLongest 5 "NobodyJoins$Orders" nr_Orders_firstOfLongest := C
  show nj_V G ad 0 0 0 [some (.ref 0), some (.ref 2), some (.int a2), none, none] [] (rp_Ord o c)
  refine vr_al C nd_Orders_firstOfLongest_0 rfl ?_
  refine vr_il C nd_Orders_firstOfLongest_1 rfl ?_
  obtain ⟨w1, hV2, h⟩ := no_b h
  refine vr_cVip [2, 3, 4, 5, 6] [.int a2] [] C nd_Orders_firstOfLongest_2 rfl ml_Orders_38 my_Club_putOutOf (co_Club_putOutOf c a2 w1 hV2) (em_Ord_Club o c) ⟨_, _, _, rfl, rfl, rfl⟩ rfl rfl ⟨rfl, rfl, rfl, rfl⟩ (Nat.zero_le _) (Nat.zero_le _) rfl ?_
  refine vr_is (ls' := [some (.ref 0), some (.ref 2), some (.int a2), some (.int w1), none]) C nd_Orders_firstOfLongest_5 rfl rfl ?_
  refine vr_ic C nd_Orders_firstOfLongest_6 ?_
  refine vr_is (ls' := [some (.ref 0), some (.ref 2), some (.int a2), some (.int w1), some (.int (0 : Int32))]) C nd_Orders_firstOfLongest_7 rfl rfl ?_
  exact lw_Orders_firstOfLongest_9 C o c a2 w1 nj_fu _ _ h hq
abbrev nr_Orders_layLongest : Room := { frames := 6, cells := 0, slots := 0, locals := 143 }
theorem lw_Orders_layLongest_27 {G : nj_G} {ad : Nat → Nat} (C : nj_C G nb_Orders_layLongest 7 "NobodyJoins$Orders" nr_Orders_layLongest) (o : (Nat → Int32)) (c : CluS) (f4 : Int32) : ∀ (n : Nat) (r : RowS) (v3 : Int32) (v5 : Int32) (x : RowS), lo_Orders_layLongest_27 o c f4 n r v3 v5 = some x → nj_V G ad 0 0 66 [none, none, none, none, some (.int f4), none, none] [] (rp_OrdR o c x) → nj_V G ad 0 0 27 [some (.ref 0), some (.ref 2), some (.ref 7), some (.int v3), some (.int f4), some (.int v5), none] [] (rp_OrdR o c r) := by
  intro n
  induction n with
  | zero => intro r v3 v5 x h; rw [lo_Orders_layLongest_27] at h; cases h
  | succ n ih =>
    intro r v3 v5 x h hk
    rw [lo_Orders_layLongest_27] at h
    refine vr_il C nd_Orders_layLongest_27 rfl ?_
    refine vr_il C nd_Orders_layLongest_29 rfl ?_
    refine vr_cm_ge C nd_Orders_layLongest_31 (fun hc => ?_) (fun hc => ?_)
    · have h := no_t hc h
      have h := no_s h
      subst h
      exact vr_wk [0, 1, 2, 3, 5] rfl hk
    · have h := no_f hc h
      refine vr_al C nd_Orders_layLongest_34 rfl ?_
      refine vr_al C nd_Orders_layLongest_35 rfl ?_
      refine vr_il C nd_Orders_layLongest_36 rfl ?_
      obtain ⟨w6, hV7, h⟩ := no_b h
      refine vr_cVip [0, 1, 2, 3, 4, 5, 6] [.ref 2, .int v3] [] C nd_Orders_layLongest_37 rfl ml_Orders_31 my_Orders_firstOfLongest (co_Orders_firstOfLongest o c v3 w6 hV7) (em_OrdR_Ord o c r) ⟨_, _, _, rfl, rfl, rfl⟩ rfl rfl ⟨rfl, rfl, rfl, rfl⟩ (Nat.zero_le _) (Nat.zero_le _) rfl ?_
      refine vr_is (ls' := [some (.ref 0), some (.ref 2), some (.ref 7), some (.int v3), some (.int f4), some (.int v5), some (.int w6)]) C nd_Orders_layLongest_40 rfl rfl ?_
      refine vr_al C nd_Orders_layLongest_42 rfl ?_
      refine vr_get (v := .ref 8) C nd_Orders_layLongest_43 rfl fl_Orders_35 (at_OrdR_7 o c r) rfl ?_
      refine vr_il C nd_Orders_layLongest_46 rfl ?_
      refine vr_il C nd_Orders_layLongest_48 rfl ?_
      obtain ⟨hN8, h⟩ := no_i h
      refine vr_iask (j := (nj_n v5)) (f := (ro_places r)) (hp' := (rp_OrdR o c (rs_places r (upd (ro_places r) (nj_n v5) w6)))) C nd_Orders_layLongest_50 rfl (at_OrdR_8 o c r) hN8 rfl (st_OrdR_8 o c r (upd (ro_places r) (nj_n v5) w6)) ?_
      refine vr_il C nd_Orders_layLongest_51 rfl ?_
      refine vr_ic C nd_Orders_layLongest_52 ?_
      refine vr_il C nd_Orders_layLongest_53 rfl ?_
      refine vr_ishl C nd_Orders_layLongest_55 rfl ?_
      refine vr_ic C nd_Orders_layLongest_56 ?_
      refine vr_ixor C nd_Orders_layLongest_57 rfl ?_
      refine vr_iand C nd_Orders_layLongest_58 rfl ?_
      refine vr_is (ls' := [some (.ref 0), some (.ref 2), some (.ref 7), some (.int (v3 &&& (((1 : Int32) <<< (w6 &&& 31)) ^^^ (-1 : Int32)))), some (.int f4), some (.int v5), some (.int w6)]) C nd_Orders_layLongest_59 rfl rfl ?_
      refine vr_inc (v := (v5 + (1 : Int32))) (ls' := [some (.ref 0), some (.ref 2), some (.ref 7), some (.int (v3 &&& (((1 : Int32) <<< (w6 &&& 31)) ^^^ (-1 : Int32)))), some (.int f4), some (.int (v5 + (1 : Int32))), some (.int w6)]) C nd_Orders_layLongest_60 rfl rfl rfl rfl rfl ?_
      refine vr_go C nd_Orders_layLongest_63 ?_
      exact vr_wk [6] rfl (ih _ _ _ _ h hk)
theorem co_Orders_layLongest (o : (Nat → Int32)) (c : CluS) (r : RowS) (x : Int32 × (Nat → Int32) × RowS) (h : mo_Orders_layLongest o c r = some x) : nj_Con ny_Orders_layLongest nb_Orders_layLongest 7 (some .int) nr_Orders_layLongest (rp_OrdR o c r) [.ref 0, .ref 2, .ref 7] (some (.int (x.1))) (rp_OrdR (x.2.1) c (x.2.2)) := by
  rw [mo_Orders_layLongest] at h
  refine nj_con (by decide) rfl 4 rfl (fun G ad C hq => ?_)
  have C : nj_C G nb_Orders_layLongest 7 "NobodyJoins$Orders" nr_Orders_layLongest := C
  show nj_V G ad 0 0 0 [some (.ref 0), some (.ref 2), some (.ref 7), none, none, none, none] [] (rp_OrdR o c r)
  refine vr_al C nd_Orders_layLongest_0 rfl ?_
  refine vr_al C nd_Orders_layLongest_1 rfl ?_
  obtain ⟨w1, hV2, h⟩ := no_b h
  refine vr_cVv (hp' := (rp_OrdR w1 c r)) [0, 1, 2, 3, 4, 5, 6] [.ref 2] [] C nd_Orders_layLongest_2 rfl ml_Orders_15 my_Orders_measureLengths (co_Orders_measureLengths o c w1 hV2) (em_OrdR_Ord o c r) ⟨_, _, _, rfl, rfl, rfl⟩ rfl rfl ⟨rfl, rfl, rfl, rfl⟩ (Nat.zero_le _) (Nat.zero_le _) rfl (pa_OrdR_Ord o c r w1 c) ?_
  refine vr_al C nd_Orders_layLongest_5 rfl ?_
  refine vr_get (v := .int (cl_inn c)) C nd_Orders_layLongest_6 rfl fl_Orders_19 (at_OrdR_2 w1 c r) rfl ?_
  refine vr_is (ls' := [some (.ref 0), some (.ref 2), some (.ref 7), some (.int (cl_inn c)), none, none, none]) C nd_Orders_layLongest_9 rfl rfl ?_
  refine vr_al C nd_Orders_layLongest_10 rfl ?_
  refine vr_get (v := .ref 1) C nd_Orders_layLongest_11 rfl fl_Orders_9 (at_OrdR_0 w1 c r) rfl ?_
  refine vr_il C nd_Orders_layLongest_14 rfl ?_
  obtain ⟨hN3, h⟩ := no_i h
  refine vr_ialk (j := (nj_n (cl_inn c))) (f := w1) C nd_Orders_layLongest_15 rfl (at_OrdR_1 w1 c r) hN3 rfl ?_
  refine vr_is (ls' := [some (.ref 0), some (.ref 2), some (.ref 7), some (.int (cl_inn c)), some (.int (w1 (nj_n (cl_inn c)))), none, none]) C nd_Orders_layLongest_16 rfl rfl ?_
  refine vr_al C nd_Orders_layLongest_18 rfl ?_
  refine vr_il C nd_Orders_layLongest_19 rfl ?_
  obtain ⟨w4, hV5, h⟩ := no_b h
  refine vr_cVv (hp' := (rp_OrdR w1 c w4)) [7, 8] [.int (w1 (nj_n (cl_inn c)))] [] C nd_Orders_layLongest_21 rfl ml_Orders_25 my_Row_renew (co_Row_renew r (w1 (nj_n (cl_inn c))) w4 hV5) (em_OrdR_Row w1 c r) ⟨_, _, _, rfl, rfl, rfl⟩ rfl rfl ⟨rfl, rfl, rfl, rfl⟩ (Nat.zero_le _) (Nat.zero_le _) rfl (pa_OrdR_Row w1 c r w4) ?_
  refine vr_ic C nd_Orders_layLongest_24 ?_
  refine vr_is (ls' := [some (.ref 0), some (.ref 2), some (.ref 7), some (.int (cl_inn c)), some (.int (w1 (nj_n (cl_inn c)))), some (.int (0 : Int32)), none]) C nd_Orders_layLongest_25 rfl rfl ?_
  obtain ⟨x9, hX10, h⟩ := no_b h
  refine lw_Orders_layLongest_27 C w1 c (w1 (nj_n (cl_inn c))) nj_fu _ _ _ x9 hX10 ?_
  refine vr_il C nd_Orders_layLongest_66 rfl ?_
  have h := no_s h
  subst h
  exact vr_iret C hq nd_Orders_layLongest_68 rfl
abbrev nr_Orders_countPaths : Room := { frames := 5, cells := 0, slots := 0, locals := 118 }
theorem lw_Orders_countPaths_2 {G : nj_G} {ad : Nat → Nat} (C : nj_C G nb_Orders_countPaths 5 "NobodyJoins$Orders" nr_Orders_countPaths) (c : CluS) : ∀ (n : Nat) (o : (Nat → Int32)) (v2 : Int32) (x : (Nat → Int32)), lo_Orders_countPaths_2 c n o v2 = some x → nj_V G ad 0 0 21 [some (.ref 0), some (.ref 2), none, none, none] [] (rp_Ord x c) → nj_V G ad 0 0 2 [some (.ref 0), some (.ref 2), some (.int v2), none, none] [] (rp_Ord o c) := by
  intro n
  induction n with
  | zero => intro o v2 x h; rw [lo_Orders_countPaths_2] at h; cases h
  | succ n ih =>
    intro o v2 x h hk
    rw [lo_Orders_countPaths_2] at h
    refine vr_il C nd_Orders_countPaths_2 rfl ?_
    refine vr_ic C nd_Orders_countPaths_3 ?_
    refine vr_cm_ge C nd_Orders_countPaths_5 (fun hc => ?_) (fun hc => ?_)
    · have h := no_t hc h
      have h := no_s h
      subst h
      exact vr_wk [2] rfl hk
    · have h := no_f hc h
      refine vr_al C nd_Orders_countPaths_8 rfl ?_
      refine vr_get (v := .ref 1) C nd_Orders_countPaths_9 rfl fl_Orders_9 (at_Ord_0 o c) rfl ?_
      refine vr_il C nd_Orders_countPaths_12 rfl ?_
      refine vr_ic C nd_Orders_countPaths_13 ?_
      obtain ⟨hN1, h⟩ := no_i h
      refine vr_iask (j := (nj_n v2)) (f := o) (hp' := (rp_Ord (upd o (nj_n v2) (0 : Int32)) c)) C nd_Orders_countPaths_14 rfl (at_Ord_1 o c) hN1 rfl (st_Ord_1 o c (upd o (nj_n v2) (0 : Int32))) ?_
      refine vr_inc (v := (v2 + (1 : Int32))) (ls' := [some (.ref 0), some (.ref 2), some (.int (v2 + (1 : Int32))), none, none]) C nd_Orders_countPaths_15 rfl rfl rfl rfl rfl ?_
      refine vr_go C nd_Orders_countPaths_18 ?_
      exact (ih _ _ _ h hk)
theorem lw_Orders_countPaths_62 {G : nj_G} {ad : Nat → Nat} (C : nj_C G nb_Orders_countPaths 5 "NobodyJoins$Orders" nr_Orders_countPaths) (c : CluS) (f2 : Int32) (f3 : Int32) : ∀ (n : Nat) (o : (Nat → Int32)) (v4 : Int32) (x : (Nat → Int32)), lo_Orders_countPaths_62 c f2 f3 n o v4 = some x → nj_V G ad 0 0 108 [some (.ref 0), some (.ref 2), some (.int f2), none, none] [] (rp_Ord x c) → nj_V G ad 0 0 62 [some (.ref 0), some (.ref 2), some (.int f2), some (.int f3), some (.int v4)] [] (rp_Ord o c) := by
  intro n
  induction n with
  | zero => intro o v4 x h; rw [lo_Orders_countPaths_62] at h; cases h
  | succ n ih =>
    intro o v4 x h hk
    rw [lo_Orders_countPaths_62] at h
    refine vr_il C nd_Orders_countPaths_62 rfl ?_
    refine vr_al C nd_Orders_countPaths_64 rfl ?_
    refine vr_get (v := .int (cl_children c)) C nd_Orders_countPaths_65 rfl fl_Orders_42 (at_Ord_2 o c) rfl ?_
    refine vr_cm_ge C nd_Orders_countPaths_68 (fun hc => ?_) (fun hc => ?_)
    · have h := no_t hc h
      have h := no_s h
      subst h
      exact vr_wk [3, 4] rfl hk
    · have h := no_f hc h
      refine vr_il C nd_Orders_countPaths_71 rfl ?_
      refine vr_ic C nd_Orders_countPaths_72 ?_
      refine vr_il C nd_Orders_countPaths_73 rfl ?_
      refine vr_ishl C nd_Orders_countPaths_75 rfl ?_
      refine vr_iand C nd_Orders_countPaths_76 rfl ?_
      obtain ⟨p9, hP13, h⟩ := no_b h
      have hj : nj_V G ad 0 0 102 [some (.ref 0), some (.ref 2), some (.int f2), some (.int f3), some (.int v4)] [] (rp_Ord p9 c) := by
        refine vr_inc (v := (v4 + (1 : Int32))) (ls' := [some (.ref 0), some (.ref 2), some (.int f2), some (.int f3), some (.int (v4 + (1 : Int32)))]) C nd_Orders_countPaths_102 rfl rfl rfl rfl rfl ?_
        refine vr_go C nd_Orders_countPaths_105 ?_
        exact (ih _ _ _ h hk)
      clear h
      have h := hP13
      clear hP13
      refine vr_if_eq C nd_Orders_countPaths_77 (fun hc => ?_) (fun hc => ?_)
      · have h := no_t hc h
        have h := no_s h
        subst h
        exact hj
      · have h := no_f hc h
        refine vr_al C nd_Orders_countPaths_80 rfl ?_
        refine vr_get (v := .ref 1) C nd_Orders_countPaths_81 rfl fl_Orders_9 (at_Ord_0 o c) rfl ?_
        refine vr_il C nd_Orders_countPaths_84 rfl ?_
        refine vr_ic C nd_Orders_countPaths_85 ?_
        refine vr_il C nd_Orders_countPaths_86 rfl ?_
        refine vr_ishl C nd_Orders_countPaths_88 rfl ?_
        refine vr_ic C nd_Orders_countPaths_89 ?_
        refine vr_ixor C nd_Orders_countPaths_90 rfl ?_
        refine vr_iand C nd_Orders_countPaths_91 rfl ?_
        refine vr_dup2 C nd_Orders_countPaths_92 rfl rfl rfl ?_
        obtain ⟨hN10, h⟩ := no_i h
        refine vr_ialk (j := (nj_n (f2 &&& (((1 : Int32) <<< (v4 &&& 31)) ^^^ (-1 : Int32))))) (f := o) C nd_Orders_countPaths_93 rfl (at_Ord_1 o c) hN10 rfl ?_
        refine vr_al C nd_Orders_countPaths_94 rfl ?_
        refine vr_get (v := .ref 1) C nd_Orders_countPaths_95 rfl fl_Orders_9 (at_Ord_0 o c) rfl ?_
        refine vr_il C nd_Orders_countPaths_98 rfl ?_
        obtain ⟨hN11, h⟩ := no_i h
        refine vr_ialk (j := (nj_n f2)) (f := o) C nd_Orders_countPaths_99 rfl (at_Ord_1 o c) hN11 rfl ?_
        refine vr_iadd C nd_Orders_countPaths_100 rfl ?_
        obtain ⟨hN12, h⟩ := no_i h
        refine vr_iask (j := (nj_n (f2 &&& (((1 : Int32) <<< (v4 &&& 31)) ^^^ (-1 : Int32))))) (f := o) (hp' := (rp_Ord (upd o (nj_n (f2 &&& (((1 : Int32) <<< (v4 &&& 31)) ^^^ (-1 : Int32)))) ((o (nj_n (f2 &&& (((1 : Int32) <<< (v4 &&& 31)) ^^^ (-1 : Int32))))) + (o (nj_n f2)))) c)) C nd_Orders_countPaths_101 rfl (at_Ord_1 o c) hN12 rfl (st_Ord_1 o c (upd o (nj_n (f2 &&& (((1 : Int32) <<< (v4 &&& 31)) ^^^ (-1 : Int32)))) ((o (nj_n (f2 &&& (((1 : Int32) <<< (v4 &&& 31)) ^^^ (-1 : Int32))))) + (o (nj_n f2))))) ?_
        have h := no_s h
        subst h
        exact hj
theorem lw_Orders_countPaths_36 {G : nj_G} {ad : Nat → Nat} (C : nj_C G nb_Orders_countPaths 5 "NobodyJoins$Orders" nr_Orders_countPaths) (c : CluS) : ∀ (n : Nat) (o : (Nat → Int32)) (v2 : Int32) (x : (Nat → Int32)), lo_Orders_countPaths_36 c n o v2 = some x → nj_V G ad 0 0 114 [none, none, none, none, none] [] (rp_Ord x c) → nj_V G ad 0 0 36 [some (.ref 0), some (.ref 2), some (.int v2), none, none] [] (rp_Ord o c) := by
  intro n
  induction n with
  | zero => intro o v2 x h; rw [lo_Orders_countPaths_36] at h; cases h
  | succ n ih =>
    intro o v2 x h hk
    rw [lo_Orders_countPaths_36] at h
    refine vr_il C nd_Orders_countPaths_36 rfl ?_
    refine vr_if_le C nd_Orders_countPaths_37 (fun hc => ?_) (fun hc => ?_)
    · have h := no_t hc h
      have h := no_s h
      subst h
      exact vr_wk [0, 1, 2] rfl hk
    · have h := no_f hc h
      refine vr_al C nd_Orders_countPaths_40 rfl ?_
      refine vr_get (v := .ref 1) C nd_Orders_countPaths_41 rfl fl_Orders_9 (at_Ord_0 o c) rfl ?_
      refine vr_il C nd_Orders_countPaths_44 rfl ?_
      obtain ⟨hN5, h⟩ := no_i h
      refine vr_ialk (j := (nj_n v2)) (f := o) C nd_Orders_countPaths_45 rfl (at_Ord_1 o c) hN5 rfl ?_
      obtain ⟨p6, hP16, h⟩ := no_b h
      have hj : nj_V G ad 0 0 58 [some (.ref 0), some (.ref 2), some (.int v2), none, none] [.int p6] (rp_Ord o c) := by
        refine vr_is (ls' := [some (.ref 0), some (.ref 2), some (.int v2), some (.int p6), none]) C nd_Orders_countPaths_58 rfl rfl ?_
        refine vr_ic C nd_Orders_countPaths_59 ?_
        refine vr_is (ls' := [some (.ref 0), some (.ref 2), some (.int v2), some (.int p6), some (.int (0 : Int32))]) C nd_Orders_countPaths_60 rfl rfl ?_
        obtain ⟨x14, hX15, h⟩ := no_b h
        refine lw_Orders_countPaths_62 C c v2 p6 nj_fu _ _ x14 hX15 ?_
        refine vr_inc (v := (v2 + (-1 : Int32))) (ls' := [some (.ref 0), some (.ref 2), some (.int (v2 + (-1 : Int32))), none, none]) C nd_Orders_countPaths_108 rfl rfl rfl rfl rfl ?_
        refine vr_go C nd_Orders_countPaths_111 ?_
        exact (ih _ _ _ h hk)
      clear h
      have h := hP16
      clear hP16
      refine vr_if_le C nd_Orders_countPaths_46 (fun hc => ?_) (fun hc => ?_)
      · have h := no_t hc h
        refine vr_ic C nd_Orders_countPaths_57 ?_
        have h := no_s h
        subst h
        exact hj
      · have h := no_f hc h
        refine vr_al C nd_Orders_countPaths_49 rfl ?_
        refine vr_il C nd_Orders_countPaths_50 rfl ?_
        obtain ⟨w7, hV8, h⟩ := no_b h
        refine vr_cVip [2, 3, 4, 5, 6] [.int v2] [] C nd_Orders_countPaths_51 rfl ml_Orders_38 my_Club_putOutOf (co_Club_putOutOf c v2 w7 hV8) (em_Ord_Club o c) ⟨_, _, _, rfl, rfl, rfl⟩ rfl rfl ⟨rfl, rfl, rfl, rfl⟩ (Nat.zero_le _) (Nat.zero_le _) rfl ?_
        refine vr_go C nd_Orders_countPaths_54 ?_
        have h := no_s h
        subst h
        exact hj
theorem co_Orders_countPaths (o : (Nat → Int32)) (c : CluS) (x : (Nat → Int32)) (h : mo_Orders_countPaths o c = some x) : nj_Con ny_Orders_countPaths nb_Orders_countPaths 5 none nr_Orders_countPaths (rp_Ord o c) [.ref 0, .ref 2] none (rp_Ord x c) := by
  rw [mo_Orders_countPaths] at h
  refine nj_con (by decide) rfl 3 rfl (fun G ad C hq => ?_)
  have C : nj_C G nb_Orders_countPaths 5 "NobodyJoins$Orders" nr_Orders_countPaths := C
  show nj_V G ad 0 0 0 [some (.ref 0), some (.ref 2), none, none, none] [] (rp_Ord o c)
  refine vr_ic C nd_Orders_countPaths_0 ?_
  refine vr_is (ls' := [some (.ref 0), some (.ref 2), some (.int (0 : Int32)), none, none]) C nd_Orders_countPaths_1 rfl rfl ?_
  obtain ⟨x2, hX3, h⟩ := no_b h
  refine lw_Orders_countPaths_2 C c nj_fu _ _ x2 hX3 ?_
  refine vr_al C nd_Orders_countPaths_21 rfl ?_
  refine vr_get (v := .ref 1) C nd_Orders_countPaths_22 rfl fl_Orders_9 (at_Ord_0 x2 c) rfl ?_
  refine vr_al C nd_Orders_countPaths_25 rfl ?_
  refine vr_get (v := .int (cl_inn c)) C nd_Orders_countPaths_26 rfl fl_Orders_19 (at_Ord_2 x2 c) rfl ?_
  refine vr_ic C nd_Orders_countPaths_29 ?_
  obtain ⟨hN4, h⟩ := no_i h
  refine vr_iask (j := (nj_n (cl_inn c))) (f := x2) (hp' := (rp_Ord (upd x2 (nj_n (cl_inn c)) (1 : Int32)) c)) C nd_Orders_countPaths_30 rfl (at_Ord_1 x2 c) hN4 rfl (st_Ord_1 x2 c (upd x2 (nj_n (cl_inn c)) (1 : Int32))) ?_
  refine vr_al C nd_Orders_countPaths_31 rfl ?_
  refine vr_get (v := .int (cl_inn c)) C nd_Orders_countPaths_32 rfl fl_Orders_19 (at_Ord_2 (upd x2 (nj_n (cl_inn c)) (1 : Int32)) c) rfl ?_
  refine vr_is (ls' := [some (.ref 0), some (.ref 2), some (.int (cl_inn c)), none, none]) C nd_Orders_countPaths_35 rfl rfl ?_
  obtain ⟨x17, hX18, h⟩ := no_b h
  refine lw_Orders_countPaths_36 C c nj_fu _ _ x17 hX18 ?_
  have h := no_s h
  subst h
  exact vr_vret C hq nd_Orders_countPaths_114 rfl
abbrev nr_Club_standsStill : Room := { frames := 5, cells := 0, slots := 0, locals := 118 }
theorem co_Club_standsStill (c : CluS) (a1 : Int32) (x : Bool) (h : mo_Club_standsStill c a1 = some x) : nj_Con ny_Club_standsStill nb_Club_standsStill 2 (some .boolean) nr_Club_standsStill (rp_Club c) [.ref 0, .int a1] (some (.int (nj_b x))) (rp_Club c) := by
  rw [mo_Club_standsStill] at h
  refine nj_con (by decide) rfl 0 rfl (fun G ad C hq => ?_)
  have C : nj_C G nb_Club_standsStill 2 "NobodyJoins$Club" nr_Club_standsStill := C
  show nj_V G ad 0 0 0 [some (.ref 0), some (.int a1)] [] (rp_Club c)
  refine vr_al C nd_Club_standsStill_0 rfl ?_
  refine vr_il C nd_Club_standsStill_1 rfl ?_
  obtain ⟨w1, hV2, h⟩ := no_b h
  refine vr_sVi (hp' := (rp_Club c)) [.int a1] [] C nd_Club_standsStill_2 rfl ml_Club_87 my_Club_putOutOf (co_Club_putOutOf c a1 w1 hV2) ⟨_, _, _, rfl, rfl, rfl⟩ rfl rfl ⟨rfl, rfl, rfl, rfl⟩ (Nat.zero_le _) (Nat.zero_le _) rfl ?_
  refine vr_if_ne C nd_Club_standsStill_5 (fun hc => ?_) (fun hc => ?_)
  · have h := no_f hc h
    refine vr_ic C nd_Club_standsStill_12 ?_
    have h := no_s h
    subst h
    exact vr_zret false C hq nd_Club_standsStill_13 rfl
  · have h := no_t hc h
    refine vr_ic C nd_Club_standsStill_8 ?_
    refine vr_go C nd_Club_standsStill_9 ?_
    have h := no_s h
    subst h
    exact vr_zret true C hq nd_Club_standsStill_13 rfl
abbrev nr_Orders_endsWith : Room := { frames := 6, cells := 0, slots := 0, locals := 139 }
theorem lw_Orders_endsWith_5 {G : nj_G} {ad : Nat → Nat} (C : nj_C G nb_Orders_endsWith 5 "NobodyJoins$Orders" nr_Orders_endsWith) (o : (Nat → Int32)) (c : CluS) (f2 : Int32) : ∀ (n : Nat) (v3 : Int32) (v4 : Int32) (x : Int32), lo_Orders_endsWith_5 o c f2 n v3 v4 = some x → nj_V G ad 0 0 58 [none, none, none, some (.int x), none] [] (rp_Ord o c) → nj_V G ad 0 0 5 [some (.ref 0), some (.ref 2), some (.int f2), some (.int v3), some (.int v4)] [] (rp_Ord o c) := by
  intro n
  induction n with
  | zero => intro v3 v4 x h; rw [lo_Orders_endsWith_5] at h; cases h
  | succ n ih =>
    intro v3 v4 x h hk
    rw [lo_Orders_endsWith_5] at h
    refine vr_il C nd_Orders_endsWith_5 rfl ?_
    refine vr_al C nd_Orders_endsWith_7 rfl ?_
    refine vr_get (v := .int (cl_inn c)) C nd_Orders_endsWith_8 rfl fl_Orders_19 (at_Ord_2 o c) rfl ?_
    refine vr_cm_gt C nd_Orders_endsWith_11 (fun hc => ?_) (fun hc => ?_)
    · have h := no_t hc h
      have h := no_s h
      subst h
      exact vr_wk [0, 1, 2, 4] rfl hk
    · have h := no_f hc h
      refine vr_al C nd_Orders_endsWith_14 rfl ?_
      refine vr_get (v := .ref 1) C nd_Orders_endsWith_15 rfl fl_Orders_9 (at_Ord_0 o c) rfl ?_
      refine vr_il C nd_Orders_endsWith_18 rfl ?_
      obtain ⟨hN1, h⟩ := no_i h
      refine vr_ialk (j := (nj_n v4)) (f := o) C nd_Orders_endsWith_20 rfl (at_Ord_1 o c) hN1 rfl ?_
      obtain ⟨p2, hP6, h⟩ := no_b h
      have hj : nj_V G ad 0 0 52 [some (.ref 0), some (.ref 2), some (.int f2), some (.int p2), some (.int v4)] [] (rp_Ord o c) := by
        refine vr_inc (v := (v4 + (1 : Int32))) (ls' := [some (.ref 0), some (.ref 2), some (.int f2), some (.int p2), some (.int (v4 + (1 : Int32)))]) C nd_Orders_endsWith_52 rfl rfl rfl rfl rfl ?_
        refine vr_go C nd_Orders_endsWith_55 ?_
        exact (ih _ _ _ h hk)
      clear h
      have h := hP6
      clear hP6
      refine vr_if_le C nd_Orders_endsWith_21 (fun hc => ?_) (fun hc => ?_)
      · have h := no_t hc h
        have h := no_s h
        subst h
        exact hj
      · have h := no_f hc h
        refine vr_il C nd_Orders_endsWith_24 rfl ?_
        refine vr_il C nd_Orders_endsWith_25 rfl ?_
        refine vr_ic C nd_Orders_endsWith_27 ?_
        refine vr_ixor C nd_Orders_endsWith_28 rfl ?_
        refine vr_iand C nd_Orders_endsWith_29 rfl ?_
        refine vr_if_ne C nd_Orders_endsWith_30 (fun hc => ?_) (fun hc => ?_)
        · have h := no_f hc h
          have h := no_s h
          subst h
          exact hj
        · have h := no_t hc h
          refine vr_al C nd_Orders_endsWith_33 rfl ?_
          refine vr_il C nd_Orders_endsWith_34 rfl ?_
          obtain ⟨w3, hV4, h⟩ := no_b h
          refine vr_cVip [2, 3, 4, 5, 6] [.int v4] [] C nd_Orders_endsWith_36 rfl ml_Orders_51 my_Club_standsStill (co_Club_standsStill c v4 w3 hV4) (em_Ord_Club o c) ⟨_, _, _, rfl, rfl, rfl⟩ rfl rfl ⟨rfl, rfl, rfl, rfl⟩ (Nat.zero_le _) (Nat.zero_le _) rfl ?_
          refine vr_ifb_eq C nd_Orders_endsWith_39 (fun hc => ?_) (fun hc => ?_)
          · have h := no_bf hc h
            have h := no_s h
            subst h
            exact hj
          · have h := no_bt hc h
            refine vr_il C nd_Orders_endsWith_42 rfl ?_
            refine vr_al C nd_Orders_endsWith_43 rfl ?_
            refine vr_get (v := .ref 1) C nd_Orders_endsWith_44 rfl fl_Orders_9 (at_Ord_0 o c) rfl ?_
            refine vr_il C nd_Orders_endsWith_47 rfl ?_
            obtain ⟨hN5, h⟩ := no_i h
            refine vr_ialk (j := (nj_n v4)) (f := o) C nd_Orders_endsWith_49 rfl (at_Ord_1 o c) hN5 rfl ?_
            refine vr_iadd C nd_Orders_endsWith_50 rfl ?_
            refine vr_is (ls' := [some (.ref 0), some (.ref 2), some (.int f2), some (.int (v3 + (o (nj_n v4)))), some (.int v4)]) C nd_Orders_endsWith_51 rfl rfl ?_
            have h := no_s h
            subst h
            exact hj
theorem co_Orders_endsWith (o : (Nat → Int32)) (c : CluS) (a2 : Int32) (x : Int32) (h : mo_Orders_endsWith o c a2 = some x) : nj_Con ny_Orders_endsWith nb_Orders_endsWith 5 (some .int) nr_Orders_endsWith (rp_Ord o c) [.ref 0, .ref 2, .int a2] (some (.int x)) (rp_Ord o c) := by
  rw [mo_Orders_endsWith] at h
  refine nj_con (by decide) rfl 2 rfl (fun G ad C hq => ?_)
  have C : nj_C G nb_Orders_endsWith 5 "NobodyJoins$Orders" nr_Orders_endsWith := C
  show nj_V G ad 0 0 0 [some (.ref 0), some (.ref 2), some (.int a2), none, none] [] (rp_Ord o c)
  refine vr_ic C nd_Orders_endsWith_0 ?_
  refine vr_is (ls' := [some (.ref 0), some (.ref 2), some (.int a2), some (.int (0 : Int32)), none]) C nd_Orders_endsWith_1 rfl rfl ?_
  refine vr_ic C nd_Orders_endsWith_2 ?_
  refine vr_is (ls' := [some (.ref 0), some (.ref 2), some (.int a2), some (.int (0 : Int32)), some (.int (0 : Int32))]) C nd_Orders_endsWith_3 rfl rfl ?_
  obtain ⟨x7, hX8, h⟩ := no_b h
  refine lw_Orders_endsWith_5 C o c a2 nj_fu _ _ x7 hX8 ?_
  refine vr_il C nd_Orders_endsWith_58 rfl ?_
  have h := no_s h
  subst h
  exact vr_iret C hq nd_Orders_endsWith_59 rfl
abbrev nr_Orders_lastOnes : Room := { frames := 6, cells := 0, slots := 0, locals := 142 }
theorem lw_Orders_lastOnes_9 {G : nj_G} {ad : Nat → Nat} (C : nj_C G nb_Orders_lastOnes 4 "NobodyJoins$Orders" nr_Orders_lastOnes) (o : (Nat → Int32)) (c : CluS) : ∀ (n : Nat) (v2 : Int32) (v3 : Int32) (x : Int32), lo_Orders_lastOnes_9 o c n v2 v3 = some x → nj_V G ad 0 0 40 [none, none, some (.int x), none] [] (rp_Ord o c) → nj_V G ad 0 0 9 [some (.ref 0), some (.ref 2), some (.int v2), some (.int v3)] [] (rp_Ord o c) := by
  intro n
  induction n with
  | zero => intro v2 v3 x h; rw [lo_Orders_lastOnes_9] at h; cases h
  | succ n ih =>
    intro v2 v3 x h hk
    rw [lo_Orders_lastOnes_9] at h
    refine vr_il C nd_Orders_lastOnes_9 rfl ?_
    refine vr_al C nd_Orders_lastOnes_10 rfl ?_
    refine vr_get (v := .int (cl_children c)) C nd_Orders_lastOnes_11 rfl fl_Orders_42 (at_Ord_2 o c) rfl ?_
    refine vr_cm_ge C nd_Orders_lastOnes_14 (fun hc => ?_) (fun hc => ?_)
    · have h := no_t hc h
      have h := no_s h
      subst h
      exact vr_wk [0, 1, 3] rfl hk
    · have h := no_f hc h
      refine vr_al C nd_Orders_lastOnes_17 rfl ?_
      refine vr_get (v := .ref 1) C nd_Orders_lastOnes_18 rfl fl_Orders_9 (at_Ord_0 o c) rfl ?_
      refine vr_ic C nd_Orders_lastOnes_21 ?_
      refine vr_il C nd_Orders_lastOnes_22 rfl ?_
      refine vr_ishl C nd_Orders_lastOnes_23 rfl ?_
      obtain ⟨hN3, h⟩ := no_i h
      refine vr_ialk (j := (nj_n ((1 : Int32) <<< (v3 &&& 31)))) (f := o) C nd_Orders_lastOnes_24 rfl (at_Ord_1 o c) hN3 rfl ?_
      obtain ⟨p4, hP5, h⟩ := no_b h
      have hj : nj_V G ad 0 0 34 [some (.ref 0), some (.ref 2), some (.int p4), some (.int v3)] [] (rp_Ord o c) := by
        refine vr_inc (v := (v3 + (1 : Int32))) (ls' := [some (.ref 0), some (.ref 2), some (.int p4), some (.int (v3 + (1 : Int32)))]) C nd_Orders_lastOnes_34 rfl rfl rfl rfl rfl ?_
        refine vr_go C nd_Orders_lastOnes_37 ?_
        exact (ih _ _ _ h hk)
      clear h
      have h := hP5
      clear hP5
      refine vr_if_le C nd_Orders_lastOnes_25 (fun hc => ?_) (fun hc => ?_)
      · have h := no_t hc h
        have h := no_s h
        subst h
        exact hj
      · have h := no_f hc h
        refine vr_il C nd_Orders_lastOnes_28 rfl ?_
        refine vr_ic C nd_Orders_lastOnes_29 ?_
        refine vr_il C nd_Orders_lastOnes_30 rfl ?_
        refine vr_ishl C nd_Orders_lastOnes_31 rfl ?_
        refine vr_ior C nd_Orders_lastOnes_32 rfl ?_
        refine vr_is (ls' := [some (.ref 0), some (.ref 2), some (.int (v2 ||| ((1 : Int32) <<< (v3 &&& 31)))), some (.int v3)]) C nd_Orders_lastOnes_33 rfl rfl ?_
        have h := no_s h
        subst h
        exact hj
theorem co_Orders_lastOnes (o : (Nat → Int32)) (c : CluS) (x : Int32 × (Nat → Int32)) (h : mo_Orders_lastOnes o c = some x) : nj_Con ny_Orders_lastOnes nb_Orders_lastOnes 4 (some .int) nr_Orders_lastOnes (rp_Ord o c) [.ref 0, .ref 2] (some (.int (x.1))) (rp_Ord (x.2) c) := by
  rw [mo_Orders_lastOnes] at h
  refine nj_con (by decide) rfl 2 rfl (fun G ad C hq => ?_)
  have C : nj_C G nb_Orders_lastOnes 4 "NobodyJoins$Orders" nr_Orders_lastOnes := C
  show nj_V G ad 0 0 0 [some (.ref 0), some (.ref 2), none, none] [] (rp_Ord o c)
  refine vr_al C nd_Orders_lastOnes_0 rfl ?_
  refine vr_al C nd_Orders_lastOnes_1 rfl ?_
  obtain ⟨w1, hV2, h⟩ := no_b h
  refine vr_sVv (hp' := (rp_Ord w1 c)) [.ref 2] [] C nd_Orders_lastOnes_2 rfl ml_Orders_55 my_Orders_countPaths (co_Orders_countPaths o c w1 hV2) ⟨_, _, _, rfl, rfl, rfl⟩ rfl rfl ⟨rfl, rfl, rfl, rfl⟩ (Nat.zero_le _) (Nat.zero_le _) rfl ?_
  refine vr_ic C nd_Orders_lastOnes_5 ?_
  refine vr_is (ls' := [some (.ref 0), some (.ref 2), some (.int (0 : Int32)), none]) C nd_Orders_lastOnes_6 rfl rfl ?_
  refine vr_ic C nd_Orders_lastOnes_7 ?_
  refine vr_is (ls' := [some (.ref 0), some (.ref 2), some (.int (0 : Int32)), some (.int (0 : Int32))]) C nd_Orders_lastOnes_8 rfl rfl ?_
  obtain ⟨x6, hX7, h⟩ := no_b h
  refine lw_Orders_lastOnes_9 C w1 c nj_fu _ _ x6 hX7 ?_
  refine vr_il C nd_Orders_lastOnes_40 rfl ?_
  have h := no_s h
  subst h
  exact vr_iret C hq nd_Orders_lastOnes_41 rfl
abbrev nr_Orders_leftBy : Room := { frames := 5, cells := 0, slots := 0, locals := 118 }
theorem lw_Orders_leftBy_7 {G : nj_G} {ad : Nat → Nat} (C : nj_C G nb_Orders_leftBy 5 "NobodyJoins$Orders" nr_Orders_leftBy) (r : RowS) (c : CluS) : ∀ (n : Nat) (v2 : Int32) (v3 : Int32) (x : Int32), lo_Orders_leftBy_7 r c n v2 v3 = some x → nj_Rt G ad (some (.int x)) (rp_RoC r c) (some .int) → nj_V G ad 0 0 7 [some (.ref 2), some (.ref 0), some (.int v2), some (.int v3), none] [] (rp_RoC r c) := by
  intro n
  induction n with
  | zero => intro v2 v3 x h; rw [lo_Orders_leftBy_7] at h; cases h
  | succ n ih =>
    intro v2 v3 x h hq
    rw [lo_Orders_leftBy_7] at h
    refine vr_il C nd_Orders_leftBy_7 rfl ?_
    refine vr_al C nd_Orders_leftBy_8 rfl ?_
    refine vr_get (v := .int (ro_size r)) C nd_Orders_leftBy_9 rfl fl_Orders_58 (at_RoC_0 r c) rfl ?_
    refine vr_cm_ge C nd_Orders_leftBy_12 (fun hc => ?_) (fun hc => ?_)
    · have h := no_t hc h
      refine vr_il C nd_Orders_leftBy_51 rfl ?_
      have h := no_s h
      subst h
      exact vr_iret C hq nd_Orders_leftBy_52 rfl
    · have h := no_f hc h
      refine vr_ic C nd_Orders_leftBy_15 ?_
      refine vr_al C nd_Orders_leftBy_16 rfl ?_
      refine vr_get (v := .ref 1) C nd_Orders_leftBy_17 rfl fl_Orders_35 (at_RoC_0 r c) rfl ?_
      refine vr_il C nd_Orders_leftBy_20 rfl ?_
      obtain ⟨hN1, h⟩ := no_i h
      refine vr_ialk (j := (nj_n v3)) (f := (ro_places r)) C nd_Orders_leftBy_21 rfl (at_RoC_1 r c) hN1 rfl ?_
      refine vr_ishl C nd_Orders_leftBy_22 rfl ?_
      refine vr_is (ls' := [some (.ref 2), some (.ref 0), some (.int v2), some (.int v3), some (.int ((1 : Int32) <<< (((ro_places r) (nj_n v3)) &&& 31)))]) C nd_Orders_leftBy_23 rfl rfl ?_
      refine vr_al C nd_Orders_leftBy_25 rfl ?_
      refine vr_il C nd_Orders_leftBy_26 rfl ?_
      obtain ⟨w2, hV3, h⟩ := no_b h
      refine vr_cVip [2, 3, 4, 5, 6] [.int v2] [] C nd_Orders_leftBy_27 rfl ml_Orders_38 my_Club_putOutOf (co_Club_putOutOf c v2 w2 hV3) (em_RoC_Club r c) ⟨_, _, _, rfl, rfl, rfl⟩ rfl rfl ⟨rfl, rfl, rfl, rfl⟩ (Nat.zero_le _) (Nat.zero_le _) rfl ?_
      refine vr_il C nd_Orders_leftBy_30 rfl ?_
      refine vr_iand C nd_Orders_leftBy_32 rfl ?_
      refine vr_if_ne C nd_Orders_leftBy_33 (fun hc => ?_) (fun hc => ?_)
      · have h := no_f hc h
        refine vr_il C nd_Orders_leftBy_38 rfl ?_
        refine vr_il C nd_Orders_leftBy_39 rfl ?_
        refine vr_ic C nd_Orders_leftBy_41 ?_
        refine vr_ixor C nd_Orders_leftBy_42 rfl ?_
        refine vr_iand C nd_Orders_leftBy_43 rfl ?_
        refine vr_is (ls' := [some (.ref 2), some (.ref 0), some (.int (v2 &&& (((1 : Int32) <<< (((ro_places r) (nj_n v3)) &&& 31)) ^^^ (-1 : Int32)))), some (.int v3), some (.int ((1 : Int32) <<< (((ro_places r) (nj_n v3)) &&& 31)))]) C nd_Orders_leftBy_44 rfl rfl ?_
        refine vr_inc (v := (v3 + (1 : Int32))) (ls' := [some (.ref 2), some (.ref 0), some (.int (v2 &&& (((1 : Int32) <<< (((ro_places r) (nj_n v3)) &&& 31)) ^^^ (-1 : Int32)))), some (.int (v3 + (1 : Int32))), some (.int ((1 : Int32) <<< (((ro_places r) (nj_n v3)) &&& 31)))]) C nd_Orders_leftBy_45 rfl rfl rfl rfl rfl ?_
        refine vr_go C nd_Orders_leftBy_48 ?_
        exact vr_wk [4] rfl (ih _ _ _ h hq)
      · have h := no_t hc h
        refine vr_il C nd_Orders_leftBy_36 rfl ?_
        have h := no_s h
        subst h
        exact vr_iret C hq nd_Orders_leftBy_37 rfl
theorem co_Orders_leftBy (r : RowS) (c : CluS) (x : Int32) (h : mo_Orders_leftBy r c = some x) : nj_Con ny_Orders_leftBy nb_Orders_leftBy 5 (some .int) nr_Orders_leftBy (rp_RoC r c) [.ref 2, .ref 0] (some (.int x)) (rp_RoC r c) := by
  rw [mo_Orders_leftBy] at h
  refine nj_con (by decide) rfl 3 rfl (fun G ad C hq => ?_)
  have C : nj_C G nb_Orders_leftBy 5 "NobodyJoins$Orders" nr_Orders_leftBy := C
  show nj_V G ad 0 0 0 [some (.ref 2), some (.ref 0), none, none, none] [] (rp_RoC r c)
  refine vr_al C nd_Orders_leftBy_0 rfl ?_
  refine vr_get (v := .int (cl_inn c)) C nd_Orders_leftBy_1 rfl fl_Orders_19 (at_RoC_2 r c) rfl ?_
  refine vr_is (ls' := [some (.ref 2), some (.ref 0), some (.int (cl_inn c)), none, none]) C nd_Orders_leftBy_4 rfl rfl ?_
  refine vr_ic C nd_Orders_leftBy_5 ?_
  refine vr_is (ls' := [some (.ref 2), some (.ref 0), some (.int (cl_inn c)), some (.int (0 : Int32)), none]) C nd_Orders_leftBy_6 rfl rfl ?_
  exact lw_Orders_leftBy_7 C r c nj_fu _ _ _ h hq
abbrev nr_Peace_isPairIn : Room := { frames := 1, cells := 0, slots := 0, locals := 21 }
theorem co_Peace_isPairIn (c : CluS) (a1 : Int32) (x : Bool) (h : mo_Peace_isPairIn c a1 = some x) : nj_Con ny_Peace_isPairIn nb_Peace_isPairIn 4 (some .boolean) nr_Peace_isPairIn (rp_Club c) [.ref 0, .int a1] (some (.int (nj_b x))) (rp_Club c) := by
  rw [mo_Peace_isPairIn] at h
  refine nj_con (by decide) rfl 2 rfl (fun G ad C hq => ?_)
  have C : nj_C G nb_Peace_isPairIn 4 "NobodyJoins$Peace" nr_Peace_isPairIn := C
  show nj_V G ad 0 0 0 [some (.ref 0), some (.int a1), none, none] [] (rp_Club c)
  refine vr_il C nd_Peace_isPairIn_0 rfl ?_
  refine vr_ic C nd_Peace_isPairIn_1 ?_
  refine vr_idiv C nd_Peace_isPairIn_3 rfl (by decide) ?_
  refine vr_is (ls' := [some (.ref 0), some (.int a1), some (.int (a1 / (6 : Int32))), none]) C nd_Peace_isPairIn_4 rfl rfl ?_
  refine vr_il C nd_Peace_isPairIn_5 rfl ?_
  refine vr_ic C nd_Peace_isPairIn_6 ?_
  refine vr_irem C nd_Peace_isPairIn_8 rfl (by decide) ?_
  refine vr_is (ls' := [some (.ref 0), some (.int a1), some (.int (a1 / (6 : Int32))), some (.int (nj_rem a1 (6 : Int32)))]) C nd_Peace_isPairIn_9 rfl rfl ?_
  refine vr_il C nd_Peace_isPairIn_10 rfl ?_
  refine vr_il C nd_Peace_isPairIn_11 rfl ?_
  refine vr_cm_eq C nd_Peace_isPairIn_12 (fun hc => ?_) (fun hc => ?_)
  · have h := no_t hc h
    refine vr_ic C nd_Peace_isPairIn_35 ?_
    have h := no_s h
    subst h
    exact vr_zret false C hq nd_Peace_isPairIn_36 rfl
  · have h := no_f hc h
    refine vr_al C nd_Peace_isPairIn_15 rfl ?_
    refine vr_il C nd_Peace_isPairIn_16 rfl ?_
    obtain ⟨w1, hV2, h⟩ := no_b h
    refine vr_sVi (hp' := (rp_Club c)) [.int (a1 / (6 : Int32))] [] C nd_Peace_isPairIn_17 rfl ml_Peace_38 my_Club_isIn (co_Club_isIn c (a1 / (6 : Int32)) w1 hV2) ⟨_, _, _, rfl, rfl, rfl⟩ rfl rfl ⟨rfl, rfl, rfl, rfl⟩ (Nat.zero_le _) (Nat.zero_le _) rfl ?_
    refine vr_ifb_eq C nd_Peace_isPairIn_20 (fun hc => ?_) (fun hc => ?_)
    · have h := no_bf hc h
      refine vr_ic C nd_Peace_isPairIn_35 ?_
      have h := no_s h
      subst h
      exact vr_zret false C hq nd_Peace_isPairIn_36 rfl
    · have h := no_bt hc h
      refine vr_al C nd_Peace_isPairIn_23 rfl ?_
      refine vr_il C nd_Peace_isPairIn_24 rfl ?_
      obtain ⟨w3, hV4, h⟩ := no_b h
      refine vr_sVi (hp' := (rp_Club c)) [.int (nj_rem a1 (6 : Int32))] [] C nd_Peace_isPairIn_25 rfl ml_Peace_38 my_Club_isIn (co_Club_isIn c (nj_rem a1 (6 : Int32)) w3 hV4) ⟨_, _, _, rfl, rfl, rfl⟩ rfl rfl ⟨rfl, rfl, rfl, rfl⟩ (Nat.zero_le _) (Nat.zero_le _) rfl ?_
      refine vr_ifb_eq C nd_Peace_isPairIn_28 (fun hc => ?_) (fun hc => ?_)
      · have h := no_bf hc h
        refine vr_ic C nd_Peace_isPairIn_35 ?_
        have h := no_s h
        subst h
        exact vr_zret false C hq nd_Peace_isPairIn_36 rfl
      · have h := no_bt hc h
        refine vr_ic C nd_Peace_isPairIn_31 ?_
        refine vr_go C nd_Peace_isPairIn_32 ?_
        have h := no_s h
        subst h
        exact vr_zret true C hq nd_Peace_isPairIn_36 rfl
abbrev nr_Peace_toggle : Room := { frames := 1, cells := 0, slots := 0, locals := 22 }
theorem co_Peace_toggle (c : CluS) (a1 : Int32) (x : CluS) (h : mo_Peace_toggle c a1 = some x) : nj_Con ny_Peace_toggle nb_Peace_toggle 2 none nr_Peace_toggle (rp_Club c) [.ref 0, .int a1] none (rp_Club x) := by
  rw [mo_Peace_toggle] at h
  refine nj_con (by decide) rfl 0 rfl (fun G ad C hq => ?_)
  have C : nj_C G nb_Peace_toggle 2 "NobodyJoins$Peace" nr_Peace_toggle := C
  show nj_V G ad 0 0 0 [some (.ref 0), some (.int a1)] [] (rp_Club c)
  refine vr_al C nd_Peace_toggle_0 rfl ?_
  refine vr_il C nd_Peace_toggle_1 rfl ?_
  refine vr_ic C nd_Peace_toggle_2 ?_
  refine vr_idiv C nd_Peace_toggle_4 rfl (by decide) ?_
  refine vr_il C nd_Peace_toggle_5 rfl ?_
  refine vr_ic C nd_Peace_toggle_6 ?_
  refine vr_irem C nd_Peace_toggle_8 rfl (by decide) ?_
  obtain ⟨w1, hV2, h⟩ := no_b h
  refine vr_sVv (hp' := (rp_Club w1)) [.int (a1 / (6 : Int32)), .int (nj_rem a1 (6 : Int32))] [] C nd_Peace_toggle_9 rfl ml_Peace_42 my_Club_toggleLiking (co_Club_toggleLiking c (a1 / (6 : Int32)) (nj_rem a1 (6 : Int32)) w1 hV2) ⟨_, _, _, rfl, rfl, rfl⟩ rfl rfl ⟨rfl, rfl, rfl, rfl⟩ (Nat.zero_le _) (Nat.zero_le _) rfl ?_
  have h := no_s h
  subst h
  exact vr_vret C hq nd_Peace_toggle_12 rfl
abbrev nr_Peace_firstGrudge : Room := { frames := 5, cells := 0, slots := 0, locals := 118 }
theorem lw_Peace_firstGrudge_20 {G : nj_G} {ad : Nat → Nat} (C : nj_C G nb_Peace_firstGrudge 4 "NobodyJoins$Peace" nr_Peace_firstGrudge)  : ∀ (n : Nat) (c : CluS) (v2 : Int32) (x : Int32 × CluS), lo_Peace_firstGrudge_20  n c v2 = some x → nj_Rt G ad (some (.int (x.1))) (rp_Club (x.2)) (some .int) → nj_V G ad 0 0 20 [some (.ref 0), none, some (.int v2), none] [] (rp_Club c) := by
  intro n
  induction n with
  | zero => intro c v2 x h; rw [lo_Peace_firstGrudge_20] at h; cases h
  | succ n ih =>
    intro c v2 x h hq
    rw [lo_Peace_firstGrudge_20] at h
    refine vr_il C nd_Peace_firstGrudge_20 rfl ?_
    refine vr_ic C nd_Peace_firstGrudge_21 ?_
    refine vr_cm_ge C nd_Peace_firstGrudge_23 (fun hc => ?_) (fun hc => ?_)
    · have h := no_t hc h
      refine vr_ic C nd_Peace_firstGrudge_65 ?_
      have h := no_s h
      subst h
      exact vr_iret C hq nd_Peace_firstGrudge_67 rfl
    · have h := no_f hc h
      refine vr_al C nd_Peace_firstGrudge_26 rfl ?_
      refine vr_il C nd_Peace_firstGrudge_27 rfl ?_
      obtain ⟨w5, hV6, h⟩ := no_b h
      refine vr_cSip [0, 1, 2, 3, 4] [.ref 0, .int v2] [] C nd_Peace_firstGrudge_28 rfl ml_Peace_24 my_Peace_isPairIn (co_Peace_isPairIn c v2 w5 hV6) (em_Club_Club c) rfl rfl ⟨rfl, rfl, rfl, rfl⟩ (Nat.zero_le _) (Nat.zero_le _) rfl ?_
      refine vr_ifb_eq C nd_Peace_firstGrudge_31 (fun hc => ?_) (fun hc => ?_)
      · have h := no_bf hc h
        refine vr_inc (v := (v2 + (1 : Int32))) (ls' := [some (.ref 0), none, some (.int (v2 + (1 : Int32))), none]) C nd_Peace_firstGrudge_59 rfl rfl rfl rfl rfl ?_
        refine vr_go C nd_Peace_firstGrudge_62 ?_
        exact (ih _ _ _ h hq)
      · have h := no_bt hc h
        refine vr_al C nd_Peace_firstGrudge_34 rfl ?_
        refine vr_il C nd_Peace_firstGrudge_35 rfl ?_
        obtain ⟨w7, hV8, h⟩ := no_b h
        refine vr_cSv (hp' := (rp_Club w7)) [0, 1, 2, 3, 4] [.ref 0, .int v2] [] C nd_Peace_firstGrudge_36 rfl ml_Peace_30 my_Peace_toggle (co_Peace_toggle c v2 w7 hV8) (em_Club_Club c) rfl rfl ⟨rfl, rfl, rfl, rfl⟩ (Nat.zero_le _) (Nat.zero_le _) rfl (pa_Club_Club c w7) ?_
        refine vr_al C nd_Peace_firstGrudge_39 rfl ?_
        refine vr_al C nd_Peace_firstGrudge_40 rfl ?_
        refine vr_get (v := .int (cl_inn w7)) C nd_Peace_firstGrudge_41 rfl fl_Peace_9 (at_Club_0 w7) rfl ?_
        obtain ⟨w9, hV10, h⟩ := no_b h
        refine vr_sVi (hp' := (rp_Club w7)) [.int (cl_inn w7)] [] C nd_Peace_firstGrudge_44 rfl ml_Peace_15 my_Club_putOutOf (co_Club_putOutOf w7 (cl_inn w7) w9 hV10) ⟨_, _, _, rfl, rfl, rfl⟩ rfl rfl ⟨rfl, rfl, rfl, rfl⟩ (Nat.zero_le _) (Nat.zero_le _) rfl ?_
        refine vr_is (ls' := [some (.ref 0), none, some (.int v2), some (.int w9)]) C nd_Peace_firstGrudge_47 rfl rfl ?_
        refine vr_al C nd_Peace_firstGrudge_48 rfl ?_
        refine vr_il C nd_Peace_firstGrudge_49 rfl ?_
        obtain ⟨w11, hV12, h⟩ := no_b h
        refine vr_cSv (hp' := (rp_Club w11)) [0, 1, 2, 3, 4] [.ref 0, .int v2] [] C nd_Peace_firstGrudge_50 rfl ml_Peace_30 my_Peace_toggle (co_Peace_toggle w7 v2 w11 hV12) (em_Club_Club w7) rfl rfl ⟨rfl, rfl, rfl, rfl⟩ (Nat.zero_le _) (Nat.zero_le _) rfl (pa_Club_Club w7 w11) ?_
        refine vr_il C nd_Peace_firstGrudge_53 rfl ?_
        refine vr_if_ne C nd_Peace_firstGrudge_54 (fun hc => ?_) (fun hc => ?_)
        · have h := no_f hc h
          refine vr_inc (v := (v2 + (1 : Int32))) (ls' := [some (.ref 0), none, some (.int (v2 + (1 : Int32))), some (.int w9)]) C nd_Peace_firstGrudge_59 rfl rfl rfl rfl rfl ?_
          refine vr_go C nd_Peace_firstGrudge_62 ?_
          exact vr_wk [3] rfl (ih _ _ _ h hq)
        · have h := no_t hc h
          refine vr_il C nd_Peace_firstGrudge_57 rfl ?_
          have h := no_s h
          subst h
          exact vr_iret C hq nd_Peace_firstGrudge_58 rfl
theorem co_Peace_firstGrudge (c : CluS) (a1 : Int32) (x : Int32 × CluS) (h : mo_Peace_firstGrudge c a1 = some x) : nj_Con ny_Peace_firstGrudge nb_Peace_firstGrudge 4 (some .int) nr_Peace_firstGrudge (rp_Club c) [.ref 0, .int a1] (some (.int (x.1))) (rp_Club (x.2)) := by
  rw [mo_Peace_firstGrudge] at h
  refine nj_con (by decide) rfl 2 rfl (fun G ad C hq => ?_)
  have C : nj_C G nb_Peace_firstGrudge 4 "NobodyJoins$Peace" nr_Peace_firstGrudge := C
  show nj_V G ad 0 0 0 [some (.ref 0), some (.int a1), none, none] [] (rp_Club c)
  refine vr_al C nd_Peace_firstGrudge_0 rfl ?_
  refine vr_al C nd_Peace_firstGrudge_1 rfl ?_
  refine vr_get (v := .int (cl_inn c)) C nd_Peace_firstGrudge_2 rfl fl_Peace_9 (at_Club_0 c) rfl ?_
  obtain ⟨w1, hV2, h⟩ := no_b h
  refine vr_sVi (hp' := (rp_Club c)) [.int (cl_inn c)] [] C nd_Peace_firstGrudge_5 rfl ml_Peace_15 my_Club_putOutOf (co_Club_putOutOf c (cl_inn c) w1 hV2) ⟨_, _, _, rfl, rfl, rfl⟩ rfl rfl ⟨rfl, rfl, rfl, rfl⟩ (Nat.zero_le _) (Nat.zero_le _) rfl ?_
  obtain ⟨w3, hV4, h⟩ := no_b h
  refine vr_cSip [] [.int w1] [] C nd_Peace_firstGrudge_8 rfl ml_Peace_19 my_Integer_bitCount (co_Integer_bitCount w1 w3 hV4) (em_E _) rfl rfl ⟨rfl, rfl, rfl, rfl⟩ (Nat.zero_le _) (Nat.zero_le _) rfl ?_
  refine vr_ic C nd_Peace_firstGrudge_11 ?_
  refine vr_cm_le C nd_Peace_firstGrudge_12 (fun hc => ?_) (fun hc => ?_)
  · have h := no_t hc h
    refine vr_il C nd_Peace_firstGrudge_18 rfl ?_
    refine vr_is (ls' := [some (.ref 0), some (.int a1), some (.int a1), none]) C nd_Peace_firstGrudge_19 rfl rfl ?_
    refine vr_wk (ls' := [some (.ref 0), none, some (.int a1), none]) [1] rfl ?_
    exact lw_Peace_firstGrudge_20 C  nj_fu _ _ _ h hq
  · have h := no_f hc h
    refine vr_ic C nd_Peace_firstGrudge_15 ?_
    have h := no_s h
    subst h
    exact vr_iret C hq nd_Peace_firstGrudge_17 rfl
abbrev nr_Peace_firstTwoGrudges : Room := { frames := 6, cells := 0, slots := 0, locals := 141 }
theorem lw_Peace_firstTwoGrudges_2 {G : nj_G} {ad : Nat → Nat} (C : nj_C G nb_Peace_firstTwoGrudges 3 "NobodyJoins$Peace" nr_Peace_firstTwoGrudges)  : ∀ (n : Nat) (c : CluS) (v1 : Int32) (x : Int32 × CluS), lo_Peace_firstTwoGrudges_2  n c v1 = some x → nj_Rt G ad (some (.int (x.1))) (rp_Club (x.2)) (some .int) → nj_V G ad 0 0 2 [some (.ref 0), some (.int v1), none] [] (rp_Club c) := by
  intro n
  induction n with
  | zero => intro c v1 x h; rw [lo_Peace_firstTwoGrudges_2] at h; cases h
  | succ n ih =>
    intro c v1 x h hq
    rw [lo_Peace_firstTwoGrudges_2] at h
    refine vr_il C nd_Peace_firstTwoGrudges_2 rfl ?_
    refine vr_ic C nd_Peace_firstTwoGrudges_3 ?_
    refine vr_cm_ge C nd_Peace_firstTwoGrudges_5 (fun hc => ?_) (fun hc => ?_)
    · have h := no_t hc h
      refine vr_ic C nd_Peace_firstTwoGrudges_53 ?_
      have h := no_s h
      subst h
      exact vr_iret C hq nd_Peace_firstTwoGrudges_55 rfl
    · have h := no_f hc h
      refine vr_al C nd_Peace_firstTwoGrudges_8 rfl ?_
      refine vr_il C nd_Peace_firstTwoGrudges_9 rfl ?_
      obtain ⟨w1, hV2, h⟩ := no_b h
      refine vr_cSip [0, 1, 2, 3, 4] [.ref 0, .int v1] [] C nd_Peace_firstTwoGrudges_10 rfl ml_Peace_24 my_Peace_isPairIn (co_Peace_isPairIn c v1 w1 hV2) (em_Club_Club c) rfl rfl ⟨rfl, rfl, rfl, rfl⟩ (Nat.zero_le _) (Nat.zero_le _) rfl ?_
      refine vr_ifb_eq C nd_Peace_firstTwoGrudges_13 (fun hc => ?_) (fun hc => ?_)
      · have h := no_bf hc h
        refine vr_inc (v := (v1 + (1 : Int32))) (ls' := [some (.ref 0), some (.int (v1 + (1 : Int32))), none]) C nd_Peace_firstTwoGrudges_47 rfl rfl rfl rfl rfl ?_
        refine vr_go C nd_Peace_firstTwoGrudges_50 ?_
        exact (ih _ _ _ h hq)
      · have h := no_bt hc h
        refine vr_al C nd_Peace_firstTwoGrudges_16 rfl ?_
        refine vr_il C nd_Peace_firstTwoGrudges_17 rfl ?_
        obtain ⟨w3, hV4, h⟩ := no_b h
        refine vr_cSv (hp' := (rp_Club w3)) [0, 1, 2, 3, 4] [.ref 0, .int v1] [] C nd_Peace_firstTwoGrudges_18 rfl ml_Peace_30 my_Peace_toggle (co_Peace_toggle c v1 w3 hV4) (em_Club_Club c) rfl rfl ⟨rfl, rfl, rfl, rfl⟩ (Nat.zero_le _) (Nat.zero_le _) rfl (pa_Club_Club c w3) ?_
        refine vr_al C nd_Peace_firstTwoGrudges_21 rfl ?_
        refine vr_il C nd_Peace_firstTwoGrudges_22 rfl ?_
        refine vr_ic C nd_Peace_firstTwoGrudges_23 ?_
        refine vr_iadd C nd_Peace_firstTwoGrudges_24 rfl ?_
        obtain ⟨w5, hV6, h⟩ := no_b h
        refine vr_cSi (hp' := (rp_Club (w5.2))) [0, 1, 2, 3, 4] [.ref 0, .int (v1 + (1 : Int32))] [] C nd_Peace_firstTwoGrudges_25 rfl ml_Peace_34 my_Peace_firstGrudge (co_Peace_firstGrudge w3 (v1 + (1 : Int32)) w5 hV6) (em_Club_Club w3) rfl rfl ⟨rfl, rfl, rfl, rfl⟩ (Nat.zero_le _) (Nat.zero_le _) rfl (pa_Club_Club w3 (w5.2)) ?_
        refine vr_is (ls' := [some (.ref 0), some (.int v1), some (.int (w5.1))]) C nd_Peace_firstTwoGrudges_28 rfl rfl ?_
        refine vr_al C nd_Peace_firstTwoGrudges_29 rfl ?_
        refine vr_il C nd_Peace_firstTwoGrudges_30 rfl ?_
        obtain ⟨w7, hV8, h⟩ := no_b h
        refine vr_cSv (hp' := (rp_Club w7)) [0, 1, 2, 3, 4] [.ref 0, .int v1] [] C nd_Peace_firstTwoGrudges_31 rfl ml_Peace_30 my_Peace_toggle (co_Peace_toggle (w5.2) v1 w7 hV8) (em_Club_Club (w5.2)) rfl rfl ⟨rfl, rfl, rfl, rfl⟩ (Nat.zero_le _) (Nat.zero_le _) rfl (pa_Club_Club (w5.2) w7) ?_
        refine vr_il C nd_Peace_firstTwoGrudges_34 rfl ?_
        refine vr_ic C nd_Peace_firstTwoGrudges_35 ?_
        refine vr_cm_eq C nd_Peace_firstTwoGrudges_37 (fun hc => ?_) (fun hc => ?_)
        · have h := no_t hc h
          refine vr_inc (v := (v1 + (1 : Int32))) (ls' := [some (.ref 0), some (.int (v1 + (1 : Int32))), some (.int (w5.1))]) C nd_Peace_firstTwoGrudges_47 rfl rfl rfl rfl rfl ?_
          refine vr_go C nd_Peace_firstTwoGrudges_50 ?_
          exact vr_wk [2] rfl (ih _ _ _ h hq)
        · have h := no_f hc h
          refine vr_ic C nd_Peace_firstTwoGrudges_40 ?_
          refine vr_il C nd_Peace_firstTwoGrudges_42 rfl ?_
          refine vr_imul C nd_Peace_firstTwoGrudges_43 rfl ?_
          refine vr_il C nd_Peace_firstTwoGrudges_44 rfl ?_
          refine vr_iadd C nd_Peace_firstTwoGrudges_45 rfl ?_
          have h := no_s h
          subst h
          exact vr_iret C hq nd_Peace_firstTwoGrudges_46 rfl
theorem co_Peace_firstTwoGrudges (c : CluS) (x : Int32 × CluS) (h : mo_Peace_firstTwoGrudges c = some x) : nj_Con ny_Peace_firstTwoGrudges nb_Peace_firstTwoGrudges 3 (some .int) nr_Peace_firstTwoGrudges (rp_Club c) [.ref 0] (some (.int (x.1))) (rp_Club (x.2)) := by
  rw [mo_Peace_firstTwoGrudges] at h
  refine nj_con (by decide) rfl 2 rfl (fun G ad C hq => ?_)
  have C : nj_C G nb_Peace_firstTwoGrudges 3 "NobodyJoins$Peace" nr_Peace_firstTwoGrudges := C
  show nj_V G ad 0 0 0 [some (.ref 0), none, none] [] (rp_Club c)
  refine vr_ic C nd_Peace_firstTwoGrudges_0 ?_
  refine vr_is (ls' := [some (.ref 0), some (.int (0 : Int32)), none]) C nd_Peace_firstTwoGrudges_1 rfl rfl ?_
  exact lw_Peace_firstTwoGrudges_2 C  nj_fu _ _ _ h hq
abbrev nr_Sums_decidedBy : Room := { frames := 2, cells := 0, slots := 0, locals := 45 }
theorem lw_Sums_decidedBy_33 {G : nj_G} {ad : Nat → Nat} (C : nj_C G nb_Sums_decidedBy 8 "NobodyJoins$Sums" nr_Sums_decidedBy) (c : CluS) (f2 : Int32) (f3 : Int32) (f4 : Int32) : ∀ (n : Nat) (v5 : Int32) (v6 : Int32) (x : Int32), lo_Sums_decidedBy_33 c f2 f3 f4 n v5 v6 = some x → nj_V G ad 0 0 111 [none, none, none, none, none, some (.int x), none, none] [] (rp_Club c) → nj_V G ad 0 0 33 [some (.ref 0), none, some (.int f2), some (.int f3), some (.int f4), some (.int v5), some (.int v6), none] [] (rp_Club c) := by
  intro n
  induction n with
  | zero => intro v5 v6 x h; rw [lo_Sums_decidedBy_33] at h; cases h
  | succ n ih =>
    intro v5 v6 x h hk
    rw [lo_Sums_decidedBy_33] at h
    refine vr_il C nd_Sums_decidedBy_33 rfl ?_
    refine vr_il C nd_Sums_decidedBy_35 rfl ?_
    refine vr_cm_gt C nd_Sums_decidedBy_37 (fun hc => ?_) (fun hc => ?_)
    · have h := no_t hc h
      have h := no_s h
      subst h
      exact vr_wk [0, 2, 3, 4, 6] rfl hk
    · have h := no_f hc h
      refine vr_al C nd_Sums_decidedBy_40 rfl ?_
      refine vr_il C nd_Sums_decidedBy_41 rfl ?_
      obtain ⟨w5, hV6, h⟩ := no_b h
      refine vr_sVi (hp' := (rp_Club c)) [.int v6] [] C nd_Sums_decidedBy_43 rfl ml_Sums_13 my_Club_votesOfSet (co_Club_votesOfSet c v6 w5 hV6) ⟨_, _, _, rfl, rfl, rfl⟩ rfl rfl ⟨rfl, rfl, rfl, rfl⟩ (Nat.zero_le _) (Nat.zero_le _) rfl ?_
      refine vr_is (ls' := [some (.ref 0), none, some (.int f2), some (.int f3), some (.int f4), some (.int v5), some (.int v6), some (.int w5)]) C nd_Sums_decidedBy_46 rfl rfl ?_
      refine vr_il C nd_Sums_decidedBy_48 rfl ?_
      refine vr_il C nd_Sums_decidedBy_50 rfl ?_
      refine vr_ic C nd_Sums_decidedBy_52 ?_
      refine vr_ixor C nd_Sums_decidedBy_53 rfl ?_
      refine vr_iand C nd_Sums_decidedBy_54 rfl ?_
      obtain ⟨p7, hP14, h⟩ := no_b h
      have hj : nj_V G ad 0 0 105 [some (.ref 0), none, some (.int f2), some (.int f3), some (.int f4), some (.int p7), some (.int v6), none] [] (rp_Club c) := by
        refine vr_inc (v := (v6 + (1 : Int32))) (ls' := [some (.ref 0), none, some (.int f2), some (.int f3), some (.int f4), some (.int p7), some (.int (v6 + (1 : Int32))), none]) C nd_Sums_decidedBy_105 rfl rfl rfl rfl rfl ?_
        refine vr_go C nd_Sums_decidedBy_108 ?_
        exact (ih _ _ _ h hk)
      clear h
      have h := hP14
      clear hP14
      refine vr_if_ne C nd_Sums_decidedBy_55 (fun hc => ?_) (fun hc => ?_)
      · have h := no_f hc h
        have h := no_s h
        subst h
        exact vr_wk [7] rfl hj
      · have h := no_t hc h
        refine vr_ic C nd_Sums_decidedBy_58 ?_
        refine vr_il C nd_Sums_decidedBy_59 rfl ?_
        refine vr_imul C nd_Sums_decidedBy_61 rfl ?_
        refine vr_il C nd_Sums_decidedBy_62 rfl ?_
        refine vr_cm_gt C nd_Sums_decidedBy_63 (fun hc => ?_) (fun hc => ?_)
        · have h := no_t hc h
          have h := no_s h
          subst h
          exact vr_wk [7] rfl hj
        · have h := no_f hc h
          refine vr_ic C nd_Sums_decidedBy_66 ?_
          refine vr_il C nd_Sums_decidedBy_67 rfl ?_
          refine vr_il C nd_Sums_decidedBy_69 rfl ?_
          refine vr_iadd C nd_Sums_decidedBy_70 rfl ?_
          refine vr_imul C nd_Sums_decidedBy_71 rfl ?_
          refine vr_il C nd_Sums_decidedBy_72 rfl ?_
          refine vr_cm_le C nd_Sums_decidedBy_73 (fun hc => ?_) (fun hc => ?_)
          · have h := no_t hc h
            have h := no_s h
            subst h
            exact vr_wk [7] rfl hj
          · have h := no_f hc h
            refine vr_il C nd_Sums_decidedBy_76 rfl ?_
            refine vr_gsN2 C rfl nd_Sums_decidedBy_78 rfl ?_
            refine vr_il C nd_Sums_decidedBy_81 rfl ?_
            obtain ⟨w8, hV9, h⟩ := no_b h
            refine vr_cSip [] [.int v6] [.ref 1002, .int v5] C nd_Sums_decidedBy_83 rfl ml_Sums_26 my_Integer_bitCount (co_Integer_bitCount v6 w8 hV9) (em_E _) rfl rfl ⟨rfl, rfl, rfl, rfl⟩ (Nat.zero_le _) (Nat.zero_le _) rfl ?_
            obtain ⟨hN10, h⟩ := no_i h
            refine vr_sld2 C nd_Sums_decidedBy_86 rfl hN10 ?_
            refine vr_gsN2 C rfl nd_Sums_decidedBy_87 rfl ?_
            refine vr_il C nd_Sums_decidedBy_90 rfl ?_
            refine vr_il C nd_Sums_decidedBy_92 rfl ?_
            refine vr_ic C nd_Sums_decidedBy_94 ?_
            refine vr_ixor C nd_Sums_decidedBy_95 rfl ?_
            refine vr_iand C nd_Sums_decidedBy_96 rfl ?_
            obtain ⟨w11, hV12, h⟩ := no_b h
            refine vr_cSip [] [.int (f4 &&& (v6 ^^^ (-1 : Int32)))] [.ref 1002, .int (nj_fa (nj_n w8)), .int v5] C nd_Sums_decidedBy_97 rfl ml_Sums_26 my_Integer_bitCount (co_Integer_bitCount (f4 &&& (v6 ^^^ (-1 : Int32))) w11 hV12) (em_E _) rfl rfl ⟨rfl, rfl, rfl, rfl⟩ (Nat.zero_le _) (Nat.zero_le _) rfl ?_
            obtain ⟨hN13, h⟩ := no_i h
            refine vr_sld2 C nd_Sums_decidedBy_100 rfl hN13 ?_
            refine vr_imul C nd_Sums_decidedBy_101 rfl ?_
            refine vr_iadd C nd_Sums_decidedBy_102 rfl ?_
            refine vr_is (ls' := [some (.ref 0), none, some (.int f2), some (.int f3), some (.int f4), some (.int (v5 + ((nj_fa (nj_n w8)) * (nj_fa (nj_n w11))))), some (.int v6), some (.int w5)]) C nd_Sums_decidedBy_103 rfl rfl ?_
            have h := no_s h
            subst h
            exact vr_wk [7] rfl hj
theorem co_Sums_decidedBy (c : CluS) (a1 : Int32) (x : Int32) (h : mo_Sums_decidedBy c a1 = some x) : nj_Con ny_Sums_decidedBy nb_Sums_decidedBy 8 (some .int) nr_Sums_decidedBy (rp_Club c) [.ref 0, .int a1] (some (.int x)) (rp_Club c) := by
  rw [mo_Sums_decidedBy] at h
  refine nj_con (by decide) rfl 6 rfl (fun G ad C hq => ?_)
  have C : nj_C G nb_Sums_decidedBy 8 "NobodyJoins$Sums" nr_Sums_decidedBy := C
  show nj_V G ad 0 0 0 [some (.ref 0), some (.int a1), none, none, none, none, none, none] [] (rp_Club c)
  refine vr_al C nd_Sums_decidedBy_0 rfl ?_
  refine vr_al C nd_Sums_decidedBy_1 rfl ?_
  refine vr_get (v := .int (cl_inn c)) C nd_Sums_decidedBy_2 rfl fl_Sums_7 (at_Club_0 c) rfl ?_
  obtain ⟨w1, hV2, h⟩ := no_b h
  refine vr_sVi (hp' := (rp_Club c)) [.int (cl_inn c)] [] C nd_Sums_decidedBy_5 rfl ml_Sums_13 my_Club_votesOfSet (co_Club_votesOfSet c (cl_inn c) w1 hV2) ⟨_, _, _, rfl, rfl, rfl⟩ rfl rfl ⟨rfl, rfl, rfl, rfl⟩ (Nat.zero_le _) (Nat.zero_le _) rfl ?_
  refine vr_is (ls' := [some (.ref 0), some (.int a1), some (.int w1), none, none, none, none, none]) C nd_Sums_decidedBy_8 rfl rfl ?_
  refine vr_al C nd_Sums_decidedBy_9 rfl ?_
  refine vr_il C nd_Sums_decidedBy_10 rfl ?_
  obtain ⟨w3, hV4, h⟩ := no_b h
  refine vr_sVi (hp' := (rp_Club c)) [.int a1] [] C nd_Sums_decidedBy_11 rfl ml_Sums_17 my_Club_votesOf (co_Club_votesOf c a1 w3 hV4) ⟨_, _, _, rfl, rfl, rfl⟩ rfl rfl ⟨rfl, rfl, rfl, rfl⟩ (Nat.zero_le _) (Nat.zero_le _) rfl ?_
  refine vr_is (ls' := [some (.ref 0), some (.int a1), some (.int w1), some (.int w3), none, none, none, none]) C nd_Sums_decidedBy_14 rfl rfl ?_
  refine vr_al C nd_Sums_decidedBy_15 rfl ?_
  refine vr_get (v := .int (cl_inn c)) C nd_Sums_decidedBy_16 rfl fl_Sums_7 (at_Club_0 c) rfl ?_
  refine vr_ic C nd_Sums_decidedBy_19 ?_
  refine vr_il C nd_Sums_decidedBy_20 rfl ?_
  refine vr_ishl C nd_Sums_decidedBy_21 rfl ?_
  refine vr_ic C nd_Sums_decidedBy_22 ?_
  refine vr_ixor C nd_Sums_decidedBy_23 rfl ?_
  refine vr_iand C nd_Sums_decidedBy_24 rfl ?_
  refine vr_is (ls' := [some (.ref 0), some (.int a1), some (.int w1), some (.int w3), some (.int ((cl_inn c) &&& (((1 : Int32) <<< (a1 &&& 31)) ^^^ (-1 : Int32)))), none, none, none]) C nd_Sums_decidedBy_25 rfl rfl ?_
  refine vr_ic C nd_Sums_decidedBy_27 ?_
  refine vr_is (ls' := [some (.ref 0), some (.int a1), some (.int w1), some (.int w3), some (.int ((cl_inn c) &&& (((1 : Int32) <<< (a1 &&& 31)) ^^^ (-1 : Int32)))), some (.int (0 : Int32)), none, none]) C nd_Sums_decidedBy_28 rfl rfl ?_
  refine vr_ic C nd_Sums_decidedBy_30 ?_
  refine vr_is (ls' := [some (.ref 0), some (.int a1), some (.int w1), some (.int w3), some (.int ((cl_inn c) &&& (((1 : Int32) <<< (a1 &&& 31)) ^^^ (-1 : Int32)))), some (.int (0 : Int32)), some (.int (0 : Int32)), none]) C nd_Sums_decidedBy_31 rfl rfl ?_
  refine vr_wk (ls' := [some (.ref 0), none, some (.int w1), some (.int w3), some (.int ((cl_inn c) &&& (((1 : Int32) <<< (a1 &&& 31)) ^^^ (-1 : Int32)))), some (.int (0 : Int32)), some (.int (0 : Int32)), none]) [1] rfl ?_
  obtain ⟨x15, hX16, h⟩ := no_b h
  refine lw_Sums_decidedBy_33 C c w1 w3 ((cl_inn c) &&& (((1 : Int32) <<< (a1 &&& 31)) ^^^ (-1 : Int32))) nj_fu _ _ x15 hX16 ?_
  refine vr_il C nd_Sums_decidedBy_111 rfl ?_
  have h := no_s h
  subst h
  exact vr_iret C hq nd_Sums_decidedBy_113 rfl
abbrev nr_Sums_commonDivisor : Room := { frames := 0, cells := 0, slots := 0, locals := 0 }
theorem lw_Sums_commonDivisor_3 {G : nj_G} {ad : Nat → Nat} (C : nj_C G nb_Sums_commonDivisor 7 "NobodyJoins$Sums" nr_Sums_commonDivisor)  : ∀ (n : Nat) (v0 : Int64) (v2 : Int64) (v4 : Int32) (x : Int64), lo_Sums_commonDivisor_3  n v0 v2 v4 = some x → nj_V G ad 0 0 32 [some (.long x), none, none, none, none, none, none] [] [] → nj_V G ad 0 0 3 [some (.long v0), none, some (.long v2), none, some (.int v4), none, none] [] [] := by
  intro n
  induction n with
  | zero => intro v0 v2 v4 x h; rw [lo_Sums_commonDivisor_3] at h; cases h
  | succ n ih =>
    intro v0 v2 v4 x h hk
    rw [lo_Sums_commonDivisor_3] at h
    refine vr_il C nd_Sums_commonDivisor_3 rfl ?_
    refine vr_ic C nd_Sums_commonDivisor_5 ?_
    refine vr_cm_ge C nd_Sums_commonDivisor_7 (fun hc => ?_) (fun hc => ?_)
    · have h := no_t hc h
      have h := no_s h
      subst h
      exact vr_wk [2, 4] rfl hk
    · have h := no_f hc h
      refine vr_ll C nd_Sums_commonDivisor_10 rfl ?_
      refine vr_lc (v := (0 : Int64)) C nd_Sums_commonDivisor_11 rfl (by decide) ?_
      refine vr_lif_eq C nd_Sums_commonDivisor_12 rfl nd_Sums_commonDivisor_13 (fun hc => ?_) (fun hc => ?_)
      · have h := no_t hc h
        have h := no_s h
        subst h
        exact vr_wk [2, 4] rfl hk
      · have h := no_f hc h
        refine vr_ll C nd_Sums_commonDivisor_16 rfl ?_
        refine vr_ll C nd_Sums_commonDivisor_17 rfl ?_
        obtain ⟨hN1, h⟩ := no_if h
        refine vr_lrem C nd_Sums_commonDivisor_18 rfl hN1 ?_
        refine vr_lst (ls' := [some (.long v0), none, some (.long v2), none, some (.int v4), some (.long (nj_rml v0 v2)), none]) C nd_Sums_commonDivisor_19 rfl rfl ?_
        refine vr_ll C nd_Sums_commonDivisor_21 rfl ?_
        refine vr_lst (ls' := [some (.long v2), none, some (.long v2), none, some (.int v4), some (.long (nj_rml v0 v2)), none]) C nd_Sums_commonDivisor_22 rfl rfl ?_
        refine vr_ll C nd_Sums_commonDivisor_23 rfl ?_
        refine vr_lst (ls' := [some (.long v2), none, some (.long (nj_rml v0 v2)), none, some (.int v4), some (.long (nj_rml v0 v2)), none]) C nd_Sums_commonDivisor_25 rfl rfl ?_
        refine vr_inc (v := (v4 + (1 : Int32))) (ls' := [some (.long v2), none, some (.long (nj_rml v0 v2)), none, some (.int (v4 + (1 : Int32))), some (.long (nj_rml v0 v2)), none]) C nd_Sums_commonDivisor_26 rfl rfl rfl rfl rfl ?_
        refine vr_go C nd_Sums_commonDivisor_29 ?_
        exact vr_wk [5] rfl (ih _ _ _ _ h hk)
theorem co_Sums_commonDivisor  (a0 : Int64) (a2 : Int64) (x : Int64) (h : mo_Sums_commonDivisor a0 a2 = some x) : nj_Con ny_Sums_commonDivisor nb_Sums_commonDivisor 7 (some .long) nr_Sums_commonDivisor [] [.long a0, .long a2] (some (.long x)) [] := by
  rw [mo_Sums_commonDivisor] at h
  refine nj_con (by decide) rfl 3 rfl (fun G ad C hq => ?_)
  have C : nj_C G nb_Sums_commonDivisor 7 "NobodyJoins$Sums" nr_Sums_commonDivisor := C
  show nj_V G ad 0 0 0 [some (.long a0), none, some (.long a2), none, none, none, none] [] []
  refine vr_ic C nd_Sums_commonDivisor_0 ?_
  refine vr_is (ls' := [some (.long a0), none, some (.long a2), none, some (.int (0 : Int32)), none, none]) C nd_Sums_commonDivisor_1 rfl rfl ?_
  obtain ⟨x2, hX3, h⟩ := no_b h
  refine lw_Sums_commonDivisor_3 C  nj_fu _ _ _ x2 hX3 ?_
  refine vr_ll C nd_Sums_commonDivisor_32 rfl ?_
  have h := no_s h
  subst h
  exact vr_lret C hq nd_Sums_commonDivisor_33 rfl
abbrev nr_Club_shareOf : Room := { frames := 1, cells := 0, slots := 0, locals := 20 }
theorem co_Club_shareOf (c : CluS) (a1 : Int32) (x : Int32) (h : mo_Club_shareOf c a1 = some x) : nj_Con ny_Club_shareOf nb_Club_shareOf 4 (some .int) nr_Club_shareOf (rp_Club c) [.ref 0, .int a1] (some (.int x)) (rp_Club c) := by
  rw [mo_Club_shareOf] at h
  refine nj_con (by decide) rfl 2 rfl (fun G ad C hq => ?_)
  have C : nj_C G nb_Club_shareOf 4 "NobodyJoins$Club" nr_Club_shareOf := C
  show nj_V G ad 0 0 0 [some (.ref 0), some (.int a1), none, none] [] (rp_Club c)
  refine vr_al C nd_Club_shareOf_0 rfl ?_
  refine vr_get (v := .int (cl_inn c)) C nd_Club_shareOf_1 rfl fl_Club_31 (at_Club_0 c) rfl ?_
  obtain ⟨w1, hV2, h⟩ := no_b h
  refine vr_cSip [] [.int (cl_inn c)] [] C nd_Club_shareOf_4 rfl ml_Club_60 my_Integer_bitCount (co_Integer_bitCount (cl_inn c) w1 hV2) (em_E _) rfl rfl ⟨rfl, rfl, rfl, rfl⟩ (Nat.zero_le _) (Nat.zero_le _) rfl ?_
  refine vr_is (ls' := [some (.ref 0), some (.int a1), some (.int w1), none]) C nd_Club_shareOf_7 rfl rfl ?_
  refine vr_il C nd_Club_shareOf_8 rfl ?_
  refine vr_if_ne C nd_Club_shareOf_9 (fun hc => ?_) (fun hc => ?_)
  · have h := no_f hc h
    refine vr_al C nd_Club_shareOf_14 rfl ?_
    refine vr_get (v := .int (cl_inn c)) C nd_Club_shareOf_15 rfl fl_Club_31 (at_Club_0 c) rfl ?_
    refine vr_ic C nd_Club_shareOf_18 ?_
    refine vr_il C nd_Club_shareOf_19 rfl ?_
    refine vr_ishl C nd_Club_shareOf_20 rfl ?_
    refine vr_ic C nd_Club_shareOf_21 ?_
    refine vr_isub C nd_Club_shareOf_22 rfl ?_
    refine vr_iand C nd_Club_shareOf_23 rfl ?_
    obtain ⟨w3, hV4, h⟩ := no_b h
    refine vr_cSip [] [.int ((cl_inn c) &&& (((1 : Int32) <<< (a1 &&& 31)) - (1 : Int32)))] [] C nd_Club_shareOf_24 rfl ml_Club_60 my_Integer_bitCount (co_Integer_bitCount ((cl_inn c) &&& (((1 : Int32) <<< (a1 &&& 31)) - (1 : Int32))) w3 hV4) (em_E _) rfl rfl ⟨rfl, rfl, rfl, rfl⟩ (Nat.zero_le _) (Nat.zero_le _) rfl ?_
    refine vr_is (ls' := [some (.ref 0), some (.int a1), some (.int w1), some (.int w3)]) C nd_Club_shareOf_27 rfl rfl ?_
    refine vr_al C nd_Club_shareOf_28 rfl ?_
    refine vr_get (v := .int (cl_tin c)) C nd_Club_shareOf_29 rfl fl_Club_34 (at_Club_0 c) rfl ?_
    refine vr_il C nd_Club_shareOf_32 rfl ?_
    obtain ⟨hN5, h⟩ := no_if h
    refine vr_idiv C nd_Club_shareOf_33 rfl hN5 ?_
    refine vr_il C nd_Club_shareOf_34 rfl ?_
    refine vr_al C nd_Club_shareOf_35 rfl ?_
    refine vr_get (v := .int (cl_tin c)) C nd_Club_shareOf_36 rfl fl_Club_34 (at_Club_0 c) rfl ?_
    refine vr_il C nd_Club_shareOf_39 rfl ?_
    obtain ⟨hN6, h⟩ := no_if h
    refine vr_irem C nd_Club_shareOf_40 rfl hN6 ?_
    obtain ⟨p7, hP8, h⟩ := no_b h
    have hj : nj_V G ad 0 0 49 [none, none, none, none] [.int p7, .int ((cl_tin c) / w1)] (rp_Club c) := by
      refine vr_iadd C nd_Club_shareOf_49 rfl ?_
      have h := no_s h
      subst h
      exact vr_iret C hq nd_Club_shareOf_50 rfl
    clear h
    have h := hP8
    clear hP8
    refine vr_cm_ge C nd_Club_shareOf_41 (fun hc => ?_) (fun hc => ?_)
    · have h := no_t hc h
      refine vr_ic C nd_Club_shareOf_48 ?_
      have h := no_s h
      subst h
      exact vr_wk [0, 1, 2, 3] rfl hj
    · have h := no_f hc h
      refine vr_ic C nd_Club_shareOf_44 ?_
      refine vr_go C nd_Club_shareOf_45 ?_
      have h := no_s h
      subst h
      exact vr_wk [0, 1, 2, 3] rfl hj
  · have h := no_t hc h
    refine vr_ic C nd_Club_shareOf_12 ?_
    have h := no_s h
    subst h
    exact vr_iret C hq nd_Club_shareOf_13 rfl
abbrev nr_Sums_namesSets : Room := { frames := 0, cells := 0, slots := 0, locals := 0 }
theorem lw_Sums_namesSets_2 {G : nj_G} {ad : Nat → Nat} (C : nj_C G nb_Sums_namesSets 5 "NobodyJoins$Sums" nr_Sums_namesSets) (r : RowS) (f1 : Int32) : ∀ (n : Nat) (v2 : Int32) (x : Bool), lo_Sums_namesSets_2 r f1 n v2 = some x → nj_Rt G ad (some (.int (nj_b x))) (rp_Row r) (some .boolean) → nj_V G ad 0 0 2 [some (.ref 0), some (.int f1), some (.int v2), none, none] [] (rp_Row r) := by
  intro n
  induction n with
  | zero => intro v2 x h; rw [lo_Sums_namesSets_2] at h; cases h
  | succ n ih =>
    intro v2 x h hq
    rw [lo_Sums_namesSets_2] at h
    refine vr_il C nd_Sums_namesSets_2 rfl ?_
    refine vr_ic C nd_Sums_namesSets_3 ?_
    refine vr_iadd C nd_Sums_namesSets_4 rfl ?_
    refine vr_al C nd_Sums_namesSets_5 rfl ?_
    refine vr_get (v := .int (ro_size r)) C nd_Sums_namesSets_6 rfl fl_Sums_31 (at_Row_0 r) rfl ?_
    refine vr_cm_ge C nd_Sums_namesSets_9 (fun hc => ?_) (fun hc => ?_)
    · have h := no_t hc h
      refine vr_ic C nd_Sums_namesSets_59 ?_
      have h := no_s h
      subst h
      exact vr_zret true C hq nd_Sums_namesSets_60 rfl
    · have h := no_f hc h
      refine vr_al C nd_Sums_namesSets_12 rfl ?_
      refine vr_get (v := .ref 1) C nd_Sums_namesSets_13 rfl fl_Sums_36 (at_Row_0 r) rfl ?_
      refine vr_il C nd_Sums_namesSets_16 rfl ?_
      obtain ⟨hN1, h⟩ := no_i h
      refine vr_ialk (j := (nj_n v2)) (f := (ro_places r)) C nd_Sums_namesSets_17 rfl (at_Row_1 r) hN1 rfl ?_
      refine vr_is (ls' := [some (.ref 0), some (.int f1), some (.int v2), some (.int ((ro_places r) (nj_n v2))), none]) C nd_Sums_namesSets_18 rfl rfl ?_
      refine vr_al C nd_Sums_namesSets_19 rfl ?_
      refine vr_get (v := .ref 1) C nd_Sums_namesSets_20 rfl fl_Sums_36 (at_Row_0 r) rfl ?_
      refine vr_il C nd_Sums_namesSets_23 rfl ?_
      refine vr_ic C nd_Sums_namesSets_24 ?_
      refine vr_iadd C nd_Sums_namesSets_25 rfl ?_
      obtain ⟨hN2, h⟩ := no_i h
      refine vr_ialk (j := (nj_n (v2 + (1 : Int32)))) (f := (ro_places r)) C nd_Sums_namesSets_26 rfl (at_Row_1 r) hN2 rfl ?_
      refine vr_is (ls' := [some (.ref 0), some (.int f1), some (.int v2), some (.int ((ro_places r) (nj_n v2))), some (.int ((ro_places r) (nj_n (v2 + (1 : Int32)))))]) C nd_Sums_namesSets_27 rfl rfl ?_
      refine vr_il C nd_Sums_namesSets_29 rfl ?_
      refine vr_if_lt C nd_Sums_namesSets_30 (fun hc => ?_) (fun hc => ?_)
      · have h := no_t hc h
        refine vr_ic C nd_Sums_namesSets_51 ?_
        have h := no_s h
        subst h
        exact vr_zret false C hq nd_Sums_namesSets_52 rfl
      · have h := no_f hc h
        refine vr_il C nd_Sums_namesSets_33 rfl ?_
        refine vr_ic C nd_Sums_namesSets_34 ?_
        refine vr_il C nd_Sums_namesSets_35 rfl ?_
        refine vr_ishl C nd_Sums_namesSets_36 rfl ?_
        refine vr_cm_ge C nd_Sums_namesSets_37 (fun hc => ?_) (fun hc => ?_)
        · have h := no_t hc h
          refine vr_ic C nd_Sums_namesSets_51 ?_
          have h := no_s h
          subst h
          exact vr_zret false C hq nd_Sums_namesSets_52 rfl
        · have h := no_f hc h
          refine vr_il C nd_Sums_namesSets_40 rfl ?_
          refine vr_if_lt C nd_Sums_namesSets_42 (fun hc => ?_) (fun hc => ?_)
          · have h := no_t hc h
            refine vr_ic C nd_Sums_namesSets_51 ?_
            have h := no_s h
            subst h
            exact vr_zret false C hq nd_Sums_namesSets_52 rfl
          · have h := no_f hc h
            refine vr_il C nd_Sums_namesSets_45 rfl ?_
            refine vr_ic C nd_Sums_namesSets_47 ?_
            refine vr_cm_le C nd_Sums_namesSets_48 (fun hc => ?_) (fun hc => ?_)
            · have h := no_t hc h
              refine vr_inc (v := (v2 + (2 : Int32))) (ls' := [some (.ref 0), some (.int f1), some (.int (v2 + (2 : Int32))), some (.int ((ro_places r) (nj_n v2))), some (.int ((ro_places r) (nj_n (v2 + (1 : Int32)))))]) C nd_Sums_namesSets_53 rfl rfl rfl rfl rfl ?_
              refine vr_go C nd_Sums_namesSets_56 ?_
              exact vr_wk [3, 4] rfl (ih _ _ h hq)
            · have h := no_f hc h
              refine vr_ic C nd_Sums_namesSets_51 ?_
              have h := no_s h
              subst h
              exact vr_zret false C hq nd_Sums_namesSets_52 rfl
theorem co_Sums_namesSets (r : RowS) (a1 : Int32) (x : Bool) (h : mo_Sums_namesSets r a1 = some x) : nj_Con ny_Sums_namesSets nb_Sums_namesSets 5 (some .boolean) nr_Sums_namesSets (rp_Row r) [.ref 0, .int a1] (some (.int (nj_b x))) (rp_Row r) := by
  rw [mo_Sums_namesSets] at h
  refine nj_con (by decide) rfl 3 rfl (fun G ad C hq => ?_)
  have C : nj_C G nb_Sums_namesSets 5 "NobodyJoins$Sums" nr_Sums_namesSets := C
  show nj_V G ad 0 0 0 [some (.ref 0), some (.int a1), none, none, none] [] (rp_Row r)
  refine vr_ic C nd_Sums_namesSets_0 ?_
  refine vr_is (ls' := [some (.ref 0), some (.int a1), some (.int (0 : Int32)), none, none]) C nd_Sums_namesSets_1 rfl rfl ?_
  exact lw_Sums_namesSets_2 C r a1 nj_fu _ _ h hq
abbrev nr_Sums_suspects : Room := { frames := 0, cells := 0, slots := 0, locals := 0 }
theorem lw_Sums_suspects_4 {G : nj_G} {ad : Nat → Nat} (C : nj_C G nb_Sums_suspects 5 "NobodyJoins$Sums" nr_Sums_suspects) (r : RowS) : ∀ (n : Nat) (v2 : Int32) (v3 : Int32) (x : Int32), lo_Sums_suspects_4 r n v2 v3 = some x → nj_V G ad 0 0 52 [none, none, some (.int x), none, none] [] (rp_Row r) → nj_V G ad 0 0 4 [some (.ref 0), none, some (.int v2), some (.int v3), none] [] (rp_Row r) := by
  intro n
  induction n with
  | zero => intro v2 v3 x h; rw [lo_Sums_suspects_4] at h; cases h
  | succ n ih =>
    intro v2 v3 x h hk
    rw [lo_Sums_suspects_4] at h
    refine vr_il C nd_Sums_suspects_4 rfl ?_
    refine vr_ic C nd_Sums_suspects_5 ?_
    refine vr_iadd C nd_Sums_suspects_6 rfl ?_
    refine vr_al C nd_Sums_suspects_7 rfl ?_
    refine vr_get (v := .int (ro_size r)) C nd_Sums_suspects_8 rfl fl_Sums_31 (at_Row_0 r) rfl ?_
    refine vr_cm_ge C nd_Sums_suspects_11 (fun hc => ?_) (fun hc => ?_)
    · have h := no_t hc h
      have h := no_s h
      subst h
      exact vr_wk [0, 3] rfl hk
    · have h := no_f hc h
      refine vr_al C nd_Sums_suspects_14 rfl ?_
      refine vr_get (v := .ref 1) C nd_Sums_suspects_15 rfl fl_Sums_36 (at_Row_0 r) rfl ?_
      refine vr_il C nd_Sums_suspects_18 rfl ?_
      obtain ⟨hN1, h⟩ := no_i h
      refine vr_ialk (j := (nj_n v3)) (f := (ro_places r)) C nd_Sums_suspects_19 rfl (at_Row_1 r) hN1 rfl ?_
      refine vr_is (ls' := [some (.ref 0), none, some (.int v2), some (.int v3), some (.int ((ro_places r) (nj_n v3)))]) C nd_Sums_suspects_20 rfl rfl ?_
      refine vr_il C nd_Sums_suspects_22 rfl ?_
      refine vr_al C nd_Sums_suspects_23 rfl ?_
      refine vr_get (v := .ref 1) C nd_Sums_suspects_24 rfl fl_Sums_36 (at_Row_0 r) rfl ?_
      refine vr_il C nd_Sums_suspects_27 rfl ?_
      refine vr_ic C nd_Sums_suspects_28 ?_
      refine vr_iadd C nd_Sums_suspects_29 rfl ?_
      obtain ⟨hN2, h⟩ := no_i h
      refine vr_ialk (j := (nj_n (v3 + (1 : Int32)))) (f := (ro_places r)) C nd_Sums_suspects_30 rfl (at_Row_1 r) hN2 rfl ?_
      refine vr_ic C nd_Sums_suspects_31 ?_
      obtain ⟨p3, hP4, h⟩ := no_b h
      have hj : nj_V G ad 0 0 44 [some (.ref 0), none, none, some (.int v3), none] [.int p3, .int v2] (rp_Row r) := by
        refine vr_iand C nd_Sums_suspects_44 rfl ?_
        refine vr_is (ls' := [some (.ref 0), none, some (.int (v2 &&& p3)), some (.int v3), none]) C nd_Sums_suspects_45 rfl rfl ?_
        refine vr_inc (v := (v3 + (2 : Int32))) (ls' := [some (.ref 0), none, some (.int (v2 &&& p3)), some (.int (v3 + (2 : Int32))), none]) C nd_Sums_suspects_46 rfl rfl rfl rfl rfl ?_
        refine vr_go C nd_Sums_suspects_49 ?_
        exact (ih _ _ _ h hk)
      clear h
      have h := hP4
      clear hP4
      refine vr_cm_ne C nd_Sums_suspects_32 (fun hc => ?_) (fun hc => ?_)
      · have h := no_f hc h
        refine vr_il C nd_Sums_suspects_40 rfl ?_
        refine vr_ic C nd_Sums_suspects_42 ?_
        refine vr_ixor C nd_Sums_suspects_43 rfl ?_
        have h := no_s h
        subst h
        exact vr_wk [2, 4] rfl hj
      · have h := no_t hc h
        refine vr_il C nd_Sums_suspects_35 rfl ?_
        refine vr_go C nd_Sums_suspects_37 ?_
        have h := no_s h
        subst h
        exact vr_wk [2, 4] rfl hj
theorem co_Sums_suspects (r : RowS) (a1 : Int32) (x : Int32) (h : mo_Sums_suspects r a1 = some x) : nj_Con ny_Sums_suspects nb_Sums_suspects 5 (some .int) nr_Sums_suspects (rp_Row r) [.ref 0, .int a1] (some (.int x)) (rp_Row r) := by
  rw [mo_Sums_suspects] at h
  refine nj_con (by decide) rfl 3 rfl (fun G ad C hq => ?_)
  have C : nj_C G nb_Sums_suspects 5 "NobodyJoins$Sums" nr_Sums_suspects := C
  show nj_V G ad 0 0 0 [some (.ref 0), some (.int a1), none, none, none] [] (rp_Row r)
  refine vr_il C nd_Sums_suspects_0 rfl ?_
  refine vr_is (ls' := [some (.ref 0), some (.int a1), some (.int a1), none, none]) C nd_Sums_suspects_1 rfl rfl ?_
  refine vr_ic C nd_Sums_suspects_2 ?_
  refine vr_is (ls' := [some (.ref 0), some (.int a1), some (.int a1), some (.int (0 : Int32)), none]) C nd_Sums_suspects_3 rfl rfl ?_
  refine vr_wk (ls' := [some (.ref 0), none, some (.int a1), some (.int (0 : Int32)), none]) [1] rfl ?_
  obtain ⟨x5, hX6, h⟩ := no_b h
  refine lw_Sums_suspects_4 C r nj_fu _ _ x5 hX6 ?_
  refine vr_il C nd_Sums_suspects_52 rfl ?_
  have h := no_s h
  subst h
  exact vr_iret C hq nd_Sums_suspects_53 rfl
abbrev nr_Sums_isNamed : Room := { frames := 0, cells := 0, slots := 0, locals := 0 }
theorem lw_Sums_isNamed_2 {G : nj_G} {ad : Nat → Nat} (C : nj_C G nb_Sums_isNamed 3 "NobodyJoins$Sums" nr_Sums_isNamed) (r : RowS) (f1 : Int32) : ∀ (n : Nat) (v2 : Int32) (x : Bool), lo_Sums_isNamed_2 r f1 n v2 = some x → nj_Rt G ad (some (.int (nj_b x))) (rp_Row r) (some .boolean) → nj_V G ad 0 0 2 [some (.ref 0), some (.int f1), some (.int v2)] [] (rp_Row r) := by
  intro n
  induction n with
  | zero => intro v2 x h; rw [lo_Sums_isNamed_2] at h; cases h
  | succ n ih =>
    intro v2 x h hq
    rw [lo_Sums_isNamed_2] at h
    refine vr_il C nd_Sums_isNamed_2 rfl ?_
    refine vr_al C nd_Sums_isNamed_3 rfl ?_
    refine vr_get (v := .int (ro_size r)) C nd_Sums_isNamed_4 rfl fl_Sums_31 (at_Row_0 r) rfl ?_
    refine vr_cm_ge C nd_Sums_isNamed_7 (fun hc => ?_) (fun hc => ?_)
    · have h := no_t hc h
      refine vr_ic C nd_Sums_isNamed_28 ?_
      have h := no_s h
      subst h
      exact vr_zret false C hq nd_Sums_isNamed_29 rfl
    · have h := no_f hc h
      refine vr_al C nd_Sums_isNamed_10 rfl ?_
      refine vr_get (v := .ref 1) C nd_Sums_isNamed_11 rfl fl_Sums_36 (at_Row_0 r) rfl ?_
      refine vr_il C nd_Sums_isNamed_14 rfl ?_
      obtain ⟨hN1, h⟩ := no_i h
      refine vr_ialk (j := (nj_n v2)) (f := (ro_places r)) C nd_Sums_isNamed_15 rfl (at_Row_1 r) hN1 rfl ?_
      refine vr_il C nd_Sums_isNamed_16 rfl ?_
      refine vr_cm_ne C nd_Sums_isNamed_17 (fun hc => ?_) (fun hc => ?_)
      · have h := no_f hc h
        refine vr_inc (v := (v2 + (2 : Int32))) (ls' := [some (.ref 0), some (.int f1), some (.int (v2 + (2 : Int32)))]) C nd_Sums_isNamed_22 rfl rfl rfl rfl rfl ?_
        refine vr_go C nd_Sums_isNamed_25 ?_
        exact (ih _ _ h hq)
      · have h := no_t hc h
        refine vr_ic C nd_Sums_isNamed_20 ?_
        have h := no_s h
        subst h
        exact vr_zret true C hq nd_Sums_isNamed_21 rfl
theorem co_Sums_isNamed (r : RowS) (a1 : Int32) (x : Bool) (h : mo_Sums_isNamed r a1 = some x) : nj_Con ny_Sums_isNamed nb_Sums_isNamed 3 (some .boolean) nr_Sums_isNamed (rp_Row r) [.ref 0, .int a1] (some (.int (nj_b x))) (rp_Row r) := by
  rw [mo_Sums_isNamed] at h
  refine nj_con (by decide) rfl 1 rfl (fun G ad C hq => ?_)
  have C : nj_C G nb_Sums_isNamed 3 "NobodyJoins$Sums" nr_Sums_isNamed := C
  show nj_V G ad 0 0 0 [some (.ref 0), some (.int a1), none] [] (rp_Row r)
  refine vr_ic C nd_Sums_isNamed_0 ?_
  refine vr_is (ls' := [some (.ref 0), some (.int a1), some (.int (0 : Int32))]) C nd_Sums_isNamed_1 rfl rfl ?_
  exact lw_Sums_isNamed_2 C r a1 nj_fu _ _ h hq
abbrev nr_Sums_allSay : Room := { frames := 0, cells := 0, slots := 0, locals := 0 }
theorem lw_Sums_allSay_2 {G : nj_G} {ad : Nat → Nat} (C : nj_C G nb_Sums_allSay 4 "NobodyJoins$Sums" nr_Sums_allSay) (r : RowS) (f1 : Int32) (f2 : Int32) : ∀ (n : Nat) (v3 : Int32) (x : Bool), lo_Sums_allSay_2 r f1 f2 n v3 = some x → nj_Rt G ad (some (.int (nj_b x))) (rp_Row r) (some .boolean) → nj_V G ad 0 0 2 [some (.ref 0), some (.int f1), some (.int f2), some (.int v3)] [] (rp_Row r) := by
  intro n
  induction n with
  | zero => intro v3 x h; rw [lo_Sums_allSay_2] at h; cases h
  | succ n ih =>
    intro v3 x h hq
    rw [lo_Sums_allSay_2] at h
    refine vr_il C nd_Sums_allSay_2 rfl ?_
    refine vr_ic C nd_Sums_allSay_3 ?_
    refine vr_iadd C nd_Sums_allSay_4 rfl ?_
    refine vr_al C nd_Sums_allSay_5 rfl ?_
    refine vr_get (v := .int (ro_size r)) C nd_Sums_allSay_6 rfl fl_Sums_31 (at_Row_0 r) rfl ?_
    refine vr_cm_ge C nd_Sums_allSay_9 (fun hc => ?_) (fun hc => ?_)
    · have h := no_t hc h
      refine vr_ic C nd_Sums_allSay_42 ?_
      have h := no_s h
      subst h
      exact vr_zret true C hq nd_Sums_allSay_43 rfl
    · have h := no_f hc h
      refine vr_al C nd_Sums_allSay_12 rfl ?_
      refine vr_get (v := .ref 1) C nd_Sums_allSay_13 rfl fl_Sums_36 (at_Row_0 r) rfl ?_
      refine vr_il C nd_Sums_allSay_16 rfl ?_
      obtain ⟨hN1, h⟩ := no_i h
      refine vr_ialk (j := (nj_n v3)) (f := (ro_places r)) C nd_Sums_allSay_17 rfl (at_Row_1 r) hN1 rfl ?_
      refine vr_il C nd_Sums_allSay_18 rfl ?_
      refine vr_cm_ne C nd_Sums_allSay_19 (fun hc => ?_) (fun hc => ?_)
      · have h := no_f hc h
        refine vr_inc (v := (v3 + (2 : Int32))) (ls' := [some (.ref 0), some (.int f1), some (.int f2), some (.int (v3 + (2 : Int32)))]) C nd_Sums_allSay_36 rfl rfl rfl rfl rfl ?_
        refine vr_go C nd_Sums_allSay_39 ?_
        exact (ih _ _ h hq)
      · have h := no_t hc h
        refine vr_al C nd_Sums_allSay_22 rfl ?_
        refine vr_get (v := .ref 1) C nd_Sums_allSay_23 rfl fl_Sums_36 (at_Row_0 r) rfl ?_
        refine vr_il C nd_Sums_allSay_26 rfl ?_
        refine vr_ic C nd_Sums_allSay_27 ?_
        refine vr_iadd C nd_Sums_allSay_28 rfl ?_
        obtain ⟨hN2, h⟩ := no_i h
        refine vr_ialk (j := (nj_n (v3 + (1 : Int32)))) (f := (ro_places r)) C nd_Sums_allSay_29 rfl (at_Row_1 r) hN2 rfl ?_
        refine vr_il C nd_Sums_allSay_30 rfl ?_
        refine vr_cm_eq C nd_Sums_allSay_31 (fun hc => ?_) (fun hc => ?_)
        · have h := no_t hc h
          refine vr_inc (v := (v3 + (2 : Int32))) (ls' := [some (.ref 0), some (.int f1), some (.int f2), some (.int (v3 + (2 : Int32)))]) C nd_Sums_allSay_36 rfl rfl rfl rfl rfl ?_
          refine vr_go C nd_Sums_allSay_39 ?_
          exact (ih _ _ h hq)
        · have h := no_f hc h
          refine vr_ic C nd_Sums_allSay_34 ?_
          have h := no_s h
          subst h
          exact vr_zret false C hq nd_Sums_allSay_35 rfl
theorem co_Sums_allSay (r : RowS) (a1 : Int32) (a2 : Int32) (x : Bool) (h : mo_Sums_allSay r a1 a2 = some x) : nj_Con ny_Sums_allSay nb_Sums_allSay 4 (some .boolean) nr_Sums_allSay (rp_Row r) [.ref 0, .int a1, .int a2] (some (.int (nj_b x))) (rp_Row r) := by
  rw [mo_Sums_allSay] at h
  refine nj_con (by decide) rfl 1 rfl (fun G ad C hq => ?_)
  have C : nj_C G nb_Sums_allSay 4 "NobodyJoins$Sums" nr_Sums_allSay := C
  show nj_V G ad 0 0 0 [some (.ref 0), some (.int a1), some (.int a2), none] [] (rp_Row r)
  refine vr_ic C nd_Sums_allSay_0 ?_
  refine vr_is (ls' := [some (.ref 0), some (.int a1), some (.int a2), some (.int (0 : Int32))]) C nd_Sums_allSay_1 rfl rfl ?_
  exact lw_Sums_allSay_2 C r a1 a2 nj_fu _ _ h hq
abbrev nr_Sums_likersThatFit : Room := { frames := 3, cells := 0, slots := 0, locals := 68 }
theorem lw_Sums_likersThatFit_15 {G : nj_G} {ad : Nat → Nat} (C : nj_C G nb_Sums_likersThatFit 7 "NobodyJoins$Sums" nr_Sums_likersThatFit) (r : RowS) (c : CluS) (f2 : Int32) (f3 : Int32) : ∀ (n : Nat) (v4 : Int32) (v5 : Int32) (x : Int32), lo_Sums_likersThatFit_15 r c f2 f3 n v4 v5 = some x → nj_V G ad 0 0 67 [none, none, none, none, some (.int x), none, none] [] (rp_RoC r c) → nj_V G ad 0 0 15 [some (.ref 0), some (.ref 2), some (.int f2), some (.int f3), some (.int v4), some (.int v5), none] [] (rp_RoC r c) := by
  intro n
  induction n with
  | zero => intro v4 v5 x h; rw [lo_Sums_likersThatFit_15] at h; cases h
  | succ n ih =>
    intro v4 v5 x h hk
    rw [lo_Sums_likersThatFit_15] at h
    refine vr_il C nd_Sums_likersThatFit_15 rfl ?_
    refine vr_il C nd_Sums_likersThatFit_17 rfl ?_
    refine vr_cm_gt C nd_Sums_likersThatFit_18 (fun hc => ?_) (fun hc => ?_)
    · have h := no_t hc h
      have h := no_s h
      subst h
      exact vr_wk [0, 1, 2, 3, 5] rfl hk
    · have h := no_f hc h
      refine vr_il C nd_Sums_likersThatFit_21 rfl ?_
      refine vr_ic C nd_Sums_likersThatFit_23 ?_
      refine vr_il C nd_Sums_likersThatFit_24 rfl ?_
      refine vr_ishl C nd_Sums_likersThatFit_25 rfl ?_
      refine vr_iand C nd_Sums_likersThatFit_26 rfl ?_
      obtain ⟨p1, hP8, h⟩ := no_b h
      have hj : nj_V G ad 0 0 35 [some (.ref 0), some (.ref 2), some (.int f2), some (.int f3), some (.int v4), some (.int v5), none] [.int p1] (rp_RoC r c) := by
        refine vr_is (ls' := [some (.ref 0), some (.ref 2), some (.int f2), some (.int f3), some (.int v4), some (.int v5), some (.int p1)]) C nd_Sums_likersThatFit_35 rfl rfl ?_
        refine vr_il C nd_Sums_likersThatFit_37 rfl ?_
        obtain ⟨p2, hP7, h⟩ := no_b h
        have hj : nj_V G ad 0 0 61 [some (.ref 0), some (.ref 2), some (.int f2), some (.int f3), some (.int p2), some (.int v5), none] [] (rp_RoC r c) := by
          refine vr_inc (v := (v5 + (1 : Int32))) (ls' := [some (.ref 0), some (.ref 2), some (.int f2), some (.int f3), some (.int p2), some (.int (v5 + (1 : Int32))), none]) C nd_Sums_likersThatFit_61 rfl rfl rfl rfl rfl ?_
          refine vr_go C nd_Sums_likersThatFit_64 ?_
          exact (ih _ _ _ h hk)
        clear h
        have h := hP7
        clear hP7
        refine vr_if_eq C nd_Sums_likersThatFit_39 (fun hc => ?_) (fun hc => ?_)
        · have h := no_t hc h
          have h := no_s h
          subst h
          exact vr_wk [6] rfl hj
        · have h := no_f hc h
          refine vr_al C nd_Sums_likersThatFit_42 rfl ?_
          refine vr_il C nd_Sums_likersThatFit_43 rfl ?_
          refine vr_al C nd_Sums_likersThatFit_44 rfl ?_
          refine vr_il C nd_Sums_likersThatFit_45 rfl ?_
          refine vr_il C nd_Sums_likersThatFit_46 rfl ?_
          refine vr_il C nd_Sums_likersThatFit_47 rfl ?_
          obtain ⟨w3, hV4, h⟩ := no_b h
          refine vr_cVip [2, 3, 4, 5, 6] [.int f2, .int f3, .int v5] [.int f2, .ref 0] C nd_Sums_likersThatFit_49 rfl ml_Sums_52 my_Club_votesAgainst (co_Club_votesAgainst c f2 f3 v5 w3 hV4) (em_RoC_Club r c) ⟨_, _, _, rfl, rfl, rfl⟩ rfl rfl ⟨rfl, rfl, rfl, rfl⟩ (Nat.zero_le _) (Nat.zero_le _) rfl ?_
          obtain ⟨w5, hV6, h⟩ := no_b h
          refine vr_cSip [0, 1] [.ref 0, .int f2, .int w3] [] C nd_Sums_likersThatFit_52 rfl ml_Sums_56 my_Sums_allSay (co_Sums_allSay r f2 w3 w5 hV6) (em_RoC_Row r c) rfl rfl ⟨rfl, rfl, rfl, rfl⟩ (Nat.zero_le _) (Nat.zero_le _) rfl ?_
          refine vr_ifb_eq C nd_Sums_likersThatFit_55 (fun hc => ?_) (fun hc => ?_)
          · have h := no_bf hc h
            have h := no_s h
            subst h
            exact vr_wk [6] rfl hj
          · have h := no_bt hc h
            refine vr_inc (v := (v4 + (1 : Int32))) (ls' := [some (.ref 0), some (.ref 2), some (.int f2), some (.int f3), some (.int (v4 + (1 : Int32))), some (.int v5), some (.int p1)]) C nd_Sums_likersThatFit_58 rfl rfl rfl rfl rfl ?_
            have h := no_s h
            subst h
            exact vr_wk [6] rfl hj
      clear h
      have h := hP8
      clear hP8
      refine vr_if_ne C nd_Sums_likersThatFit_27 (fun hc => ?_) (fun hc => ?_)
      · have h := no_f hc h
        refine vr_ic C nd_Sums_likersThatFit_34 ?_
        have h := no_s h
        subst h
        exact hj
      · have h := no_t hc h
        refine vr_ic C nd_Sums_likersThatFit_30 ?_
        refine vr_go C nd_Sums_likersThatFit_31 ?_
        have h := no_s h
        subst h
        exact hj
theorem co_Sums_likersThatFit (r : RowS) (c : CluS) (a2 : Int32) (x : Int32) (h : mo_Sums_likersThatFit r c a2 = some x) : nj_Con ny_Sums_likersThatFit nb_Sums_likersThatFit 7 (some .int) nr_Sums_likersThatFit (rp_RoC r c) [.ref 0, .ref 2, .int a2] (some (.int x)) (rp_RoC r c) := by
  rw [mo_Sums_likersThatFit] at h
  refine nj_con (by decide) rfl 4 rfl (fun G ad C hq => ?_)
  have C : nj_C G nb_Sums_likersThatFit 7 "NobodyJoins$Sums" nr_Sums_likersThatFit := C
  show nj_V G ad 0 0 0 [some (.ref 0), some (.ref 2), some (.int a2), none, none, none, none] [] (rp_RoC r c)
  refine vr_ic C nd_Sums_likersThatFit_0 ?_
  refine vr_al C nd_Sums_likersThatFit_1 rfl ?_
  refine vr_get (v := .int (cl_children c)) C nd_Sums_likersThatFit_2 rfl fl_Sums_39 (at_RoC_2 r c) rfl ?_
  refine vr_ishl C nd_Sums_likersThatFit_5 rfl ?_
  refine vr_ic C nd_Sums_likersThatFit_6 ?_
  refine vr_isub C nd_Sums_likersThatFit_7 rfl ?_
  refine vr_is (ls' := [some (.ref 0), some (.ref 2), some (.int a2), some (.int (((1 : Int32) <<< ((cl_children c) &&& 31)) - (1 : Int32))), none, none, none]) C nd_Sums_likersThatFit_8 rfl rfl ?_
  refine vr_ic C nd_Sums_likersThatFit_9 ?_
  refine vr_is (ls' := [some (.ref 0), some (.ref 2), some (.int a2), some (.int (((1 : Int32) <<< ((cl_children c) &&& 31)) - (1 : Int32))), some (.int (0 : Int32)), none, none]) C nd_Sums_likersThatFit_10 rfl rfl ?_
  refine vr_ic C nd_Sums_likersThatFit_12 ?_
  refine vr_is (ls' := [some (.ref 0), some (.ref 2), some (.int a2), some (.int (((1 : Int32) <<< ((cl_children c) &&& 31)) - (1 : Int32))), some (.int (0 : Int32)), some (.int (0 : Int32)), none]) C nd_Sums_likersThatFit_13 rfl rfl ?_
  obtain ⟨x9, hX10, h⟩ := no_b h
  refine lw_Sums_likersThatFit_15 C r c a2 (((1 : Int32) <<< ((cl_children c) &&& 31)) - (1 : Int32)) nj_fu _ _ x9 hX10 ?_
  refine vr_il C nd_Sums_likersThatFit_67 rfl ?_
  have h := no_s h
  subst h
  exact vr_iret C hq nd_Sums_likersThatFit_69 rfl
abbrev nr_Sums_likingsOf : Room := { frames := 4, cells := 0, slots := 0, locals := 94 }
theorem lw_Sums_likingsOf_5 {G : nj_G} {ad : Nat → Nat} (C : nj_C G nb_Sums_likingsOf 5 "NobodyJoins$Sums" nr_Sums_likingsOf) (r : RowS) (c : CluS) : ∀ (n : Nat) (v2 : Int64) (v4 : Int32) (x : Int64), lo_Sums_likingsOf_5 r c n v2 v4 = some x → nj_V G ad 0 0 40 [none, none, some (.long x), none, none] [] (rp_RoC r c) → nj_V G ad 0 0 5 [some (.ref 0), some (.ref 2), some (.long v2), none, some (.int v4)] [] (rp_RoC r c) := by
  intro n
  induction n with
  | zero => intro v2 v4 x h; rw [lo_Sums_likingsOf_5] at h; cases h
  | succ n ih =>
    intro v2 v4 x h hk
    rw [lo_Sums_likingsOf_5] at h
    refine vr_il C nd_Sums_likingsOf_5 rfl ?_
    refine vr_al C nd_Sums_likingsOf_7 rfl ?_
    refine vr_get (v := .int (cl_children c)) C nd_Sums_likingsOf_8 rfl fl_Sums_39 (at_RoC_2 r c) rfl ?_
    refine vr_cm_ge C nd_Sums_likingsOf_11 (fun hc => ?_) (fun hc => ?_)
    · have h := no_t hc h
      have h := no_s h
      subst h
      exact vr_wk [0, 1, 4] rfl hk
    · have h := no_f hc h
      refine vr_al C nd_Sums_likingsOf_14 rfl ?_
      refine vr_il C nd_Sums_likingsOf_15 rfl ?_
      obtain ⟨w1, hV2, h⟩ := no_b h
      refine vr_cSip [0, 1] [.ref 0, .int v4] [] C nd_Sums_likingsOf_17 rfl ml_Sums_42 my_Sums_isNamed (co_Sums_isNamed r v4 w1 hV2) (em_RoC_Row r c) rfl rfl ⟨rfl, rfl, rfl, rfl⟩ (Nat.zero_le _) (Nat.zero_le _) rfl ?_
      obtain ⟨p3, hP6, h⟩ := no_b h
      have hj : nj_V G ad 0 0 34 [some (.ref 0), some (.ref 2), some (.long p3), none, some (.int v4)] [] (rp_RoC r c) := by
        refine vr_inc (v := (v4 + (1 : Int32))) (ls' := [some (.ref 0), some (.ref 2), some (.long p3), none, some (.int (v4 + (1 : Int32)))]) C nd_Sums_likingsOf_34 rfl rfl rfl rfl rfl ?_
        refine vr_go C nd_Sums_likingsOf_37 ?_
        exact (ih _ _ _ h hk)
      clear h
      have h := hP6
      clear hP6
      refine vr_ifb_eq C nd_Sums_likingsOf_20 (fun hc => ?_) (fun hc => ?_)
      · have h := no_bf hc h
        have h := no_s h
        subst h
        exact hj
      · have h := no_bt hc h
        refine vr_ll C nd_Sums_likingsOf_23 rfl ?_
        refine vr_al C nd_Sums_likingsOf_24 rfl ?_
        refine vr_al C nd_Sums_likingsOf_25 rfl ?_
        refine vr_il C nd_Sums_likingsOf_26 rfl ?_
        obtain ⟨w4, hV5, h⟩ := no_b h
        refine vr_cSip [0, 1, 2, 3, 4, 5, 6] [.ref 0, .ref 2, .int v4] [.long v2] C nd_Sums_likingsOf_28 rfl ml_Sums_48 my_Sums_likersThatFit (co_Sums_likersThatFit r c v4 w4 hV5) (em_RoC_RoC r c) rfl rfl ⟨rfl, rfl, rfl, rfl⟩ (Nat.zero_le _) (Nat.zero_le _) rfl ?_
        refine vr_i2l C nd_Sums_likingsOf_31 rfl ?_
        refine vr_lmul C nd_Sums_likingsOf_32 rfl ?_
        refine vr_lst (ls' := [some (.ref 0), some (.ref 2), some (.long (v2 * (Int32.toInt64 w4))), none, some (.int v4)]) C nd_Sums_likingsOf_33 rfl rfl ?_
        have h := no_s h
        subst h
        exact hj
theorem co_Sums_likingsOf (r : RowS) (c : CluS) (x : Int64) (h : mo_Sums_likingsOf r c = some x) : nj_Con ny_Sums_likingsOf nb_Sums_likingsOf 5 (some .long) nr_Sums_likingsOf (rp_RoC r c) [.ref 0, .ref 2] (some (.long x)) (rp_RoC r c) := by
  rw [mo_Sums_likingsOf] at h
  refine nj_con (by decide) rfl 3 rfl (fun G ad C hq => ?_)
  have C : nj_C G nb_Sums_likingsOf 5 "NobodyJoins$Sums" nr_Sums_likingsOf := C
  show nj_V G ad 0 0 0 [some (.ref 0), some (.ref 2), none, none, none] [] (rp_RoC r c)
  refine vr_lc (v := (1 : Int64)) C nd_Sums_likingsOf_0 rfl (by decide) ?_
  refine vr_lst (ls' := [some (.ref 0), some (.ref 2), some (.long (1 : Int64)), none, none]) C nd_Sums_likingsOf_1 rfl rfl ?_
  refine vr_ic C nd_Sums_likingsOf_2 ?_
  refine vr_is (ls' := [some (.ref 0), some (.ref 2), some (.long (1 : Int64)), none, some (.int (0 : Int32))]) C nd_Sums_likingsOf_3 rfl rfl ?_
  obtain ⟨x7, hX8, h⟩ := no_b h
  refine lw_Sums_likingsOf_5 C r c nj_fu _ _ x7 hX8 ?_
  refine vr_ll C nd_Sums_likingsOf_40 rfl ?_
  have h := no_s h
  subst h
  exact vr_lret C hq nd_Sums_likingsOf_41 rfl
abbrev nr_Club_doByLot : Room := { frames := 5, cells := 0, slots := 0, locals := 118 }
theorem co_Club_doByLot (c : CluS) (a1 : Int32) (x : CluS) (h : mo_Club_doByLot c a1 = some x) : nj_Con ny_Club_doByLot nb_Club_doByLot 4 none nr_Club_doByLot (rp_Club c) [.ref 0, .int a1] none (rp_Club x) := by
  rw [mo_Club_doByLot] at h
  refine nj_con (by decide) rfl 2 rfl (fun G ad C hq => ?_)
  have C : nj_C G nb_Club_doByLot 4 "NobodyJoins$Club" nr_Club_doByLot := C
  show nj_V G ad 0 0 0 [some (.ref 0), some (.int a1), none, none] [] (rp_Club c)
  refine vr_al C nd_Club_doByLot_0 rfl ?_
  refine vr_get (v := .int (cl_children c)) C nd_Club_doByLot_1 rfl fl_Club_24 (at_Club_0 c) rfl ?_
  refine vr_if_ne C nd_Club_doByLot_4 (fun hc => ?_) (fun hc => ?_)
  · have h := no_f hc h
    refine vr_il C nd_Club_doByLot_8 rfl ?_
    refine vr_al C nd_Club_doByLot_9 rfl ?_
    refine vr_get (v := .int (cl_children c)) C nd_Club_doByLot_10 rfl fl_Club_24 (at_Club_0 c) rfl ?_
    obtain ⟨hN1, h⟩ := no_if h
    refine vr_irem C nd_Club_doByLot_13 rfl hN1 ?_
    refine vr_is (ls' := [some (.ref 0), some (.int a1), some (.int (nj_rem a1 (cl_children c))), none]) C nd_Club_doByLot_14 rfl rfl ?_
    refine vr_il C nd_Club_doByLot_15 rfl ?_
    refine vr_ic C nd_Club_doByLot_16 ?_
    refine vr_idiv C nd_Club_doByLot_18 rfl (by decide) ?_
    refine vr_al C nd_Club_doByLot_19 rfl ?_
    refine vr_get (v := .int (cl_children c)) C nd_Club_doByLot_20 rfl fl_Club_24 (at_Club_0 c) rfl ?_
    obtain ⟨hN2, h⟩ := no_if h
    refine vr_irem C nd_Club_doByLot_23 rfl hN2 ?_
    refine vr_is (ls' := [some (.ref 0), some (.int a1), some (.int (nj_rem a1 (cl_children c))), some (.int (nj_rem (a1 / (16 : Int32)) (cl_children c)))]) C nd_Club_doByLot_24 rfl rfl ?_
    refine vr_al C nd_Club_doByLot_25 rfl ?_
    refine vr_al C nd_Club_doByLot_26 rfl ?_
    refine vr_get (v := .int (cl_inn c)) C nd_Club_doByLot_27 rfl fl_Club_31 (at_Club_0 c) rfl ?_
    obtain ⟨w3, hV4, h⟩ := no_b h
    refine vr_sVi (hp' := (rp_Club c)) [.int (cl_inn c)] [] C nd_Club_doByLot_30 rfl ml_Club_87 my_Club_putOutOf (co_Club_putOutOf c (cl_inn c) w3 hV4) ⟨_, _, _, rfl, rfl, rfl⟩ rfl rfl ⟨rfl, rfl, rfl, rfl⟩ (Nat.zero_le _) (Nat.zero_le _) rfl ?_
    refine vr_ic C nd_Club_doByLot_33 ?_
    refine vr_il C nd_Club_doByLot_34 rfl ?_
    refine vr_ishl C nd_Club_doByLot_35 rfl ?_
    refine vr_iand C nd_Club_doByLot_36 rfl ?_
    refine vr_if_eq C nd_Club_doByLot_37 (fun hc => ?_) (fun hc => ?_)
    · have h := no_t hc h
      refine vr_al C nd_Club_doByLot_48 rfl ?_
      refine vr_il C nd_Club_doByLot_49 rfl ?_
      obtain ⟨w5, hV6, h⟩ := no_b h
      refine vr_sVi (hp' := (rp_Club c)) [.int (nj_rem a1 (cl_children c))] [] C nd_Club_doByLot_50 rfl ml_Club_105 my_Club_mayJoin (co_Club_mayJoin c (nj_rem a1 (cl_children c)) w5 hV6) ⟨_, _, _, rfl, rfl, rfl⟩ rfl rfl ⟨rfl, rfl, rfl, rfl⟩ (Nat.zero_le _) (Nat.zero_le _) rfl ?_
      refine vr_ifb_eq C nd_Club_doByLot_53 (fun hc => ?_) (fun hc => ?_)
      · have h := no_bf hc h
        refine vr_il C nd_Club_doByLot_64 rfl ?_
        refine vr_il C nd_Club_doByLot_65 rfl ?_
        refine vr_cm_ne C nd_Club_doByLot_66 (fun hc => ?_) (fun hc => ?_)
        · have h := no_f hc h
          refine vr_al C nd_Club_doByLot_76 rfl ?_
          refine vr_il C nd_Club_doByLot_77 rfl ?_
          refine vr_il C nd_Club_doByLot_78 rfl ?_
          obtain ⟨w7, hV8, h⟩ := no_b h
          refine vr_sVv (hp' := (rp_Club w7)) [.int (nj_rem a1 (cl_children c)), .int (nj_rem (a1 / (16 : Int32)) (cl_children c))] [] C nd_Club_doByLot_79 rfl ml_Club_114 my_Club_bearGrudge (co_Club_bearGrudge c (nj_rem a1 (cl_children c)) (nj_rem (a1 / (16 : Int32)) (cl_children c)) w7 hV8) ⟨_, _, _, rfl, rfl, rfl⟩ rfl rfl ⟨rfl, rfl, rfl, rfl⟩ (Nat.zero_le _) (Nat.zero_le _) rfl ?_
          have h := no_s h
          subst h
          exact vr_vret C hq nd_Club_doByLot_82 rfl
        · have h := no_t hc h
          refine vr_al C nd_Club_doByLot_69 rfl ?_
          obtain ⟨w9, hV10, h⟩ := no_b h
          refine vr_sVv (hp' := (rp_Club w9)) [] [] C nd_Club_doByLot_70 rfl ml_Club_111 my_Club_payFee (co_Club_payFee c w9 hV10) ⟨_, _, _, rfl, rfl, rfl⟩ rfl rfl ⟨rfl, rfl, rfl, rfl⟩ (Nat.zero_le _) (Nat.zero_le _) rfl ?_
          refine vr_go C nd_Club_doByLot_73 ?_
          have h := no_s h
          subst h
          exact vr_vret C hq nd_Club_doByLot_82 rfl
      · have h := no_bt hc h
        refine vr_al C nd_Club_doByLot_56 rfl ?_
        refine vr_il C nd_Club_doByLot_57 rfl ?_
        obtain ⟨w11, hV12, h⟩ := no_b h
        refine vr_sVv (hp' := (rp_Club w11)) [.int (nj_rem a1 (cl_children c))] [] C nd_Club_doByLot_58 rfl ml_Club_108 my_Club_letIn (co_Club_letIn c (nj_rem a1 (cl_children c)) w11 hV12) ⟨_, _, _, rfl, rfl, rfl⟩ rfl rfl ⟨rfl, rfl, rfl, rfl⟩ (Nat.zero_le _) (Nat.zero_le _) rfl ?_
        refine vr_go C nd_Club_doByLot_61 ?_
        have h := no_s h
        subst h
        exact vr_vret C hq nd_Club_doByLot_82 rfl
    · have h := no_f hc h
      refine vr_al C nd_Club_doByLot_40 rfl ?_
      refine vr_il C nd_Club_doByLot_41 rfl ?_
      obtain ⟨w13, hV14, h⟩ := no_b h
      refine vr_sVv (hp' := (rp_Club w13)) [.int (nj_rem a1 (cl_children c))] [] C nd_Club_doByLot_42 rfl ml_Club_101 my_Club_putOut (co_Club_putOut c (nj_rem a1 (cl_children c)) w13 hV14) ⟨_, _, _, rfl, rfl, rfl⟩ rfl rfl ⟨rfl, rfl, rfl, rfl⟩ (Nat.zero_le _) (Nat.zero_le _) rfl ?_
      refine vr_go C nd_Club_doByLot_45 ?_
      have h := no_s h
      subst h
      exact vr_vret C hq nd_Club_doByLot_82 rfl
  · have h := no_t hc h
    have h := no_s h
    subst h
    exact vr_vret C hq nd_Club_doByLot_7 rfl
abbrev nr_Row_digestedInto : Room := { frames := 0, cells := 0, slots := 0, locals := 0 }
theorem lw_Row_digestedInto_15 {G : nj_G} {ad : Nat → Nat} (C : nj_C G nb_Row_digestedInto 6 "NobodyJoins$Row" nr_Row_digestedInto) (r : RowS) : ∀ (n : Nat) (v3 : Int64) (v5 : Int32) (x : Int64), lo_Row_digestedInto_15 r n v3 v5 = some x → nj_V G ad 0 0 45 [none, none, none, some (.long x), none, none] [] (rp_Row r) → nj_V G ad 0 0 15 [some (.ref 0), none, none, some (.long v3), none, some (.int v5)] [] (rp_Row r) := by
  intro n
  induction n with
  | zero => intro v3 v5 x h; rw [lo_Row_digestedInto_15] at h; cases h
  | succ n ih =>
    intro v3 v5 x h hk
    rw [lo_Row_digestedInto_15] at h
    refine vr_il C nd_Row_digestedInto_15 rfl ?_
    refine vr_al C nd_Row_digestedInto_17 rfl ?_
    refine vr_get (v := .int (ro_size r)) C nd_Row_digestedInto_18 rfl fl_Row_15 (at_Row_0 r) rfl ?_
    refine vr_cm_ge C nd_Row_digestedInto_21 (fun hc => ?_) (fun hc => ?_)
    · have h := no_t hc h
      have h := no_s h
      subst h
      exact vr_wk [0, 5] rfl hk
    · have h := no_f hc h
      refine vr_ldc2 C nd_Row_digestedInto_24 rfl kl_Row_19 ?_
      refine vr_ll C nd_Row_digestedInto_27 rfl ?_
      refine vr_lmul C nd_Row_digestedInto_28 rfl ?_
      refine vr_al C nd_Row_digestedInto_29 rfl ?_
      refine vr_get (v := .ref 1) C nd_Row_digestedInto_30 rfl fl_Row_9 (at_Row_0 r) rfl ?_
      refine vr_il C nd_Row_digestedInto_33 rfl ?_
      obtain ⟨hN1, h⟩ := no_i h
      refine vr_ialk (j := (nj_n v5)) (f := (ro_places r)) C nd_Row_digestedInto_35 rfl (at_Row_1 r) hN1 rfl ?_
      refine vr_i2l C nd_Row_digestedInto_36 rfl ?_
      refine vr_ladd C nd_Row_digestedInto_37 rfl ?_
      refine vr_lst (ls' := [some (.ref 0), none, none, some (.long (((31 : Int64) * v3) + (Int32.toInt64 ((ro_places r) (nj_n v5))))), none, some (.int v5)]) C nd_Row_digestedInto_38 rfl rfl ?_
      refine vr_inc (v := (v5 + (1 : Int32))) (ls' := [some (.ref 0), none, none, some (.long (((31 : Int64) * v3) + (Int32.toInt64 ((ro_places r) (nj_n v5))))), none, some (.int (v5 + (1 : Int32)))]) C nd_Row_digestedInto_39 rfl rfl rfl rfl rfl ?_
      refine vr_go C nd_Row_digestedInto_42 ?_
      exact (ih _ _ _ h hk)
theorem co_Row_digestedInto (r : RowS) (a1 : Int64) (x : Int64) (h : mo_Row_digestedInto r a1 = some x) : nj_Con ny_Row_digestedInto nb_Row_digestedInto 6 (some .long) nr_Row_digestedInto (rp_Row r) [.ref 0, .long a1] (some (.long x)) (rp_Row r) := by
  rw [mo_Row_digestedInto] at h
  refine nj_con (by decide) rfl 3 rfl (fun G ad C hq => ?_)
  have C : nj_C G nb_Row_digestedInto 6 "NobodyJoins$Row" nr_Row_digestedInto := C
  show nj_V G ad 0 0 0 [some (.ref 0), some (.long a1), none, none, none, none] [] (rp_Row r)
  refine vr_ldc2 C nd_Row_digestedInto_0 rfl kl_Row_19 ?_
  refine vr_ll C nd_Row_digestedInto_3 rfl ?_
  refine vr_lmul C nd_Row_digestedInto_4 rfl ?_
  refine vr_al C nd_Row_digestedInto_5 rfl ?_
  refine vr_get (v := .int (ro_size r)) C nd_Row_digestedInto_6 rfl fl_Row_15 (at_Row_0 r) rfl ?_
  refine vr_i2l C nd_Row_digestedInto_9 rfl ?_
  refine vr_ladd C nd_Row_digestedInto_10 rfl ?_
  refine vr_lst (ls' := [some (.ref 0), some (.long a1), none, some (.long (((31 : Int64) * a1) + (Int32.toInt64 (ro_size r)))), none, none]) C nd_Row_digestedInto_11 rfl rfl ?_
  refine vr_ic C nd_Row_digestedInto_12 ?_
  refine vr_is (ls' := [some (.ref 0), some (.long a1), none, some (.long (((31 : Int64) * a1) + (Int32.toInt64 (ro_size r)))), none, some (.int (0 : Int32))]) C nd_Row_digestedInto_13 rfl rfl ?_
  refine vr_wk (ls' := [some (.ref 0), none, none, some (.long (((31 : Int64) * a1) + (Int32.toInt64 (ro_size r)))), none, some (.int (0 : Int32))]) [1] rfl ?_
  obtain ⟨x2, hX3, h⟩ := no_b h
  refine lw_Row_digestedInto_15 C r nj_fu _ _ x2 hX3 ?_
  refine vr_ll C nd_Row_digestedInto_45 rfl ?_
  have h := no_s h
  subst h
  exact vr_lret C hq nd_Row_digestedInto_46 rfl
abbrev nr_Text_digestedInto : Room := { frames := 0, cells := 0, slots := 0, locals := 0 }
theorem lw_Text_digestedInto_15 {G : nj_G} {ad : Nat → Nat} (C : nj_C G nb_Text_digestedInto 6 "NobodyJoins$Text" nr_Text_digestedInto) (t : TexS) : ∀ (n : Nat) (v3 : Int64) (v5 : Int32) (x : Int64), lo_Text_digestedInto_15 t n v3 v5 = some x → nj_V G ad 0 0 45 [none, none, none, some (.long x), none, none] [] (rp_Tex t) → nj_V G ad 0 0 15 [some (.ref 0), none, none, some (.long v3), none, some (.int v5)] [] (rp_Tex t) := by
  intro n
  induction n with
  | zero => intro v3 v5 x h; rw [lo_Text_digestedInto_15] at h; cases h
  | succ n ih =>
    intro v3 v5 x h hk
    rw [lo_Text_digestedInto_15] at h
    refine vr_il C nd_Text_digestedInto_15 rfl ?_
    refine vr_al C nd_Text_digestedInto_17 rfl ?_
    refine vr_get (v := .int (te_size t)) C nd_Text_digestedInto_18 rfl fl_Text_15 (at_Tex_0 t) rfl ?_
    refine vr_cm_ge C nd_Text_digestedInto_21 (fun hc => ?_) (fun hc => ?_)
    · have h := no_t hc h
      have h := no_s h
      subst h
      exact vr_wk [0, 5] rfl hk
    · have h := no_f hc h
      refine vr_ldc2 C nd_Text_digestedInto_24 rfl kl_Text_27 ?_
      refine vr_ll C nd_Text_digestedInto_27 rfl ?_
      refine vr_lmul C nd_Text_digestedInto_28 rfl ?_
      refine vr_al C nd_Text_digestedInto_29 rfl ?_
      refine vr_get (v := .ref 1) C nd_Text_digestedInto_30 rfl fl_Text_9 (at_Tex_0 t) rfl ?_
      refine vr_il C nd_Text_digestedInto_33 rfl ?_
      obtain ⟨hN1, h⟩ := no_i h
      refine vr_balk (j := (nj_n v5)) (f := (te_bytes t)) C nd_Text_digestedInto_35 rfl (at_Tex_1 t) hN1 rfl ?_
      refine vr_i2l C nd_Text_digestedInto_36 rfl ?_
      refine vr_ladd C nd_Text_digestedInto_37 rfl ?_
      refine vr_lst (ls' := [some (.ref 0), none, none, some (.long (((31 : Int64) * v3) + (Int32.toInt64 ((te_bytes t) (nj_n v5))))), none, some (.int v5)]) C nd_Text_digestedInto_38 rfl rfl ?_
      refine vr_inc (v := (v5 + (1 : Int32))) (ls' := [some (.ref 0), none, none, some (.long (((31 : Int64) * v3) + (Int32.toInt64 ((te_bytes t) (nj_n v5))))), none, some (.int (v5 + (1 : Int32)))]) C nd_Text_digestedInto_39 rfl rfl rfl rfl rfl ?_
      refine vr_go C nd_Text_digestedInto_42 ?_
      exact (ih _ _ _ h hk)
theorem co_Text_digestedInto (t : TexS) (a1 : Int64) (x : Int64) (h : mo_Text_digestedInto t a1 = some x) : nj_Con ny_Text_digestedInto nb_Text_digestedInto 6 (some .long) nr_Text_digestedInto (rp_Tex t) [.ref 0, .long a1] (some (.long x)) (rp_Tex t) := by
  rw [mo_Text_digestedInto] at h
  refine nj_con (by decide) rfl 3 rfl (fun G ad C hq => ?_)
  have C : nj_C G nb_Text_digestedInto 6 "NobodyJoins$Text" nr_Text_digestedInto := C
  show nj_V G ad 0 0 0 [some (.ref 0), some (.long a1), none, none, none, none] [] (rp_Tex t)
  refine vr_ldc2 C nd_Text_digestedInto_0 rfl kl_Text_27 ?_
  refine vr_ll C nd_Text_digestedInto_3 rfl ?_
  refine vr_lmul C nd_Text_digestedInto_4 rfl ?_
  refine vr_al C nd_Text_digestedInto_5 rfl ?_
  refine vr_get (v := .int (te_size t)) C nd_Text_digestedInto_6 rfl fl_Text_15 (at_Tex_0 t) rfl ?_
  refine vr_i2l C nd_Text_digestedInto_9 rfl ?_
  refine vr_ladd C nd_Text_digestedInto_10 rfl ?_
  refine vr_lst (ls' := [some (.ref 0), some (.long a1), none, some (.long (((31 : Int64) * a1) + (Int32.toInt64 (te_size t)))), none, none]) C nd_Text_digestedInto_11 rfl rfl ?_
  refine vr_ic C nd_Text_digestedInto_12 ?_
  refine vr_is (ls' := [some (.ref 0), some (.long a1), none, some (.long (((31 : Int64) * a1) + (Int32.toInt64 (te_size t)))), none, some (.int (0 : Int32))]) C nd_Text_digestedInto_13 rfl rfl ?_
  refine vr_wk (ls' := [some (.ref 0), none, none, some (.long (((31 : Int64) * a1) + (Int32.toInt64 (te_size t)))), none, some (.int (0 : Int32))]) [1] rfl ?_
  obtain ⟨x2, hX3, h⟩ := no_b h
  refine lw_Text_digestedInto_15 C t nj_fu _ _ x2 hX3 ?_
  refine vr_ll C nd_Text_digestedInto_45 rfl ?_
  have h := no_s h
  subst h
  exact vr_lret C hq nd_Text_digestedInto_46 rfl
