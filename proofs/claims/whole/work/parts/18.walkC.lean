abbrev nr_Md_in : Room := { frames := 0, cells := 0, slots := 0, locals := 0 }
theorem co_Md_in  (a0 : Int64) (a2 : Int64) (a4 : Int64) (x : Bool) (h : mo_Md_in a0 a2 a4 = some x) : nj_Con ny_Md_in nb_Md_in 6 (some .boolean) nr_Md_in [] [.long a0, .long a2, .long a4] (some (.int (nj_b x))) [] := by
  rw [mo_Md_in] at h
  refine nj_con (by decide) rfl 0 rfl (fun G ad C hq => ?_)
  have C : nj_C G nb_Md_in 6 "NobodyJoinsModel" nr_Md_in := C
  show nj_V G ad 0 0 0 [some (.long a0), none, some (.long a2), none, some (.long a4), none] [] []
  refine vr_ll C nd_Md_in_0 rfl ?_
  refine vr_ll C nd_Md_in_1 rfl ?_
  refine vr_lif_lt C nd_Md_in_2 rfl nd_Md_in_3 (fun hc => ?_) (fun hc => ?_)
  · have h := no_t hc h
    refine vr_ic C nd_Md_in_17 ?_
    have h := no_s h
    subst h
    exact vr_zret false C hq nd_Md_in_18 rfl
  · have h := no_f hc h
    refine vr_ll C nd_Md_in_6 rfl ?_
    refine vr_ll C nd_Md_in_7 rfl ?_
    refine vr_lif_gt C nd_Md_in_9 rfl nd_Md_in_10 (fun hc => ?_) (fun hc => ?_)
    · have h := no_t hc h
      refine vr_ic C nd_Md_in_17 ?_
      have h := no_s h
      subst h
      exact vr_zret false C hq nd_Md_in_18 rfl
    · have h := no_f hc h
      refine vr_ic C nd_Md_in_13 ?_
      refine vr_go C nd_Md_in_14 ?_
      have h := no_s h
      subst h
      exact vr_zret true C hq nd_Md_in_18 rfl
abbrev nr_Md_isRow : Room := { frames := 1, cells := 0, slots := 0, locals := 25 }
theorem co_Md_isRow  (a0 : Int32) (x : Bool) (h : mo_Md_isRow a0 = some x) : nj_Con ny_Md_isRow nb_Md_isRow 1 (some .boolean) nr_Md_isRow [] [.int a0] (some (.int (nj_b x))) [] := by
  rw [mo_Md_isRow] at h
  refine nj_con (by decide) rfl 0 rfl (fun G ad C hq => ?_)
  have C : nj_C G nb_Md_isRow 1 "NobodyJoinsModel" nr_Md_isRow := C
  show nj_V G ad 0 0 0 [some (.int a0)] [] []
  refine vr_il C nd_Md_isRow_0 rfl ?_
  refine vr_i2l C nd_Md_isRow_1 rfl ?_
  refine vr_lc (v := (0 : Int64)) C nd_Md_isRow_2 rfl (by decide) ?_
  refine vr_ldc2 C nd_Md_isRow_3 rfl kl_Md_58 ?_
  obtain ⟨w1, hV2, h⟩ := no_b h
  refine vr_cSip [] [.long (Int32.toInt64 a0), .long (0 : Int64), .long (5 : Int64)] [] C nd_Md_isRow_6 rfl ml_Md_60 my_Md_in (co_Md_in (Int32.toInt64 a0) (0 : Int64) (5 : Int64) w1 hV2) (em_E _) rfl rfl ⟨rfl, rfl, rfl, rfl⟩ (Nat.zero_le _) (Nat.zero_le _) rfl ?_
  have h := no_s h
  subst h
  exact vr_zret _ C hq nd_Md_isRow_9 rfl
abbrev nr_Md_find : Room := { frames := 0, cells := 0, slots := 0, locals := 0 }
theorem co_Md_find (m : MdS) (a1 : Int32) (x : Int32 × MdS) (h : mo_Md_find m a1 = some x) : nj_Con ny_Md_find nb_Md_find 2 (some .int) nr_Md_find (rp_Md m) [.ref 0, .int a1] (some (.int (x.1))) (rp_Md (x.2)) := by
  rw [mo_Md_find] at h
  refine nj_con (by decide) rfl 0 rfl (fun G ad C hq => ?_)
  have C : nj_C G nb_Md_find 2 "NobodyJoinsModel" nr_Md_find := C
  show nj_V G ad 0 0 0 [some (.ref 0), some (.int a1)] [] (rp_Md m)
  refine vr_al C nd_Md_find_0 rfl ?_
  refine vr_il C nd_Md_find_1 rfl ?_
  refine vr_puti (hp' := (rp_Md (ms_finding m a1))) C nd_Md_find_2 rfl fl_Md_51 (at_Md_0 m) rfl (st_Md_0_10 m a1) ?_
  refine vr_al C nd_Md_find_5 rfl ?_
  refine vr_get (v := .ref 7) C nd_Md_find_6 rfl fl_Md_32 (at_Md_0 (ms_finding m a1)) rfl ?_
  refine vr_il C nd_Md_find_9 rfl ?_
  refine vr_dup2 C nd_Md_find_10 rfl rfl rfl ?_
  obtain ⟨hN1, h⟩ := no_i h
  refine vr_ialk (j := (nj_n a1)) (f := (md_findings m)) C nd_Md_find_11 rfl (at_Md_7 (ms_finding m a1)) hN1 rfl ?_
  refine vr_ic C nd_Md_find_12 ?_
  refine vr_iadd C nd_Md_find_13 rfl ?_
  obtain ⟨hN2, h⟩ := no_i h
  refine vr_iask (j := (nj_n a1)) (f := (md_findings m)) (hp' := (rp_Md (ms_findings (ms_finding m a1) (upd (md_findings m) (nj_n a1) (((md_findings m) (nj_n a1)) + (1 : Int32)))))) C nd_Md_find_14 rfl (at_Md_7 (ms_finding m a1)) hN2 rfl (st_Md_7 (ms_finding m a1) (upd (md_findings m) (nj_n a1) (((md_findings m) (nj_n a1)) + (1 : Int32)))) ?_
  refine vr_ic C nd_Md_find_15 ?_
  have h := no_s h
  subst h
  exact vr_iret C hq nd_Md_find_17 rfl
abbrev nr_Md_makeRow : Room := { frames := 0, cells := 0, slots := 0, locals := 0 }
theorem lw_Md_makeRow_9 {G : nj_G} {ad : Nat → Nat} (C : nj_C G nb_Md_makeRow 4 "NobodyJoinsModel" nr_Md_makeRow) (f1 : Int32) : ∀ (n : Nat) (m : MdS) (v3 : Int32) (x : MdS), lo_Md_makeRow_9 f1 n m v3 = some x → nj_V G ad 0 0 33 [none, none, none, none] [] (rp_Md x) → nj_V G ad 0 0 9 [some (.ref 0), some (.int f1), none, some (.int v3)] [] (rp_Md m) := by
  intro n
  induction n with
  | zero => intro m v3 x h; rw [lo_Md_makeRow_9] at h; cases h
  | succ n ih =>
    intro m v3 x h hk
    rw [lo_Md_makeRow_9] at h
    refine vr_il C nd_Md_makeRow_9 rfl ?_
    refine vr_ic C nd_Md_makeRow_10 ?_
    refine vr_cm_ge C nd_Md_makeRow_12 (fun hc => ?_) (fun hc => ?_)
    · have h := no_t hc h
      have h := no_s h
      subst h
      exact vr_wk [0, 1, 3] rfl hk
    · have h := no_f hc h
      refine vr_al C nd_Md_makeRow_15 rfl ?_
      refine vr_get (v := .ref 4) C nd_Md_makeRow_16 rfl fl_Md_19 (at_Md_0 m) rfl ?_
      refine vr_ic C nd_Md_makeRow_19 ?_
      refine vr_il C nd_Md_makeRow_21 rfl ?_
      refine vr_imul C nd_Md_makeRow_22 rfl ?_
      refine vr_il C nd_Md_makeRow_23 rfl ?_
      refine vr_iadd C nd_Md_makeRow_24 rfl ?_
      refine vr_ic C nd_Md_makeRow_25 ?_
      obtain ⟨hN2, h⟩ := no_i h
      refine vr_iask (j := (nj_n (((40 : Int32) * f1) + v3))) (f := (md_items m)) (hp' := (rp_Md (ms_items m (upd (md_items m) (nj_n (((40 : Int32) * f1) + v3)) (0 : Int32))))) C nd_Md_makeRow_26 rfl (at_Md_4 m) hN2 rfl (st_Md_4 m (upd (md_items m) (nj_n (((40 : Int32) * f1) + v3)) (0 : Int32))) ?_
      refine vr_inc (v := (v3 + (1 : Int32))) (ls' := [some (.ref 0), some (.int f1), none, some (.int (v3 + (1 : Int32)))]) C nd_Md_makeRow_27 rfl rfl rfl rfl rfl ?_
      refine vr_go C nd_Md_makeRow_30 ?_
      exact (ih _ _ _ h hk)
theorem co_Md_makeRow (m : MdS) (a1 : Int32) (a2 : Int32) (x : MdS) (h : mo_Md_makeRow m a1 a2 = some x) : nj_Con ny_Md_makeRow nb_Md_makeRow 4 none nr_Md_makeRow (rp_Md m) [.ref 0, .int a1, .int a2] none (rp_Md x) := by
  rw [mo_Md_makeRow] at h
  refine nj_con (by decide) rfl 1 rfl (fun G ad C hq => ?_)
  have C : nj_C G nb_Md_makeRow 4 "NobodyJoinsModel" nr_Md_makeRow := C
  show nj_V G ad 0 0 0 [some (.ref 0), some (.int a1), some (.int a2), none] [] (rp_Md m)
  refine vr_al C nd_Md_makeRow_0 rfl ?_
  refine vr_get (v := .ref 3) C nd_Md_makeRow_1 rfl fl_Md_16 (at_Md_0 m) rfl ?_
  refine vr_il C nd_Md_makeRow_4 rfl ?_
  refine vr_il C nd_Md_makeRow_5 rfl ?_
  obtain ⟨hN1, h⟩ := no_i h
  refine vr_iask (j := (nj_n a1)) (f := (md_sizes m)) (hp' := (rp_Md (ms_sizes m (upd (md_sizes m) (nj_n a1) a2)))) C nd_Md_makeRow_6 rfl (at_Md_3 m) hN1 rfl (st_Md_3 m (upd (md_sizes m) (nj_n a1) a2)) ?_
  refine vr_ic C nd_Md_makeRow_7 ?_
  refine vr_is (ls' := [some (.ref 0), some (.int a1), some (.int a2), some (.int (0 : Int32))]) C nd_Md_makeRow_8 rfl rfl ?_
  refine vr_wk (ls' := [some (.ref 0), some (.int a1), none, some (.int (0 : Int32))]) [2] rfl ?_
  obtain ⟨x3, hX4, h⟩ := no_b h
  refine lw_Md_makeRow_9 C a1 nj_fu _ _ x3 hX4 ?_
  have h := no_s h
  subst h
  exact vr_vret C hq nd_Md_makeRow_33 rfl
abbrev nr_Md_row : Room := { frames := 2, cells := 0, slots := 0, locals := 45 }
theorem co_Md_row (m : MdS) (a1 : Int32) (a2 : Int32) (x : Int32 × MdS) (h : mo_Md_row m a1 a2 = some x) : nj_Con ny_Md_row nb_Md_row 3 (some .int) nr_Md_row (rp_Md m) [.ref 0, .int a1, .int a2] (some (.int (x.1))) (rp_Md (x.2)) := by
  rw [mo_Md_row] at h
  refine nj_con (by decide) rfl 0 rfl (fun G ad C hq => ?_)
  have C : nj_C G nb_Md_row 3 "NobodyJoinsModel" nr_Md_row := C
  show nj_V G ad 0 0 0 [some (.ref 0), some (.int a1), some (.int a2)] [] (rp_Md m)
  refine vr_il C nd_Md_row_0 rfl ?_
  obtain ⟨w1, hV2, h⟩ := no_b h
  refine vr_cSip [] [.int a1] [] C nd_Md_row_1 rfl ml_Md_66 my_Md_isRow (co_Md_isRow a1 w1 hV2) (em_E _) rfl rfl ⟨rfl, rfl, rfl, rfl⟩ (Nat.zero_le _) (Nat.zero_le _) rfl ?_
  refine vr_ifb_eq C nd_Md_row_4 (fun hc => ?_) (fun hc => ?_)
  · have h := no_bf hc h
    refine vr_ic C nd_Md_row_13 ?_
    have h := no_s h
    subst h
    exact vr_iret C hq nd_Md_row_14 rfl
  · have h := no_bt hc h
    refine vr_il C nd_Md_row_7 rfl ?_
    refine vr_ic C nd_Md_row_8 ?_
    refine vr_cm_le C nd_Md_row_10 (fun hc => ?_) (fun hc => ?_)
    · have h := no_t hc h
      refine vr_il C nd_Md_row_15 rfl ?_
      refine vr_if_ge C nd_Md_row_16 (fun hc => ?_) (fun hc => ?_)
      · have h := no_t hc h
        refine vr_al C nd_Md_row_25 rfl ?_
        refine vr_il C nd_Md_row_26 rfl ?_
        refine vr_il C nd_Md_row_27 rfl ?_
        obtain ⟨w3, hV4, h⟩ := no_b h
        refine vr_sVv (hp' := (rp_Md w3)) [.int a1, .int a2] [] C nd_Md_row_28 rfl ml_Md_74 my_Md_makeRow (co_Md_makeRow m a1 a2 w3 hV4) ⟨_, _, _, rfl, rfl, rfl⟩ rfl rfl ⟨rfl, rfl, rfl, rfl⟩ (Nat.zero_le _) (Nat.zero_le _) rfl ?_
        refine vr_il C nd_Md_row_31 rfl ?_
        have h := no_s h
        subst h
        exact vr_iret C hq nd_Md_row_32 rfl
      · have h := no_f hc h
        refine vr_al C nd_Md_row_19 rfl ?_
        refine vr_ic C nd_Md_row_20 ?_
        obtain ⟨w5, hV6, h⟩ := no_b h
        refine vr_sVi (hp' := (rp_Md (w5.2))) [.int (5 : Int32)] [] C nd_Md_row_21 rfl ml_Md_70 my_Md_find (co_Md_find m (5 : Int32) w5 hV6) ⟨_, _, _, rfl, rfl, rfl⟩ rfl rfl ⟨rfl, rfl, rfl, rfl⟩ (Nat.zero_le _) (Nat.zero_le _) rfl ?_
        have h := no_s h
        subst h
        exact vr_iret C hq nd_Md_row_24 rfl
    · have h := no_f hc h
      refine vr_ic C nd_Md_row_13 ?_
      have h := no_s h
      subst h
      exact vr_iret C hq nd_Md_row_14 rfl
abbrev nr_Md_refused : Room := { frames := 2, cells := 0, slots := 0, locals := 45 }
theorem co_Md_refused (m : MdS) (a1 : Int32) (a2 : Int32) (x : Int32 × MdS) (h : mo_Md_refused m a1 a2 = some x) : nj_Con ny_Md_refused nb_Md_refused 3 (some .int) nr_Md_refused (rp_Md m) [.ref 0, .int a1, .int a2] (some (.int (x.1))) (rp_Md (x.2)) := by
  rw [mo_Md_refused] at h
  refine nj_con (by decide) rfl 0 rfl (fun G ad C hq => ?_)
  have C : nj_C G nb_Md_refused 3 "NobodyJoinsModel" nr_Md_refused := C
  show nj_V G ad 0 0 0 [some (.ref 0), some (.int a1), some (.int a2)] [] (rp_Md m)
  refine vr_il C nd_Md_refused_0 rfl ?_
  obtain ⟨w1, hV2, h⟩ := no_b h
  refine vr_cSip [] [.int a1] [] C nd_Md_refused_1 rfl ml_Md_66 my_Md_isRow (co_Md_isRow a1 w1 hV2) (em_E _) rfl rfl ⟨rfl, rfl, rfl, rfl⟩ (Nat.zero_le _) (Nat.zero_le _) rfl ?_
  refine vr_ifb_ne C nd_Md_refused_4 (fun hc => ?_) (fun hc => ?_)
  · have h := no_bt hc h
    refine vr_al C nd_Md_refused_11 rfl ?_
    refine vr_get (v := .ref 3) C nd_Md_refused_12 rfl fl_Md_16 (at_Md_0 m) rfl ?_
    refine vr_il C nd_Md_refused_15 rfl ?_
    obtain ⟨hN3, h⟩ := no_i h
    refine vr_ialk (j := (nj_n a1)) (f := (md_sizes m)) C nd_Md_refused_16 rfl (at_Md_3 m) hN3 rfl ?_
    refine vr_if_ge C nd_Md_refused_17 (fun hc => ?_) (fun hc => ?_)
    · have h := no_t hc h
      refine vr_il C nd_Md_refused_28 rfl ?_
      refine vr_i2l C nd_Md_refused_29 rfl ?_
      refine vr_lc (v := (0 : Int64)) C nd_Md_refused_30 rfl (by decide) ?_
      refine vr_al C nd_Md_refused_31 rfl ?_
      refine vr_get (v := .ref 3) C nd_Md_refused_32 rfl fl_Md_16 (at_Md_0 m) rfl ?_
      refine vr_il C nd_Md_refused_35 rfl ?_
      obtain ⟨hN4, h⟩ := no_i h
      refine vr_ialk (j := (nj_n a1)) (f := (md_sizes m)) C nd_Md_refused_36 rfl (at_Md_3 m) hN4 rfl ?_
      refine vr_ic C nd_Md_refused_37 ?_
      refine vr_isub C nd_Md_refused_38 rfl ?_
      refine vr_i2l C nd_Md_refused_39 rfl ?_
      obtain ⟨w5, hV6, h⟩ := no_b h
      refine vr_cSip [] [.long (Int32.toInt64 a2), .long (0 : Int64), .long (Int32.toInt64 (((md_sizes m) (nj_n a1)) - (1 : Int32)))] [] C nd_Md_refused_40 rfl ml_Md_60 my_Md_in (co_Md_in (Int32.toInt64 a2) (0 : Int64) (Int32.toInt64 (((md_sizes m) (nj_n a1)) - (1 : Int32))) w5 hV6) (em_E _) rfl rfl ⟨rfl, rfl, rfl, rfl⟩ (Nat.zero_le _) (Nat.zero_le _) rfl ?_
      refine vr_ifb_eq C nd_Md_refused_43 (fun hc => ?_) (fun hc => ?_)
      · have h := no_bf hc h
        refine vr_al C nd_Md_refused_50 rfl ?_
        refine vr_ic C nd_Md_refused_51 ?_
        obtain ⟨w7, hV8, h⟩ := no_b h
        refine vr_sVi (hp' := (rp_Md (w7.2))) [.int (2 : Int32)] [] C nd_Md_refused_52 rfl ml_Md_70 my_Md_find (co_Md_find m (2 : Int32) w7 hV8) ⟨_, _, _, rfl, rfl, rfl⟩ rfl rfl ⟨rfl, rfl, rfl, rfl⟩ (Nat.zero_le _) (Nat.zero_le _) rfl ?_
        have h := no_s h
        subst h
        exact vr_iret C hq nd_Md_refused_55 rfl
      · have h := no_bt hc h
        refine vr_ic C nd_Md_refused_46 ?_
        refine vr_go C nd_Md_refused_47 ?_
        have h := no_s h
        subst h
        exact vr_iret C hq nd_Md_refused_55 rfl
    · have h := no_f hc h
      refine vr_al C nd_Md_refused_20 rfl ?_
      refine vr_ic C nd_Md_refused_21 ?_
      obtain ⟨w9, hV10, h⟩ := no_b h
      refine vr_sVi (hp' := (rp_Md (w9.2))) [.int (1 : Int32)] [] C nd_Md_refused_22 rfl ml_Md_70 my_Md_find (co_Md_find m (1 : Int32) w9 hV10) ⟨_, _, _, rfl, rfl, rfl⟩ rfl rfl ⟨rfl, rfl, rfl, rfl⟩ (Nat.zero_le _) (Nat.zero_le _) rfl ?_
      refine vr_go C nd_Md_refused_25 ?_
      have h := no_s h
      subst h
      exact vr_iret C hq nd_Md_refused_55 rfl
  · have h := no_bf hc h
    refine vr_ic C nd_Md_refused_7 ?_
    refine vr_go C nd_Md_refused_8 ?_
    have h := no_s h
    subst h
    exact vr_iret C hq nd_Md_refused_55 rfl
abbrev nr_Md_tell : Room := { frames := 0, cells := 0, slots := 0, locals := 0 }
theorem co_Md_tell (m : MdS) (a1 : Int32) (x : Int32 × MdS) (h : mo_Md_tell m a1 = some x) : nj_Con ny_Md_tell nb_Md_tell 2 (some .int) nr_Md_tell (rp_Md m) [.ref 0, .int a1] (some (.int (x.1))) (rp_Md (x.2)) := by
  rw [mo_Md_tell] at h
  refine nj_con (by decide) rfl 0 rfl (fun G ad C hq => ?_)
  have C : nj_C G nb_Md_tell 2 "NobodyJoinsModel" nr_Md_tell := C
  show nj_V G ad 0 0 0 [some (.ref 0), some (.int a1)] [] (rp_Md m)
  refine vr_al C nd_Md_tell_0 rfl ?_
  refine vr_il C nd_Md_tell_1 rfl ?_
  refine vr_puti (hp' := (rp_Md (ms_asked m a1))) C nd_Md_tell_2 rfl fl_Md_55 (at_Md_0 m) rfl (st_Md_0_7 m a1) ?_
  refine vr_ic C nd_Md_tell_5 ?_
  have h := no_s h
  subst h
  exact vr_iret C hq nd_Md_tell_6 rfl
abbrev nr_Md_lay : Room := { frames := 3, cells := 0, slots := 0, locals := 67 }
theorem co_Md_lay (m : MdS) (a1 : Int32) (a2 : Int32) (a3 : Int32) (x : Int32 × MdS) (h : mo_Md_lay m a1 a2 a3 = some x) : nj_Con ny_Md_lay nb_Md_lay 6 (some .int) nr_Md_lay (rp_Md m) [.ref 0, .int a1, .int a2, .int a3] (some (.int (x.1))) (rp_Md (x.2)) := by
  rw [mo_Md_lay] at h
  refine nj_con (by decide) rfl 2 rfl (fun G ad C hq => ?_)
  have C : nj_C G nb_Md_lay 6 "NobodyJoinsModel" nr_Md_lay := C
  show nj_V G ad 0 0 0 [some (.ref 0), some (.int a1), some (.int a2), some (.int a3), none, none] [] (rp_Md m)
  refine vr_al C nd_Md_lay_0 rfl ?_
  refine vr_il C nd_Md_lay_1 rfl ?_
  refine vr_il C nd_Md_lay_2 rfl ?_
  obtain ⟨w1, hV2, h⟩ := no_b h
  refine vr_sVi (hp' := (rp_Md (w1.2))) [.int a1, .int a2] [] C nd_Md_lay_3 rfl ml_Md_78 my_Md_refused (co_Md_refused m a1 a2 w1 hV2) ⟨_, _, _, rfl, rfl, rfl⟩ rfl rfl ⟨rfl, rfl, rfl, rfl⟩ (Nat.zero_le _) (Nat.zero_le _) rfl ?_
  refine vr_is (ls' := [some (.ref 0), some (.int a1), some (.int a2), some (.int a3), some (.int (w1.1)), none]) C nd_Md_lay_6 rfl rfl ?_
  refine vr_il C nd_Md_lay_8 rfl ?_
  refine vr_if_eq C nd_Md_lay_10 (fun hc => ?_) (fun hc => ?_)
  · have h := no_t hc h
    refine vr_al C nd_Md_lay_16 rfl ?_
    refine vr_get (v := .ref 4) C nd_Md_lay_17 rfl fl_Md_19 (at_Md_0 (w1.2)) rfl ?_
    refine vr_ic C nd_Md_lay_20 ?_
    refine vr_il C nd_Md_lay_22 rfl ?_
    refine vr_imul C nd_Md_lay_23 rfl ?_
    refine vr_il C nd_Md_lay_24 rfl ?_
    refine vr_iadd C nd_Md_lay_25 rfl ?_
    obtain ⟨hN3, h⟩ := no_i h
    refine vr_ialk (j := (nj_n (((40 : Int32) * a1) + a2))) (f := (md_items (w1.2))) C nd_Md_lay_26 rfl (at_Md_4 (w1.2)) hN3 rfl ?_
    refine vr_is (ls' := [some (.ref 0), some (.int a1), some (.int a2), some (.int a3), some (.int (w1.1)), some (.int ((md_items (w1.2)) (nj_n (((40 : Int32) * a1) + a2))))]) C nd_Md_lay_27 rfl rfl ?_
    refine vr_al C nd_Md_lay_29 rfl ?_
    refine vr_get (v := .ref 4) C nd_Md_lay_30 rfl fl_Md_19 (at_Md_0 (w1.2)) rfl ?_
    refine vr_ic C nd_Md_lay_33 ?_
    refine vr_il C nd_Md_lay_35 rfl ?_
    refine vr_imul C nd_Md_lay_36 rfl ?_
    refine vr_il C nd_Md_lay_37 rfl ?_
    refine vr_iadd C nd_Md_lay_38 rfl ?_
    refine vr_il C nd_Md_lay_39 rfl ?_
    obtain ⟨hN4, h⟩ := no_i h
    refine vr_iask (j := (nj_n (((40 : Int32) * a1) + a2))) (f := (md_items (w1.2))) (hp' := (rp_Md (ms_items (w1.2) (upd (md_items (w1.2)) (nj_n (((40 : Int32) * a1) + a2)) a3)))) C nd_Md_lay_40 rfl (at_Md_4 (w1.2)) hN4 rfl (st_Md_4 (w1.2) (upd (md_items (w1.2)) (nj_n (((40 : Int32) * a1) + a2)) a3)) ?_
    refine vr_al C nd_Md_lay_41 rfl ?_
    refine vr_il C nd_Md_lay_42 rfl ?_
    obtain ⟨w5, hV6, h⟩ := no_b h
    refine vr_sVi (hp' := (rp_Md (w5.2))) [.int ((md_items (w1.2)) (nj_n (((40 : Int32) * a1) + a2)))] [] C nd_Md_lay_44 rfl ml_Md_82 my_Md_tell (co_Md_tell (ms_items (w1.2) (upd (md_items (w1.2)) (nj_n (((40 : Int32) * a1) + a2)) a3)) ((md_items (w1.2)) (nj_n (((40 : Int32) * a1) + a2))) w5 hV6) ⟨_, _, _, rfl, rfl, rfl⟩ rfl rfl ⟨rfl, rfl, rfl, rfl⟩ (Nat.zero_le _) (Nat.zero_le _) rfl ?_
    have h := no_s h
    subst h
    exact vr_iret C hq nd_Md_lay_47 rfl
  · have h := no_f hc h
    refine vr_il C nd_Md_lay_13 rfl ?_
    have h := no_s h
    subst h
    exact vr_iret C hq nd_Md_lay_15 rfl
abbrev nr_Md_at : Room := { frames := 3, cells := 0, slots := 0, locals := 67 }
theorem co_Md_at (m : MdS) (a1 : Int32) (a2 : Int32) (x : Int32 × MdS) (h : mo_Md_at m a1 a2 = some x) : nj_Con ny_Md_at nb_Md_at 4 (some .int) nr_Md_at (rp_Md m) [.ref 0, .int a1, .int a2] (some (.int (x.1))) (rp_Md (x.2)) := by
  rw [mo_Md_at] at h
  refine nj_con (by decide) rfl 1 rfl (fun G ad C hq => ?_)
  have C : nj_C G nb_Md_at 4 "NobodyJoinsModel" nr_Md_at := C
  show nj_V G ad 0 0 0 [some (.ref 0), some (.int a1), some (.int a2), none] [] (rp_Md m)
  refine vr_al C nd_Md_at_0 rfl ?_
  refine vr_il C nd_Md_at_1 rfl ?_
  refine vr_il C nd_Md_at_2 rfl ?_
  obtain ⟨w1, hV2, h⟩ := no_b h
  refine vr_sVi (hp' := (rp_Md (w1.2))) [.int a1, .int a2] [] C nd_Md_at_3 rfl ml_Md_78 my_Md_refused (co_Md_refused m a1 a2 w1 hV2) ⟨_, _, _, rfl, rfl, rfl⟩ rfl rfl ⟨rfl, rfl, rfl, rfl⟩ (Nat.zero_le _) (Nat.zero_le _) rfl ?_
  refine vr_is (ls' := [some (.ref 0), some (.int a1), some (.int a2), some (.int (w1.1))]) C nd_Md_at_6 rfl rfl ?_
  refine vr_il C nd_Md_at_7 rfl ?_
  refine vr_if_eq C nd_Md_at_8 (fun hc => ?_) (fun hc => ?_)
  · have h := no_t hc h
    refine vr_al C nd_Md_at_15 rfl ?_
    refine vr_al C nd_Md_at_16 rfl ?_
    refine vr_get (v := .ref 4) C nd_Md_at_17 rfl fl_Md_19 (at_Md_0 (w1.2)) rfl ?_
    refine vr_ic C nd_Md_at_20 ?_
    refine vr_il C nd_Md_at_22 rfl ?_
    refine vr_imul C nd_Md_at_23 rfl ?_
    refine vr_il C nd_Md_at_24 rfl ?_
    refine vr_iadd C nd_Md_at_25 rfl ?_
    obtain ⟨hN3, h⟩ := no_i h
    refine vr_ialk (j := (nj_n (((40 : Int32) * a1) + a2))) (f := (md_items (w1.2))) C nd_Md_at_26 rfl (at_Md_4 (w1.2)) hN3 rfl ?_
    obtain ⟨w4, hV5, h⟩ := no_b h
    refine vr_sVi (hp' := (rp_Md (w4.2))) [.int ((md_items (w1.2)) (nj_n (((40 : Int32) * a1) + a2)))] [] C nd_Md_at_27 rfl ml_Md_82 my_Md_tell (co_Md_tell (w1.2) ((md_items (w1.2)) (nj_n (((40 : Int32) * a1) + a2))) w4 hV5) ⟨_, _, _, rfl, rfl, rfl⟩ rfl rfl ⟨rfl, rfl, rfl, rfl⟩ (Nat.zero_le _) (Nat.zero_le _) rfl ?_
    have h := no_s h
    subst h
    exact vr_iret C hq nd_Md_at_30 rfl
  · have h := no_f hc h
    refine vr_il C nd_Md_at_11 rfl ?_
    refine vr_go C nd_Md_at_12 ?_
    have h := no_s h
    subst h
    exact vr_iret C hq nd_Md_at_30 rfl
abbrev nr_Md_tear : Room := { frames := 2, cells := 0, slots := 0, locals := 45 }
theorem co_Md_tear (m : MdS) (a1 : Int32) (x : Int32 × MdS) (h : mo_Md_tear m a1 = some x) : nj_Con ny_Md_tear nb_Md_tear 2 (some .int) nr_Md_tear (rp_Md m) [.ref 0, .int a1] (some (.int (x.1))) (rp_Md (x.2)) := by
  rw [mo_Md_tear] at h
  refine nj_con (by decide) rfl 0 rfl (fun G ad C hq => ?_)
  have C : nj_C G nb_Md_tear 2 "NobodyJoinsModel" nr_Md_tear := C
  show nj_V G ad 0 0 0 [some (.ref 0), some (.int a1)] [] (rp_Md m)
  refine vr_il C nd_Md_tear_0 rfl ?_
  obtain ⟨w1, hV2, h⟩ := no_b h
  refine vr_cSip [] [.int a1] [] C nd_Md_tear_1 rfl ml_Md_66 my_Md_isRow (co_Md_isRow a1 w1 hV2) (em_E _) rfl rfl ⟨rfl, rfl, rfl, rfl⟩ (Nat.zero_le _) (Nat.zero_le _) rfl ?_
  refine vr_ifb_ne C nd_Md_tear_4 (fun hc => ?_) (fun hc => ?_)
  · have h := no_bt hc h
    refine vr_al C nd_Md_tear_9 rfl ?_
    refine vr_get (v := .ref 3) C nd_Md_tear_10 rfl fl_Md_16 (at_Md_0 m) rfl ?_
    refine vr_il C nd_Md_tear_13 rfl ?_
    obtain ⟨hN3, h⟩ := no_i h
    refine vr_ialk (j := (nj_n a1)) (f := (md_sizes m)) C nd_Md_tear_14 rfl (at_Md_3 m) hN3 rfl ?_
    refine vr_if_ge C nd_Md_tear_15 (fun hc => ?_) (fun hc => ?_)
    · have h := no_t hc h
      refine vr_al C nd_Md_tear_24 rfl ?_
      refine vr_get (v := .ref 3) C nd_Md_tear_25 rfl fl_Md_16 (at_Md_0 m) rfl ?_
      refine vr_il C nd_Md_tear_28 rfl ?_
      refine vr_ic C nd_Md_tear_29 ?_
      obtain ⟨hN4, h⟩ := no_i h
      refine vr_iask (j := (nj_n a1)) (f := (md_sizes m)) (hp' := (rp_Md (ms_sizes m (upd (md_sizes m) (nj_n a1) (-1 : Int32))))) C nd_Md_tear_30 rfl (at_Md_3 m) hN4 rfl (st_Md_3 m (upd (md_sizes m) (nj_n a1) (-1 : Int32))) ?_
      refine vr_ic C nd_Md_tear_31 ?_
      have h := no_s h
      subst h
      exact vr_iret C hq nd_Md_tear_32 rfl
    · have h := no_f hc h
      refine vr_al C nd_Md_tear_18 rfl ?_
      refine vr_ic C nd_Md_tear_19 ?_
      obtain ⟨w5, hV6, h⟩ := no_b h
      refine vr_sVi (hp' := (rp_Md (w5.2))) [.int (1 : Int32)] [] C nd_Md_tear_20 rfl ml_Md_70 my_Md_find (co_Md_find m (1 : Int32) w5 hV6) ⟨_, _, _, rfl, rfl, rfl⟩ rfl rfl ⟨rfl, rfl, rfl, rfl⟩ (Nat.zero_le _) (Nat.zero_le _) rfl ?_
      have h := no_s h
      subst h
      exact vr_iret C hq nd_Md_tear_23 rfl
  · have h := no_bf hc h
    refine vr_ic C nd_Md_tear_7 ?_
    have h := no_s h
    subst h
    exact vr_iret C hq nd_Md_tear_8 rfl
abbrev nr_Md_isSpan : Room := { frames := 0, cells := 0, slots := 0, locals := 0 }
theorem co_Md_isSpan (m : MdS) (a1 : Int32) (a2 : Int32) (a3 : Int32) (x : Bool) (h : mo_Md_isSpan m a1 a2 a3 = some x) : nj_Con ny_Md_isSpan nb_Md_isSpan 4 (some .boolean) nr_Md_isSpan (rp_Md m) [.ref 0, .int a1, .int a2, .int a3] (some (.int (nj_b x))) (rp_Md m) := by
  rw [mo_Md_isSpan] at h
  refine nj_con (by decide) rfl 0 rfl (fun G ad C hq => ?_)
  have C : nj_C G nb_Md_isSpan 4 "NobodyJoinsModel" nr_Md_isSpan := C
  show nj_V G ad 0 0 0 [some (.ref 0), some (.int a1), some (.int a2), some (.int a3)] [] (rp_Md m)
  refine vr_il C nd_Md_isSpan_0 rfl ?_
  refine vr_if_lt C nd_Md_isSpan_1 (fun hc => ?_) (fun hc => ?_)
  · have h := no_t hc h
    refine vr_ic C nd_Md_isSpan_24 ?_
    have h := no_s h
    subst h
    exact vr_zret false C hq nd_Md_isSpan_25 rfl
  · have h := no_f hc h
    refine vr_il C nd_Md_isSpan_4 rfl ?_
    refine vr_i2l C nd_Md_isSpan_5 rfl ?_
    refine vr_il C nd_Md_isSpan_6 rfl ?_
    refine vr_i2l C nd_Md_isSpan_7 rfl ?_
    refine vr_ladd C nd_Md_isSpan_8 rfl ?_
    refine vr_al C nd_Md_isSpan_9 rfl ?_
    refine vr_get (v := .ref 3) C nd_Md_isSpan_10 rfl fl_Md_16 (at_Md_0 m) rfl ?_
    refine vr_il C nd_Md_isSpan_13 rfl ?_
    obtain ⟨hN1, h⟩ := no_i h
    refine vr_ialk (j := (nj_n a1)) (f := (md_sizes m)) C nd_Md_isSpan_14 rfl (at_Md_3 m) hN1 rfl ?_
    refine vr_i2l C nd_Md_isSpan_15 rfl ?_
    refine vr_lif_gt C nd_Md_isSpan_16 rfl nd_Md_isSpan_17 (fun hc => ?_) (fun hc => ?_)
    · have h := no_t hc h
      refine vr_ic C nd_Md_isSpan_24 ?_
      have h := no_s h
      subst h
      exact vr_zret false C hq nd_Md_isSpan_25 rfl
    · have h := no_f hc h
      refine vr_ic C nd_Md_isSpan_20 ?_
      refine vr_go C nd_Md_isSpan_21 ?_
      have h := no_s h
      subst h
      exact vr_zret true C hq nd_Md_isSpan_25 rfl
abbrev nr_Md_copy : Room := { frames := 2, cells := 0, slots := 0, locals := 45 }
theorem lw_Md_copy_96 {G : nj_G} {ad : Nat → Nat} (C : nj_C G nb_Md_copy 9 "NobodyJoinsModel" nr_Md_copy) (f1 : Int32) (f2 : Int32) (f3 : Int32) (f4 : Int32) (f5 : Int32) (f6 : Int32) : ∀ (n : Nat) (m : MdS) (v7 : Int32) (x : MdS), lo_Md_copy_96 f1 f2 f3 f4 f5 f6 n m v7 = some x → nj_V G ad 0 0 157 [none, none, none, none, none, none, none, none, none] [] (rp_Md x) → nj_V G ad 0 0 96 [some (.ref 0), some (.int f1), some (.int f2), some (.int f3), some (.int f4), some (.int f5), some (.int f6), some (.int v7), none] [] (rp_Md m) := by
  intro n
  induction n with
  | zero => intro m v7 x h; rw [lo_Md_copy_96] at h; cases h
  | succ n ih =>
    intro m v7 x h hk
    rw [lo_Md_copy_96] at h
    refine vr_il C nd_Md_copy_96 rfl ?_
    refine vr_il C nd_Md_copy_98 rfl ?_
    refine vr_cm_ge C nd_Md_copy_100 (fun hc => ?_) (fun hc => ?_)
    · have h := no_t hc h
      have h := no_s h
      subst h
      exact vr_wk [0, 1, 2, 3, 4, 5, 6, 7] rfl hk
    · have h := no_f hc h
      refine vr_il C nd_Md_copy_103 rfl ?_
      obtain ⟨p16, hP19, h⟩ := no_b h
      have hj : nj_V G ad 0 0 120 [some (.ref 0), some (.int f1), some (.int f2), some (.int f3), some (.int f4), some (.int f5), some (.int f6), some (.int v7), none] [.int p16] (rp_Md m) := by
        refine vr_is (ls' := [some (.ref 0), some (.int f1), some (.int f2), some (.int f3), some (.int f4), some (.int f5), some (.int f6), some (.int v7), some (.int p16)]) C nd_Md_copy_120 rfl rfl ?_
        refine vr_al C nd_Md_copy_122 rfl ?_
        refine vr_get (v := .ref 4) C nd_Md_copy_123 rfl fl_Md_19 (at_Md_0 m) rfl ?_
        refine vr_ic C nd_Md_copy_126 ?_
        refine vr_il C nd_Md_copy_128 rfl ?_
        refine vr_imul C nd_Md_copy_129 rfl ?_
        refine vr_il C nd_Md_copy_130 rfl ?_
        refine vr_iadd C nd_Md_copy_132 rfl ?_
        refine vr_il C nd_Md_copy_133 rfl ?_
        refine vr_iadd C nd_Md_copy_135 rfl ?_
        refine vr_al C nd_Md_copy_136 rfl ?_
        refine vr_get (v := .ref 4) C nd_Md_copy_137 rfl fl_Md_19 (at_Md_0 m) rfl ?_
        refine vr_ic C nd_Md_copy_140 ?_
        refine vr_il C nd_Md_copy_142 rfl ?_
        refine vr_imul C nd_Md_copy_143 rfl ?_
        refine vr_il C nd_Md_copy_144 rfl ?_
        refine vr_iadd C nd_Md_copy_145 rfl ?_
        refine vr_il C nd_Md_copy_146 rfl ?_
        refine vr_iadd C nd_Md_copy_148 rfl ?_
        obtain ⟨hN17, h⟩ := no_i h
        refine vr_ialk (j := (nj_n ((((40 : Int32) * f1) + f2) + p16))) (f := (md_items m)) C nd_Md_copy_149 rfl (at_Md_4 m) hN17 rfl ?_
        obtain ⟨hN18, h⟩ := no_i h
        refine vr_iask (j := (nj_n ((((40 : Int32) * f3) + f4) + p16))) (f := (md_items m)) (hp' := (rp_Md (ms_items m (upd (md_items m) (nj_n ((((40 : Int32) * f3) + f4) + p16)) ((md_items m) (nj_n ((((40 : Int32) * f1) + f2) + p16))))))) C nd_Md_copy_150 rfl (at_Md_4 m) hN18 rfl (st_Md_4 m (upd (md_items m) (nj_n ((((40 : Int32) * f3) + f4) + p16)) ((md_items m) (nj_n ((((40 : Int32) * f1) + f2) + p16))))) ?_
        refine vr_inc (v := (v7 + (1 : Int32))) (ls' := [some (.ref 0), some (.int f1), some (.int f2), some (.int f3), some (.int f4), some (.int f5), some (.int f6), some (.int (v7 + (1 : Int32))), some (.int p16)]) C nd_Md_copy_151 rfl rfl rfl rfl rfl ?_
        refine vr_go C nd_Md_copy_154 ?_
        exact vr_wk [8] rfl (ih _ _ _ h hk)
      clear h
      have h := hP19
      clear hP19
      refine vr_if_eq C nd_Md_copy_105 (fun hc => ?_) (fun hc => ?_)
      · have h := no_t hc h
        refine vr_il C nd_Md_copy_118 rfl ?_
        have h := no_s h
        subst h
        exact hj
      · have h := no_f hc h
        refine vr_il C nd_Md_copy_108 rfl ?_
        refine vr_ic C nd_Md_copy_110 ?_
        refine vr_isub C nd_Md_copy_111 rfl ?_
        refine vr_il C nd_Md_copy_112 rfl ?_
        refine vr_isub C nd_Md_copy_114 rfl ?_
        refine vr_go C nd_Md_copy_115 ?_
        have h := no_s h
        subst h
        exact hj
theorem co_Md_copy (m : MdS) (a1 : Int32) (a2 : Int32) (a3 : Int32) (a4 : Int32) (a5 : Int32) (x : Int32 × MdS) (h : mo_Md_copy m a1 a2 a3 a4 a5 = some x) : nj_Con ny_Md_copy nb_Md_copy 9 (some .int) nr_Md_copy (rp_Md m) [.ref 0, .int a1, .int a2, .int a3, .int a4, .int a5] (some (.int (x.1))) (rp_Md (x.2)) := by
  rw [mo_Md_copy] at h
  refine nj_con (by decide) rfl 3 rfl (fun G ad C hq => ?_)
  have C : nj_C G nb_Md_copy 9 "NobodyJoinsModel" nr_Md_copy := C
  show nj_V G ad 0 0 0 [some (.ref 0), some (.int a1), some (.int a2), some (.int a3), some (.int a4), some (.int a5), none, none, none] [] (rp_Md m)
  refine vr_il C nd_Md_copy_0 rfl ?_
  obtain ⟨w1, hV2, h⟩ := no_b h
  refine vr_cSip [] [.int a1] [] C nd_Md_copy_1 rfl ml_Md_66 my_Md_isRow (co_Md_isRow a1 w1 hV2) (em_E _) rfl rfl ⟨rfl, rfl, rfl, rfl⟩ (Nat.zero_le _) (Nat.zero_le _) rfl ?_
  refine vr_ifb_eq C nd_Md_copy_4 (fun hc => ?_) (fun hc => ?_)
  · have h := no_bf hc h
    refine vr_ic C nd_Md_copy_14 ?_
    have h := no_s h
    subst h
    exact vr_iret C hq nd_Md_copy_15 rfl
  · have h := no_bt hc h
    refine vr_il C nd_Md_copy_7 rfl ?_
    obtain ⟨w3, hV4, h⟩ := no_b h
    refine vr_cSip [] [.int a3] [] C nd_Md_copy_8 rfl ml_Md_66 my_Md_isRow (co_Md_isRow a3 w3 hV4) (em_E _) rfl rfl ⟨rfl, rfl, rfl, rfl⟩ (Nat.zero_le _) (Nat.zero_le _) rfl ?_
    refine vr_ifb_ne C nd_Md_copy_11 (fun hc => ?_) (fun hc => ?_)
    · have h := no_bt hc h
      refine vr_il C nd_Md_copy_16 rfl ?_
      refine vr_if_ge C nd_Md_copy_18 (fun hc => ?_) (fun hc => ?_)
      · have h := no_t hc h
        refine vr_al C nd_Md_copy_27 rfl ?_
        refine vr_get (v := .ref 3) C nd_Md_copy_28 rfl fl_Md_16 (at_Md_0 m) rfl ?_
        refine vr_il C nd_Md_copy_31 rfl ?_
        obtain ⟨hN5, h⟩ := no_i h
        refine vr_ialk (j := (nj_n a1)) (f := (md_sizes m)) C nd_Md_copy_32 rfl (at_Md_3 m) hN5 rfl ?_
        refine vr_if_lt C nd_Md_copy_33 (fun hc => ?_) (fun hc => ?_)
        · have h := no_t hc h
          refine vr_al C nd_Md_copy_45 rfl ?_
          refine vr_ic C nd_Md_copy_46 ?_
          obtain ⟨w6, hV7, h⟩ := no_b h
          refine vr_sVi (hp' := (rp_Md (w6.2))) [.int (1 : Int32)] [] C nd_Md_copy_47 rfl ml_Md_70 my_Md_find (co_Md_find m (1 : Int32) w6 hV7) ⟨_, _, _, rfl, rfl, rfl⟩ rfl rfl ⟨rfl, rfl, rfl, rfl⟩ (Nat.zero_le _) (Nat.zero_le _) rfl ?_
          have h := no_s h
          subst h
          exact vr_iret C hq nd_Md_copy_50 rfl
        · have h := no_f hc h
          refine vr_al C nd_Md_copy_36 rfl ?_
          refine vr_get (v := .ref 3) C nd_Md_copy_37 rfl fl_Md_16 (at_Md_0 m) rfl ?_
          refine vr_il C nd_Md_copy_40 rfl ?_
          obtain ⟨hN8, h⟩ := no_i h
          refine vr_ialk (j := (nj_n a3)) (f := (md_sizes m)) C nd_Md_copy_41 rfl (at_Md_3 m) hN8 rfl ?_
          refine vr_if_ge C nd_Md_copy_42 (fun hc => ?_) (fun hc => ?_)
          · have h := no_t hc h
            refine vr_al C nd_Md_copy_51 rfl ?_
            refine vr_il C nd_Md_copy_52 rfl ?_
            refine vr_il C nd_Md_copy_53 rfl ?_
            refine vr_il C nd_Md_copy_54 rfl ?_
            obtain ⟨w9, hV10, h⟩ := no_b h
            refine vr_sVi (hp' := (rp_Md m)) [.int a1, .int a2, .int a5] [] C nd_Md_copy_56 rfl ml_Md_85 my_Md_isSpan (co_Md_isSpan m a1 a2 a5 w9 hV10) ⟨_, _, _, rfl, rfl, rfl⟩ rfl rfl ⟨rfl, rfl, rfl, rfl⟩ (Nat.zero_le _) (Nat.zero_le _) rfl ?_
            refine vr_ifb_eq C nd_Md_copy_59 (fun hc => ?_) (fun hc => ?_)
            · have h := no_bf hc h
              refine vr_al C nd_Md_copy_74 rfl ?_
              refine vr_ic C nd_Md_copy_75 ?_
              obtain ⟨w11, hV12, h⟩ := no_b h
              refine vr_sVi (hp' := (rp_Md (w11.2))) [.int (2 : Int32)] [] C nd_Md_copy_76 rfl ml_Md_70 my_Md_find (co_Md_find m (2 : Int32) w11 hV12) ⟨_, _, _, rfl, rfl, rfl⟩ rfl rfl ⟨rfl, rfl, rfl, rfl⟩ (Nat.zero_le _) (Nat.zero_le _) rfl ?_
              have h := no_s h
              subst h
              exact vr_iret C hq nd_Md_copy_79 rfl
            · have h := no_bt hc h
              refine vr_al C nd_Md_copy_62 rfl ?_
              refine vr_il C nd_Md_copy_63 rfl ?_
              refine vr_il C nd_Md_copy_64 rfl ?_
              refine vr_il C nd_Md_copy_66 rfl ?_
              obtain ⟨w13, hV14, h⟩ := no_b h
              refine vr_sVi (hp' := (rp_Md m)) [.int a3, .int a4, .int a5] [] C nd_Md_copy_68 rfl ml_Md_85 my_Md_isSpan (co_Md_isSpan m a3 a4 a5 w13 hV14) ⟨_, _, _, rfl, rfl, rfl⟩ rfl rfl ⟨rfl, rfl, rfl, rfl⟩ (Nat.zero_le _) (Nat.zero_le _) rfl ?_
              refine vr_ifb_ne C nd_Md_copy_71 (fun hc => ?_) (fun hc => ?_)
              · have h := no_bt hc h
                refine vr_il C nd_Md_copy_80 rfl ?_
                refine vr_il C nd_Md_copy_81 rfl ?_
                obtain ⟨p15, hP22, h⟩ := no_b h
                have hj : nj_V G ad 0 0 91 [some (.ref 0), some (.int a1), some (.int a2), some (.int a3), some (.int a4), some (.int a5), none, none, none] [.int p15] (rp_Md m) := by
                  refine vr_is (ls' := [some (.ref 0), some (.int a1), some (.int a2), some (.int a3), some (.int a4), some (.int a5), some (.int p15), none, none]) C nd_Md_copy_91 rfl rfl ?_
                  refine vr_ic C nd_Md_copy_93 ?_
                  refine vr_is (ls' := [some (.ref 0), some (.int a1), some (.int a2), some (.int a3), some (.int a4), some (.int a5), some (.int p15), some (.int (0 : Int32)), none]) C nd_Md_copy_94 rfl rfl ?_
                  obtain ⟨x20, hX21, h⟩ := no_b h
                  refine lw_Md_copy_96 C a1 a2 a3 a4 a5 p15 nj_fu _ _ x20 hX21 ?_
                  refine vr_ic C nd_Md_copy_157 ?_
                  have h := no_s h
                  subst h
                  exact vr_iret C hq nd_Md_copy_158 rfl
                clear h
                have h := hP22
                clear hP22
                refine vr_cm_ge C nd_Md_copy_83 (fun hc => ?_) (fun hc => ?_)
                · have h := no_t hc h
                  refine vr_ic C nd_Md_copy_90 ?_
                  have h := no_s h
                  subst h
                  exact hj
                · have h := no_f hc h
                  refine vr_ic C nd_Md_copy_86 ?_
                  refine vr_go C nd_Md_copy_87 ?_
                  have h := no_s h
                  subst h
                  exact hj
              · have h := no_bf hc h
                refine vr_al C nd_Md_copy_74 rfl ?_
                refine vr_ic C nd_Md_copy_75 ?_
                obtain ⟨w23, hV24, h⟩ := no_b h
                refine vr_sVi (hp' := (rp_Md (w23.2))) [.int (2 : Int32)] [] C nd_Md_copy_76 rfl ml_Md_70 my_Md_find (co_Md_find m (2 : Int32) w23 hV24) ⟨_, _, _, rfl, rfl, rfl⟩ rfl rfl ⟨rfl, rfl, rfl, rfl⟩ (Nat.zero_le _) (Nat.zero_le _) rfl ?_
                have h := no_s h
                subst h
                exact vr_iret C hq nd_Md_copy_79 rfl
          · have h := no_f hc h
            refine vr_al C nd_Md_copy_45 rfl ?_
            refine vr_ic C nd_Md_copy_46 ?_
            obtain ⟨w25, hV26, h⟩ := no_b h
            refine vr_sVi (hp' := (rp_Md (w25.2))) [.int (1 : Int32)] [] C nd_Md_copy_47 rfl ml_Md_70 my_Md_find (co_Md_find m (1 : Int32) w25 hV26) ⟨_, _, _, rfl, rfl, rfl⟩ rfl rfl ⟨rfl, rfl, rfl, rfl⟩ (Nat.zero_le _) (Nat.zero_le _) rfl ?_
            have h := no_s h
            subst h
            exact vr_iret C hq nd_Md_copy_50 rfl
      · have h := no_f hc h
        refine vr_al C nd_Md_copy_21 rfl ?_
        refine vr_ic C nd_Md_copy_22 ?_
        obtain ⟨w27, hV28, h⟩ := no_b h
        refine vr_sVi (hp' := (rp_Md (w27.2))) [.int (5 : Int32)] [] C nd_Md_copy_23 rfl ml_Md_70 my_Md_find (co_Md_find m (5 : Int32) w27 hV28) ⟨_, _, _, rfl, rfl, rfl⟩ rfl rfl ⟨rfl, rfl, rfl, rfl⟩ (Nat.zero_le _) (Nat.zero_le _) rfl ?_
        have h := no_s h
        subst h
        exact vr_iret C hq nd_Md_copy_26 rfl
    · have h := no_bf hc h
      refine vr_ic C nd_Md_copy_14 ?_
      have h := no_s h
      subst h
      exact vr_iret C hq nd_Md_copy_15 rfl
abbrev nr_Md_mean : Room := { frames := 2, cells := 0, slots := 0, locals := 45 }
theorem lw_Md_mean_44 {G : nj_G} {ad : Nat → Nat} (C : nj_C G nb_Md_mean 5 "NobodyJoinsModel" nr_Md_mean) (m : MdS) (f1 : Int32) : ∀ (n : Nat) (v2 : Int64) (v4 : Int32) (x : Int64), lo_Md_mean_44 m f1 n v2 v4 = some x → nj_V G ad 0 0 77 [some (.ref 0), some (.int f1), some (.long x), none, none] [] (rp_Md m) → nj_V G ad 0 0 44 [some (.ref 0), some (.int f1), some (.long v2), none, some (.int v4)] [] (rp_Md m) := by
  intro n
  induction n with
  | zero => intro v2 v4 x h; rw [lo_Md_mean_44] at h; cases h
  | succ n ih =>
    intro v2 v4 x h hk
    rw [lo_Md_mean_44] at h
    refine vr_il C nd_Md_mean_44 rfl ?_
    refine vr_al C nd_Md_mean_46 rfl ?_
    refine vr_get (v := .ref 3) C nd_Md_mean_47 rfl fl_Md_16 (at_Md_0 m) rfl ?_
    refine vr_il C nd_Md_mean_50 rfl ?_
    obtain ⟨hN5, h⟩ := no_i h
    refine vr_ialk (j := (nj_n f1)) (f := (md_sizes m)) C nd_Md_mean_51 rfl (at_Md_3 m) hN5 rfl ?_
    refine vr_cm_ge C nd_Md_mean_52 (fun hc => ?_) (fun hc => ?_)
    · have h := no_t hc h
      have h := no_s h
      subst h
      exact vr_wk [4] rfl hk
    · have h := no_f hc h
      refine vr_ll C nd_Md_mean_55 rfl ?_
      refine vr_al C nd_Md_mean_56 rfl ?_
      refine vr_get (v := .ref 4) C nd_Md_mean_57 rfl fl_Md_19 (at_Md_0 m) rfl ?_
      refine vr_ic C nd_Md_mean_60 ?_
      refine vr_il C nd_Md_mean_62 rfl ?_
      refine vr_imul C nd_Md_mean_63 rfl ?_
      refine vr_il C nd_Md_mean_64 rfl ?_
      refine vr_iadd C nd_Md_mean_66 rfl ?_
      obtain ⟨hN6, h⟩ := no_i h
      refine vr_ialk (j := (nj_n (((40 : Int32) * f1) + v4))) (f := (md_items m)) C nd_Md_mean_67 rfl (at_Md_4 m) hN6 rfl ?_
      refine vr_i2l C nd_Md_mean_68 rfl ?_
      refine vr_ladd C nd_Md_mean_69 rfl ?_
      refine vr_lst (ls' := [some (.ref 0), some (.int f1), some (.long (v2 + (Int32.toInt64 ((md_items m) (nj_n (((40 : Int32) * f1) + v4)))))), none, some (.int v4)]) C nd_Md_mean_70 rfl rfl ?_
      refine vr_inc (v := (v4 + (1 : Int32))) (ls' := [some (.ref 0), some (.int f1), some (.long (v2 + (Int32.toInt64 ((md_items m) (nj_n (((40 : Int32) * f1) + v4)))))), none, some (.int (v4 + (1 : Int32)))]) C nd_Md_mean_71 rfl rfl rfl rfl rfl ?_
      refine vr_go C nd_Md_mean_74 ?_
      exact (ih _ _ _ h hk)
theorem co_Md_mean (m : MdS) (a1 : Int32) (x : Int32 × MdS) (h : mo_Md_mean m a1 = some x) : nj_Con ny_Md_mean nb_Md_mean 5 (some .int) nr_Md_mean (rp_Md m) [.ref 0, .int a1] (some (.int (x.1))) (rp_Md (x.2)) := by
  rw [mo_Md_mean] at h
  refine nj_con (by decide) rfl 3 rfl (fun G ad C hq => ?_)
  have C : nj_C G nb_Md_mean 5 "NobodyJoinsModel" nr_Md_mean := C
  show nj_V G ad 0 0 0 [some (.ref 0), some (.int a1), none, none, none] [] (rp_Md m)
  refine vr_il C nd_Md_mean_0 rfl ?_
  obtain ⟨w1, hV2, h⟩ := no_b h
  refine vr_cSip [] [.int a1] [] C nd_Md_mean_1 rfl ml_Md_66 my_Md_isRow (co_Md_isRow a1 w1 hV2) (em_E _) rfl rfl ⟨rfl, rfl, rfl, rfl⟩ (Nat.zero_le _) (Nat.zero_le _) rfl ?_
  refine vr_ifb_ne C nd_Md_mean_4 (fun hc => ?_) (fun hc => ?_)
  · have h := no_bt hc h
    refine vr_al C nd_Md_mean_9 rfl ?_
    refine vr_get (v := .ref 3) C nd_Md_mean_10 rfl fl_Md_16 (at_Md_0 m) rfl ?_
    refine vr_il C nd_Md_mean_13 rfl ?_
    obtain ⟨hN3, h⟩ := no_i h
    refine vr_ialk (j := (nj_n a1)) (f := (md_sizes m)) C nd_Md_mean_14 rfl (at_Md_3 m) hN3 rfl ?_
    refine vr_if_ge C nd_Md_mean_15 (fun hc => ?_) (fun hc => ?_)
    · have h := no_t hc h
      refine vr_al C nd_Md_mean_24 rfl ?_
      refine vr_get (v := .ref 3) C nd_Md_mean_25 rfl fl_Md_16 (at_Md_0 m) rfl ?_
      refine vr_il C nd_Md_mean_28 rfl ?_
      obtain ⟨hN4, h⟩ := no_i h
      refine vr_ialk (j := (nj_n a1)) (f := (md_sizes m)) C nd_Md_mean_29 rfl (at_Md_3 m) hN4 rfl ?_
      refine vr_if_ne C nd_Md_mean_30 (fun hc => ?_) (fun hc => ?_)
      · have h := no_f hc h
        refine vr_lc (v := (0 : Int64)) C nd_Md_mean_39 rfl (by decide) ?_
        refine vr_lst (ls' := [some (.ref 0), some (.int a1), some (.long (0 : Int64)), none, none]) C nd_Md_mean_40 rfl rfl ?_
        refine vr_ic C nd_Md_mean_41 ?_
        refine vr_is (ls' := [some (.ref 0), some (.int a1), some (.long (0 : Int64)), none, some (.int (0 : Int32))]) C nd_Md_mean_42 rfl rfl ?_
        obtain ⟨x7, hX8, h⟩ := no_b h
        refine lw_Md_mean_44 C m a1 nj_fu _ _ x7 hX8 ?_
        refine vr_al C nd_Md_mean_77 rfl ?_
        refine vr_ll C nd_Md_mean_78 rfl ?_
        refine vr_al C nd_Md_mean_79 rfl ?_
        refine vr_get (v := .ref 3) C nd_Md_mean_80 rfl fl_Md_16 (at_Md_0 m) rfl ?_
        refine vr_il C nd_Md_mean_83 rfl ?_
        obtain ⟨hN9, h⟩ := no_i h
        refine vr_ialk (j := (nj_n a1)) (f := (md_sizes m)) C nd_Md_mean_84 rfl (at_Md_3 m) hN9 rfl ?_
        refine vr_i2l C nd_Md_mean_85 rfl ?_
        obtain ⟨hN10, h⟩ := no_if h
        refine vr_ldiv C nd_Md_mean_86 rfl hN10 ?_
        refine vr_l2i C nd_Md_mean_87 rfl ?_
        obtain ⟨w11, hV12, h⟩ := no_b h
        refine vr_sVi (hp' := (rp_Md (w11.2))) [.int (Int64.toInt32 (x7 / (Int32.toInt64 ((md_sizes m) (nj_n a1)))))] [] C nd_Md_mean_88 rfl ml_Md_82 my_Md_tell (co_Md_tell m (Int64.toInt32 (x7 / (Int32.toInt64 ((md_sizes m) (nj_n a1))))) w11 hV12) ⟨_, _, _, rfl, rfl, rfl⟩ rfl rfl ⟨rfl, rfl, rfl, rfl⟩ (Nat.zero_le _) (Nat.zero_le _) rfl ?_
        have h := no_s h
        subst h
        exact vr_iret C hq nd_Md_mean_91 rfl
      · have h := no_t hc h
        refine vr_al C nd_Md_mean_33 rfl ?_
        refine vr_ic C nd_Md_mean_34 ?_
        obtain ⟨w13, hV14, h⟩ := no_b h
        refine vr_sVi (hp' := (rp_Md (w13.2))) [.int (4 : Int32)] [] C nd_Md_mean_35 rfl ml_Md_70 my_Md_find (co_Md_find m (4 : Int32) w13 hV14) ⟨_, _, _, rfl, rfl, rfl⟩ rfl rfl ⟨rfl, rfl, rfl, rfl⟩ (Nat.zero_le _) (Nat.zero_le _) rfl ?_
        have h := no_s h
        subst h
        exact vr_iret C hq nd_Md_mean_38 rfl
    · have h := no_f hc h
      refine vr_al C nd_Md_mean_18 rfl ?_
      refine vr_ic C nd_Md_mean_19 ?_
      obtain ⟨w15, hV16, h⟩ := no_b h
      refine vr_sVi (hp' := (rp_Md (w15.2))) [.int (1 : Int32)] [] C nd_Md_mean_20 rfl ml_Md_70 my_Md_find (co_Md_find m (1 : Int32) w15 hV16) ⟨_, _, _, rfl, rfl, rfl⟩ rfl rfl ⟨rfl, rfl, rfl, rfl⟩ (Nat.zero_le _) (Nat.zero_le _) rfl ?_
      have h := no_s h
      subst h
      exact vr_iret C hq nd_Md_mean_23 rfl
  · have h := no_bf hc h
    refine vr_ic C nd_Md_mean_7 ?_
    have h := no_s h
    subst h
    exact vr_iret C hq nd_Md_mean_8 rfl
abbrev nr_Md_isText : Room := { frames := 1, cells := 0, slots := 0, locals := 25 }
theorem co_Md_isText  (a0 : Int32) (x : Bool) (h : mo_Md_isText a0 = some x) : nj_Con ny_Md_isText nb_Md_isText 1 (some .boolean) nr_Md_isText [] [.int a0] (some (.int (nj_b x))) [] := by
  rw [mo_Md_isText] at h
  refine nj_con (by decide) rfl 0 rfl (fun G ad C hq => ?_)
  have C : nj_C G nb_Md_isText 1 "NobodyJoinsModel" nr_Md_isText := C
  show nj_V G ad 0 0 0 [some (.int a0)] [] []
  refine vr_il C nd_Md_isText_0 rfl ?_
  refine vr_i2l C nd_Md_isText_1 rfl ?_
  refine vr_lc (v := (0 : Int64)) C nd_Md_isText_2 rfl (by decide) ?_
  refine vr_ldc2 C nd_Md_isText_3 rfl kl_Md_64 ?_
  obtain ⟨w1, hV2, h⟩ := no_b h
  refine vr_cSip [] [.long (Int32.toInt64 a0), .long (0 : Int64), .long (3 : Int64)] [] C nd_Md_isText_6 rfl ml_Md_60 my_Md_in (co_Md_in (Int32.toInt64 a0) (0 : Int64) (3 : Int64) w1 hV2) (em_E _) rfl rfl ⟨rfl, rfl, rfl, rfl⟩ (Nat.zero_le _) (Nat.zero_le _) rfl ?_
  have h := no_s h
  subst h
  exact vr_zret _ C hq nd_Md_isText_9 rfl
abbrev nr_Md_text : Room := { frames := 2, cells := 0, slots := 0, locals := 45 }
theorem lw_Md_text_34 {G : nj_G} {ad : Nat → Nat} (C : nj_C G nb_Md_text 4 "NobodyJoinsModel" nr_Md_text) (f1 : Int32) (f2 : Int32) : ∀ (n : Nat) (m : MdS) (v3 : Int32) (x : MdS), lo_Md_text_34 f1 f2 n m v3 = some x → nj_V G ad 0 0 59 [none, none, some (.int f2), none] [] (rp_Md x) → nj_V G ad 0 0 34 [some (.ref 0), some (.int f1), some (.int f2), some (.int v3)] [] (rp_Md m) := by
  intro n
  induction n with
  | zero => intro m v3 x h; rw [lo_Md_text_34] at h; cases h
  | succ n ih =>
    intro m v3 x h hk
    rw [lo_Md_text_34] at h
    refine vr_il C nd_Md_text_34 rfl ?_
    refine vr_ic C nd_Md_text_35 ?_
    refine vr_cm_ge C nd_Md_text_37 (fun hc => ?_) (fun hc => ?_)
    · have h := no_t hc h
      have h := no_s h
      subst h
      exact vr_wk [0, 1, 3] rfl hk
    · have h := no_f hc h
      refine vr_al C nd_Md_text_40 rfl ?_
      refine vr_get (v := .ref 6) C nd_Md_text_41 rfl fl_Md_25 (at_Md_0 m) rfl ?_
      refine vr_ic C nd_Md_text_44 ?_
      refine vr_il C nd_Md_text_46 rfl ?_
      refine vr_imul C nd_Md_text_47 rfl ?_
      refine vr_il C nd_Md_text_48 rfl ?_
      refine vr_iadd C nd_Md_text_49 rfl ?_
      refine vr_ic C nd_Md_text_50 ?_
      obtain ⟨hN4, h⟩ := no_i h
      refine vr_iask (j := (nj_n (((60 : Int32) * f1) + v3))) (f := (md_bytes m)) (hp' := (rp_Md (ms_bytes m (upd (md_bytes m) (nj_n (((60 : Int32) * f1) + v3)) (32 : Int32))))) C nd_Md_text_52 rfl (at_Md_6 m) hN4 rfl (st_Md_6 m (upd (md_bytes m) (nj_n (((60 : Int32) * f1) + v3)) (32 : Int32))) ?_
      refine vr_inc (v := (v3 + (1 : Int32))) (ls' := [some (.ref 0), some (.int f1), some (.int f2), some (.int (v3 + (1 : Int32)))]) C nd_Md_text_53 rfl rfl rfl rfl rfl ?_
      refine vr_go C nd_Md_text_56 ?_
      exact (ih _ _ _ h hk)
theorem co_Md_text (m : MdS) (a1 : Int32) (a2 : Int32) (x : Int32 × MdS) (h : mo_Md_text m a1 a2 = some x) : nj_Con ny_Md_text nb_Md_text 4 (some .int) nr_Md_text (rp_Md m) [.ref 0, .int a1, .int a2] (some (.int (x.1))) (rp_Md (x.2)) := by
  rw [mo_Md_text] at h
  refine nj_con (by decide) rfl 1 rfl (fun G ad C hq => ?_)
  have C : nj_C G nb_Md_text 4 "NobodyJoinsModel" nr_Md_text := C
  show nj_V G ad 0 0 0 [some (.ref 0), some (.int a1), some (.int a2), none] [] (rp_Md m)
  refine vr_il C nd_Md_text_0 rfl ?_
  obtain ⟨w1, hV2, h⟩ := no_b h
  refine vr_cSip [] [.int a1] [] C nd_Md_text_1 rfl ml_Md_89 my_Md_isText (co_Md_isText a1 w1 hV2) (em_E _) rfl rfl ⟨rfl, rfl, rfl, rfl⟩ (Nat.zero_le _) (Nat.zero_le _) rfl ?_
  refine vr_ifb_eq C nd_Md_text_4 (fun hc => ?_) (fun hc => ?_)
  · have h := no_bf hc h
    refine vr_ic C nd_Md_text_13 ?_
    have h := no_s h
    subst h
    exact vr_iret C hq nd_Md_text_14 rfl
  · have h := no_bt hc h
    refine vr_il C nd_Md_text_7 rfl ?_
    refine vr_ic C nd_Md_text_8 ?_
    refine vr_cm_le C nd_Md_text_10 (fun hc => ?_) (fun hc => ?_)
    · have h := no_t hc h
      refine vr_il C nd_Md_text_15 rfl ?_
      refine vr_if_ge C nd_Md_text_16 (fun hc => ?_) (fun hc => ?_)
      · have h := no_t hc h
        refine vr_al C nd_Md_text_25 rfl ?_
        refine vr_get (v := .ref 5) C nd_Md_text_26 rfl fl_Md_22 (at_Md_0 m) rfl ?_
        refine vr_il C nd_Md_text_29 rfl ?_
        refine vr_il C nd_Md_text_30 rfl ?_
        obtain ⟨hN3, h⟩ := no_i h
        refine vr_iask (j := (nj_n a1)) (f := (md_lengths m)) (hp' := (rp_Md (ms_lengths m (upd (md_lengths m) (nj_n a1) a2)))) C nd_Md_text_31 rfl (at_Md_5 m) hN3 rfl (st_Md_5 m (upd (md_lengths m) (nj_n a1) a2)) ?_
        refine vr_ic C nd_Md_text_32 ?_
        refine vr_is (ls' := [some (.ref 0), some (.int a1), some (.int a2), some (.int (0 : Int32))]) C nd_Md_text_33 rfl rfl ?_
        obtain ⟨x5, hX6, h⟩ := no_b h
        refine lw_Md_text_34 C a1 a2 nj_fu _ _ x5 hX6 ?_
        refine vr_il C nd_Md_text_59 rfl ?_
        have h := no_s h
        subst h
        exact vr_iret C hq nd_Md_text_60 rfl
      · have h := no_f hc h
        refine vr_al C nd_Md_text_19 rfl ?_
        refine vr_ic C nd_Md_text_20 ?_
        obtain ⟨w7, hV8, h⟩ := no_b h
        refine vr_sVi (hp' := (rp_Md (w7.2))) [.int (5 : Int32)] [] C nd_Md_text_21 rfl ml_Md_70 my_Md_find (co_Md_find m (5 : Int32) w7 hV8) ⟨_, _, _, rfl, rfl, rfl⟩ rfl rfl ⟨rfl, rfl, rfl, rfl⟩ (Nat.zero_le _) (Nat.zero_le _) rfl ?_
        have h := no_s h
        subst h
        exact vr_iret C hq nd_Md_text_24 rfl
    · have h := no_f hc h
      refine vr_ic C nd_Md_text_13 ?_
      have h := no_s h
      subst h
      exact vr_iret C hq nd_Md_text_14 rfl
abbrev nr_Md_put : Room := { frames := 2, cells := 0, slots := 0, locals := 45 }
theorem co_Md_put (m : MdS) (a1 : Int32) (a2 : Int32) (a3 : Int32) (x : Int32 × MdS) (h : mo_Md_put m a1 a2 a3 = some x) : nj_Con ny_Md_put nb_Md_put 5 (some .int) nr_Md_put (rp_Md m) [.ref 0, .int a1, .int a2, .int a3] (some (.int (x.1))) (rp_Md (x.2)) := by
  rw [mo_Md_put] at h
  refine nj_con (by decide) rfl 1 rfl (fun G ad C hq => ?_)
  have C : nj_C G nb_Md_put 5 "NobodyJoinsModel" nr_Md_put := C
  show nj_V G ad 0 0 0 [some (.ref 0), some (.int a1), some (.int a2), some (.int a3), none] [] (rp_Md m)
  refine vr_il C nd_Md_put_0 rfl ?_
  obtain ⟨w1, hV2, h⟩ := no_b h
  refine vr_cSip [] [.int a1] [] C nd_Md_put_1 rfl ml_Md_89 my_Md_isText (co_Md_isText a1 w1 hV2) (em_E _) rfl rfl ⟨rfl, rfl, rfl, rfl⟩ (Nat.zero_le _) (Nat.zero_le _) rfl ?_
  refine vr_ifb_ne C nd_Md_put_4 (fun hc => ?_) (fun hc => ?_)
  · have h := no_bt hc h
    refine vr_al C nd_Md_put_9 rfl ?_
    refine vr_get (v := .ref 5) C nd_Md_put_10 rfl fl_Md_22 (at_Md_0 m) rfl ?_
    refine vr_il C nd_Md_put_13 rfl ?_
    obtain ⟨hN3, h⟩ := no_i h
    refine vr_ialk (j := (nj_n a1)) (f := (md_lengths m)) C nd_Md_put_14 rfl (at_Md_5 m) hN3 rfl ?_
    refine vr_if_ge C nd_Md_put_15 (fun hc => ?_) (fun hc => ?_)
    · have h := no_t hc h
      refine vr_il C nd_Md_put_24 rfl ?_
      refine vr_i2l C nd_Md_put_25 rfl ?_
      refine vr_lc (v := (0 : Int64)) C nd_Md_put_26 rfl (by decide) ?_
      refine vr_al C nd_Md_put_27 rfl ?_
      refine vr_get (v := .ref 5) C nd_Md_put_28 rfl fl_Md_22 (at_Md_0 m) rfl ?_
      refine vr_il C nd_Md_put_31 rfl ?_
      obtain ⟨hN4, h⟩ := no_i h
      refine vr_ialk (j := (nj_n a1)) (f := (md_lengths m)) C nd_Md_put_32 rfl (at_Md_5 m) hN4 rfl ?_
      refine vr_ic C nd_Md_put_33 ?_
      refine vr_isub C nd_Md_put_34 rfl ?_
      refine vr_i2l C nd_Md_put_35 rfl ?_
      obtain ⟨w5, hV6, h⟩ := no_b h
      refine vr_cSip [] [.long (Int32.toInt64 a2), .long (0 : Int64), .long (Int32.toInt64 (((md_lengths m) (nj_n a1)) - (1 : Int32)))] [] C nd_Md_put_36 rfl ml_Md_60 my_Md_in (co_Md_in (Int32.toInt64 a2) (0 : Int64) (Int32.toInt64 (((md_lengths m) (nj_n a1)) - (1 : Int32))) w5 hV6) (em_E _) rfl rfl ⟨rfl, rfl, rfl, rfl⟩ (Nat.zero_le _) (Nat.zero_le _) rfl ?_
      refine vr_ifb_ne C nd_Md_put_39 (fun hc => ?_) (fun hc => ?_)
      · have h := no_bt hc h
        refine vr_al C nd_Md_put_48 rfl ?_
        refine vr_get (v := .ref 6) C nd_Md_put_49 rfl fl_Md_25 (at_Md_0 m) rfl ?_
        refine vr_ic C nd_Md_put_52 ?_
        refine vr_il C nd_Md_put_54 rfl ?_
        refine vr_imul C nd_Md_put_55 rfl ?_
        refine vr_il C nd_Md_put_56 rfl ?_
        refine vr_iadd C nd_Md_put_57 rfl ?_
        obtain ⟨hN7, h⟩ := no_i h
        refine vr_ialk (j := (nj_n (((60 : Int32) * a1) + a2))) (f := (md_bytes m)) C nd_Md_put_58 rfl (at_Md_6 m) hN7 rfl ?_
        refine vr_is (ls' := [some (.ref 0), some (.int a1), some (.int a2), some (.int a3), some (.int ((md_bytes m) (nj_n (((60 : Int32) * a1) + a2))))]) C nd_Md_put_59 rfl rfl ?_
        refine vr_al C nd_Md_put_61 rfl ?_
        refine vr_get (v := .ref 6) C nd_Md_put_62 rfl fl_Md_25 (at_Md_0 m) rfl ?_
        refine vr_ic C nd_Md_put_65 ?_
        refine vr_il C nd_Md_put_67 rfl ?_
        refine vr_imul C nd_Md_put_68 rfl ?_
        refine vr_il C nd_Md_put_69 rfl ?_
        refine vr_iadd C nd_Md_put_70 rfl ?_
        refine vr_il C nd_Md_put_71 rfl ?_
        refine vr_i2b C nd_Md_put_72 rfl ?_
        obtain ⟨hN8, h⟩ := no_i h
        refine vr_iask (j := (nj_n (((60 : Int32) * a1) + a2))) (f := (md_bytes m)) (hp' := (rp_Md (ms_bytes m (upd (md_bytes m) (nj_n (((60 : Int32) * a1) + a2)) (nj_i2b a3))))) C nd_Md_put_73 rfl (at_Md_6 m) hN8 rfl (st_Md_6 m (upd (md_bytes m) (nj_n (((60 : Int32) * a1) + a2)) (nj_i2b a3))) ?_
        refine vr_il C nd_Md_put_74 rfl ?_
        refine vr_ic C nd_Md_put_76 ?_
        refine vr_iadd C nd_Md_put_79 rfl ?_
        have h := no_s h
        subst h
        exact vr_iret C hq nd_Md_put_80 rfl
      · have h := no_bf hc h
        refine vr_al C nd_Md_put_42 rfl ?_
        refine vr_ic C nd_Md_put_43 ?_
        obtain ⟨w9, hV10, h⟩ := no_b h
        refine vr_sVi (hp' := (rp_Md (w9.2))) [.int (2 : Int32)] [] C nd_Md_put_44 rfl ml_Md_70 my_Md_find (co_Md_find m (2 : Int32) w9 hV10) ⟨_, _, _, rfl, rfl, rfl⟩ rfl rfl ⟨rfl, rfl, rfl, rfl⟩ (Nat.zero_le _) (Nat.zero_le _) rfl ?_
        have h := no_s h
        subst h
        exact vr_iret C hq nd_Md_put_47 rfl
    · have h := no_f hc h
      refine vr_al C nd_Md_put_18 rfl ?_
      refine vr_ic C nd_Md_put_19 ?_
      obtain ⟨w11, hV12, h⟩ := no_b h
      refine vr_sVi (hp' := (rp_Md (w11.2))) [.int (1 : Int32)] [] C nd_Md_put_20 rfl ml_Md_70 my_Md_find (co_Md_find m (1 : Int32) w11 hV12) ⟨_, _, _, rfl, rfl, rfl⟩ rfl rfl ⟨rfl, rfl, rfl, rfl⟩ (Nat.zero_le _) (Nat.zero_le _) rfl ?_
      have h := no_s h
      subst h
      exact vr_iret C hq nd_Md_put_23 rfl
  · have h := no_bf hc h
    refine vr_ic C nd_Md_put_7 ?_
    have h := no_s h
    subst h
    exact vr_iret C hq nd_Md_put_8 rfl
abbrev nr_Md_here : Room := { frames := 0, cells := 0, slots := 0, locals := 0 }
theorem co_Md_here (m : MdS) (x : Int32) (h : mo_Md_here m = some x) : nj_Con ny_Md_here nb_Md_here 1 (some .int) nr_Md_here (rp_Md m) [.ref 0] (some (.int x)) (rp_Md m) := by
  rw [mo_Md_here] at h
  refine nj_con (by decide) rfl 0 rfl (fun G ad C hq => ?_)
  have C : nj_C G nb_Md_here 1 "NobodyJoinsModel" nr_Md_here := C
  show nj_V G ad 0 0 0 [some (.ref 0)] [] (rp_Md m)
  refine vr_al C nd_Md_here_0 rfl ?_
  refine vr_get (v := .ref 6) C nd_Md_here_1 rfl fl_Md_25 (at_Md_0 m) rfl ?_
  refine vr_al C nd_Md_here_4 rfl ?_
  refine vr_get (v := .int (md_from m)) C nd_Md_here_5 rfl fl_Md_92 (at_Md_0 m) rfl ?_
  refine vr_al C nd_Md_here_8 rfl ?_
  refine vr_get (v := .int (md_place m)) C nd_Md_here_9 rfl fl_Md_95 (at_Md_0 m) rfl ?_
  refine vr_iadd C nd_Md_here_12 rfl ?_
  obtain ⟨hN1, h⟩ := no_i h
  refine vr_ialk (j := (nj_n ((md_from m) + (md_place m)))) (f := (md_bytes m)) C nd_Md_here_13 rfl (at_Md_6 m) hN1 rfl ?_
  have h := no_s h
  subst h
  exact vr_iret C hq nd_Md_here_14 rfl
abbrev nr_Md_skip : Room := { frames := 1, cells := 0, slots := 0, locals := 20 }
theorem lw_Md_skip_0 {G : nj_G} {ad : Nat → Nat} (C : nj_C G nb_Md_skip 1 "NobodyJoinsModel" nr_Md_skip)  : ∀ (n : Nat) (m : MdS) (x : MdS), lo_Md_skip_0  n m = some x → nj_V G ad 0 0 33 [none] [] (rp_Md x) → nj_V G ad 0 0 0 [some (.ref 0)] [] (rp_Md m) := by
  intro n
  induction n with
  | zero => intro m x h; rw [lo_Md_skip_0] at h; cases h
  | succ n ih =>
    intro m x h hk
    rw [lo_Md_skip_0] at h
    refine vr_al C nd_Md_skip_0 rfl ?_
    refine vr_get (v := .int (md_place m)) C nd_Md_skip_1 rfl fl_Md_95 (at_Md_0 m) rfl ?_
    refine vr_al C nd_Md_skip_4 rfl ?_
    refine vr_get (v := .int (md_stop m)) C nd_Md_skip_5 rfl fl_Md_98 (at_Md_0 m) rfl ?_
    refine vr_cm_ge C nd_Md_skip_8 (fun hc => ?_) (fun hc => ?_)
    · have h := no_t hc h
      have h := no_s h
      subst h
      exact vr_wk [0] rfl hk
    · have h := no_f hc h
      refine vr_al C nd_Md_skip_11 rfl ?_
      obtain ⟨w1, hV2, h⟩ := no_b h
      refine vr_sVi (hp' := (rp_Md m)) [] [] C nd_Md_skip_12 rfl ml_Md_101 my_Md_here (co_Md_here m w1 hV2) ⟨_, _, _, rfl, rfl, rfl⟩ rfl rfl ⟨rfl, rfl, rfl, rfl⟩ (Nat.zero_le _) (Nat.zero_le _) rfl ?_
      refine vr_ic C nd_Md_skip_15 ?_
      refine vr_cm_ne C nd_Md_skip_17 (fun hc => ?_) (fun hc => ?_)
      · have h := no_f hc h
        have h := no_s h
        subst h
        exact vr_wk [0] rfl hk
      · have h := no_t hc h
        refine vr_al C nd_Md_skip_20 rfl ?_
        refine vr_dup C nd_Md_skip_21 rfl rfl ?_
        refine vr_get (v := .int (md_place m)) C nd_Md_skip_22 rfl fl_Md_95 (at_Md_0 m) rfl ?_
        refine vr_ic C nd_Md_skip_25 ?_
        refine vr_iadd C nd_Md_skip_26 rfl ?_
        refine vr_puti (hp' := (rp_Md (ms_place m ((md_place m) + (1 : Int32))))) C nd_Md_skip_27 rfl fl_Md_95 (at_Md_0 m) rfl (st_Md_0_13 m ((md_place m) + (1 : Int32))) ?_
        refine vr_go C nd_Md_skip_30 ?_
        exact (ih _ _ h hk)
theorem co_Md_skip (m : MdS) (x : MdS) (h : mo_Md_skip m = some x) : nj_Con ny_Md_skip nb_Md_skip 1 none nr_Md_skip (rp_Md m) [.ref 0] none (rp_Md x) := by
  rw [mo_Md_skip] at h
  refine nj_con (by decide) rfl 0 rfl (fun G ad C hq => ?_)
  have C : nj_C G nb_Md_skip 1 "NobodyJoinsModel" nr_Md_skip := C
  show nj_V G ad 0 0 0 [some (.ref 0)] [] (rp_Md m)
  obtain ⟨x3, hX4, h⟩ := no_b h
  refine lw_Md_skip_0 C  nj_fu _ x3 hX4 ?_
  have h := no_s h
  subst h
  exact vr_vret C hq nd_Md_skip_33 rfl
abbrev nr_Md_figure : Room := { frames := 1, cells := 0, slots := 0, locals := 25 }
theorem co_Md_figure (m : MdS) (a1 : Int32) (x : Int32 × MdS) (h : mo_Md_figure m a1 = some x) : nj_Con ny_Md_figure nb_Md_figure 2 (some .int) nr_Md_figure (rp_Md m) [.ref 0, .int a1] (some (.int (x.1))) (rp_Md (x.2)) := by
  rw [mo_Md_figure] at h
  refine nj_con (by decide) rfl 0 rfl (fun G ad C hq => ?_)
  have C : nj_C G nb_Md_figure 2 "NobodyJoinsModel" nr_Md_figure := C
  show nj_V G ad 0 0 0 [some (.ref 0), some (.int a1)] [] (rp_Md m)
  refine vr_al C nd_Md_figure_0 rfl ?_
  refine vr_get (v := .int (md_place m)) C nd_Md_figure_1 rfl fl_Md_95 (at_Md_0 m) rfl ?_
  refine vr_al C nd_Md_figure_4 rfl ?_
  refine vr_get (v := .int (md_stop m)) C nd_Md_figure_5 rfl fl_Md_98 (at_Md_0 m) rfl ?_
  refine vr_cm_eq C nd_Md_figure_8 (fun hc => ?_) (fun hc => ?_)
  · have h := no_t hc h
    refine vr_ic C nd_Md_figure_30 ?_
    have h := no_s h
    subst h
    exact vr_iret C hq nd_Md_figure_32 rfl
  · have h := no_f hc h
    refine vr_al C nd_Md_figure_11 rfl ?_
    obtain ⟨w1, hV2, h⟩ := no_b h
    refine vr_sVi (hp' := (rp_Md m)) [] [] C nd_Md_figure_12 rfl ml_Md_101 my_Md_here (co_Md_here m w1 hV2) ⟨_, _, _, rfl, rfl, rfl⟩ rfl rfl ⟨rfl, rfl, rfl, rfl⟩ (Nat.zero_le _) (Nat.zero_le _) rfl ?_
    refine vr_i2l C nd_Md_figure_15 rfl ?_
    refine vr_ldc2 C nd_Md_figure_16 rfl kl_Md_105 ?_
    refine vr_ic C nd_Md_figure_19 ?_
    refine vr_il C nd_Md_figure_21 rfl ?_
    refine vr_iadd C nd_Md_figure_22 rfl ?_
    refine vr_i2l C nd_Md_figure_23 rfl ?_
    obtain ⟨w3, hV4, h⟩ := no_b h
    refine vr_cSip [] [.long (Int32.toInt64 w1), .long (48 : Int64), .long (Int32.toInt64 ((48 : Int32) + a1))] [] C nd_Md_figure_24 rfl ml_Md_60 my_Md_in (co_Md_in (Int32.toInt64 w1) (48 : Int64) (Int32.toInt64 ((48 : Int32) + a1)) w3 hV4) (em_E _) rfl rfl ⟨rfl, rfl, rfl, rfl⟩ (Nat.zero_le _) (Nat.zero_le _) rfl ?_
    refine vr_ifb_ne C nd_Md_figure_27 (fun hc => ?_) (fun hc => ?_)
    · have h := no_bt hc h
      refine vr_al C nd_Md_figure_33 rfl ?_
      refine vr_dup C nd_Md_figure_34 rfl rfl ?_
      refine vr_get (v := .int (md_place m)) C nd_Md_figure_35 rfl fl_Md_95 (at_Md_0 m) rfl ?_
      refine vr_ic C nd_Md_figure_38 ?_
      refine vr_iadd C nd_Md_figure_39 rfl ?_
      refine vr_puti (hp' := (rp_Md (ms_place m ((md_place m) + (1 : Int32))))) C nd_Md_figure_40 rfl fl_Md_95 (at_Md_0 m) rfl (st_Md_0_13 m ((md_place m) + (1 : Int32))) ?_
      refine vr_al C nd_Md_figure_43 rfl ?_
      refine vr_get (v := .ref 6) C nd_Md_figure_44 rfl fl_Md_25 (at_Md_0 (ms_place m ((md_place m) + (1 : Int32)))) rfl ?_
      refine vr_al C nd_Md_figure_47 rfl ?_
      refine vr_get (v := .int (md_from m)) C nd_Md_figure_48 rfl fl_Md_92 (at_Md_0 (ms_place m ((md_place m) + (1 : Int32)))) rfl ?_
      refine vr_al C nd_Md_figure_51 rfl ?_
      refine vr_get (v := .int ((md_place m) + (1 : Int32))) C nd_Md_figure_52 rfl fl_Md_95 (at_Md_0 (ms_place m ((md_place m) + (1 : Int32)))) rfl ?_
      refine vr_iadd C nd_Md_figure_55 rfl ?_
      refine vr_ic C nd_Md_figure_56 ?_
      refine vr_isub C nd_Md_figure_57 rfl ?_
      obtain ⟨hN5, h⟩ := no_i h
      refine vr_ialk (j := (nj_n (((md_from m) + ((md_place m) + (1 : Int32))) - (1 : Int32)))) (f := (md_bytes m)) C nd_Md_figure_58 rfl (at_Md_6 (ms_place m ((md_place m) + (1 : Int32)))) hN5 rfl ?_
      refine vr_ic C nd_Md_figure_59 ?_
      refine vr_isub C nd_Md_figure_61 rfl ?_
      have h := no_s h
      subst h
      exact vr_iret C hq nd_Md_figure_62 rfl
    · have h := no_bf hc h
      refine vr_ic C nd_Md_figure_30 ?_
      have h := no_s h
      subst h
      exact vr_iret C hq nd_Md_figure_32 rfl
abbrev nr_Md_readsRule : Room := { frames := 2, cells := 0, slots := 0, locals := 46 }
theorem co_Md_readsRule (m : MdS) (x : Bool × MdS) (h : mo_Md_readsRule m = some x) : nj_Con ny_Md_readsRule nb_Md_readsRule 1 (some .boolean) nr_Md_readsRule (rp_Md m) [.ref 0] (some (.int (nj_b (x.1)))) (rp_Md (x.2)) := by
  rw [mo_Md_readsRule] at h
  refine nj_con (by decide) rfl 0 rfl (fun G ad C hq => ?_)
  have C : nj_C G nb_Md_readsRule 1 "NobodyJoinsModel" nr_Md_readsRule := C
  show nj_V G ad 0 0 0 [some (.ref 0)] [] (rp_Md m)
  refine vr_al C nd_Md_readsRule_0 rfl ?_
  obtain ⟨w1, hV2, h⟩ := no_b h
  refine vr_sVv (hp' := (rp_Md w1)) [] [] C nd_Md_readsRule_1 rfl ml_Md_107 my_Md_skip (co_Md_skip m w1 hV2) ⟨_, _, _, rfl, rfl, rfl⟩ rfl rfl ⟨rfl, rfl, rfl, rfl⟩ (Nat.zero_le _) (Nat.zero_le _) rfl ?_
  refine vr_al C nd_Md_readsRule_4 rfl ?_
  refine vr_get (v := .int (md_place w1)) C nd_Md_readsRule_5 rfl fl_Md_95 (at_Md_0 w1) rfl ?_
  refine vr_al C nd_Md_readsRule_8 rfl ?_
  refine vr_get (v := .int (md_stop w1)) C nd_Md_readsRule_9 rfl fl_Md_98 (at_Md_0 w1) rfl ?_
  refine vr_cm_eq C nd_Md_readsRule_12 (fun hc => ?_) (fun hc => ?_)
  · have h := no_t hc h
    refine vr_ic C nd_Md_readsRule_24 ?_
    have h := no_s h
    subst h
    exact vr_zret false C hq nd_Md_readsRule_25 rfl
  · have h := no_f hc h
    refine vr_al C nd_Md_readsRule_15 rfl ?_
    obtain ⟨w3, hV4, h⟩ := no_b h
    refine vr_sVi (hp' := (rp_Md w1)) [] [] C nd_Md_readsRule_16 rfl ml_Md_101 my_Md_here (co_Md_here w1 w3 hV4) ⟨_, _, _, rfl, rfl, rfl⟩ rfl rfl ⟨rfl, rfl, rfl, rfl⟩ (Nat.zero_le _) (Nat.zero_le _) rfl ?_
    refine vr_ic C nd_Md_readsRule_19 ?_
    refine vr_cm_eq C nd_Md_readsRule_21 (fun hc => ?_) (fun hc => ?_)
    · have h := no_t hc h
      refine vr_al C nd_Md_readsRule_26 rfl ?_
      refine vr_dup C nd_Md_readsRule_27 rfl rfl ?_
      refine vr_get (v := .int (md_place w1)) C nd_Md_readsRule_28 rfl fl_Md_95 (at_Md_0 w1) rfl ?_
      refine vr_ic C nd_Md_readsRule_31 ?_
      refine vr_iadd C nd_Md_readsRule_32 rfl ?_
      refine vr_puti (hp' := (rp_Md (ms_place w1 ((md_place w1) + (1 : Int32))))) C nd_Md_readsRule_33 rfl fl_Md_95 (at_Md_0 w1) rfl (st_Md_0_13 w1 ((md_place w1) + (1 : Int32))) ?_
      refine vr_al C nd_Md_readsRule_36 rfl ?_
      refine vr_al C nd_Md_readsRule_37 rfl ?_
      refine vr_ic C nd_Md_readsRule_38 ?_
      obtain ⟨w5, hV6, h⟩ := no_b h
      refine vr_sVi (hp' := (rp_Md (w5.2))) [.int (3 : Int32)] [.ref 0] C nd_Md_readsRule_39 rfl ml_Md_110 my_Md_figure (co_Md_figure (ms_place w1 ((md_place w1) + (1 : Int32))) (3 : Int32) w5 hV6) ⟨_, _, _, rfl, rfl, rfl⟩ rfl rfl ⟨rfl, rfl, rfl, rfl⟩ (Nat.zero_le _) (Nat.zero_le _) rfl ?_
      refine vr_puti (hp' := (rp_Md (ms_readRule (w5.2) (w5.1)))) C nd_Md_readsRule_42 rfl fl_Md_113 (at_Md_0 (w5.2)) rfl (st_Md_0_15 (w5.2) (w5.1)) ?_
      refine vr_al C nd_Md_readsRule_45 rfl ?_
      refine vr_get (v := .int (w5.1)) C nd_Md_readsRule_46 rfl fl_Md_113 (at_Md_0 (ms_readRule (w5.2) (w5.1))) rfl ?_
      refine vr_ic C nd_Md_readsRule_49 ?_
      refine vr_cm_eq C nd_Md_readsRule_51 (fun hc => ?_) (fun hc => ?_)
      · have h := no_t hc h
        refine vr_ic C nd_Md_readsRule_58 ?_
        have h := no_s h
        subst h
        exact vr_zret false C hq nd_Md_readsRule_59 rfl
      · have h := no_f hc h
        refine vr_ic C nd_Md_readsRule_54 ?_
        refine vr_go C nd_Md_readsRule_55 ?_
        have h := no_s h
        subst h
        exact vr_zret true C hq nd_Md_readsRule_59 rfl
    · have h := no_f hc h
      refine vr_ic C nd_Md_readsRule_24 ?_
      have h := no_s h
      subst h
      exact vr_zret false C hq nd_Md_readsRule_25 rfl
abbrev nr_Md_has : Room := { frames := 0, cells := 0, slots := 0, locals := 0 }
theorem co_Md_has  (a0 : Int32) (a1 : Int32) (x : Bool) (h : mo_Md_has a0 a1 = some x) : nj_Con ny_Md_has nb_Md_has 2 (some .boolean) nr_Md_has [] [.int a0, .int a1] (some (.int (nj_b x))) [] := by
  rw [mo_Md_has] at h
  refine nj_con (by decide) rfl 0 rfl (fun G ad C hq => ?_)
  have C : nj_C G nb_Md_has 2 "NobodyJoinsModel" nr_Md_has := C
  show nj_V G ad 0 0 0 [some (.int a0), some (.int a1)] [] []
  refine vr_il C nd_Md_has_0 rfl ?_
  refine vr_il C nd_Md_has_1 rfl ?_
  refine vr_ishr C nd_Md_has_2 rfl ?_
  refine vr_ic C nd_Md_has_3 ?_
  refine vr_iand C nd_Md_has_4 rfl ?_
  refine vr_ic C nd_Md_has_5 ?_
  refine vr_cm_ne C nd_Md_has_6 (fun hc => ?_) (fun hc => ?_)
  · have h := no_f hc h
    refine vr_ic C nd_Md_has_13 ?_
    have h := no_s h
    subst h
    exact vr_zret false C hq nd_Md_has_14 rfl
  · have h := no_t hc h
    refine vr_ic C nd_Md_has_9 ?_
    refine vr_go C nd_Md_has_10 ?_
    have h := no_s h
    subst h
    exact vr_zret true C hq nd_Md_has_14 rfl
abbrev nr_Md_readsPair : Room := { frames := 2, cells := 0, slots := 0, locals := 46 }
theorem co_Md_readsPair (m : MdS) (x : Bool × MdS) (h : mo_Md_readsPair m = some x) : nj_Con ny_Md_readsPair nb_Md_readsPair 3 (some .boolean) nr_Md_readsPair (rp_Md m) [.ref 0] (some (.int (nj_b (x.1)))) (rp_Md (x.2)) := by
  rw [mo_Md_readsPair] at h
  refine nj_con (by decide) rfl 2 rfl (fun G ad C hq => ?_)
  have C : nj_C G nb_Md_readsPair 3 "NobodyJoinsModel" nr_Md_readsPair := C
  show nj_V G ad 0 0 0 [some (.ref 0), none, none] [] (rp_Md m)
  refine vr_al C nd_Md_readsPair_0 rfl ?_
  refine vr_get (v := .int (md_readMany m)) C nd_Md_readsPair_1 rfl fl_Md_119 (at_Md_0 m) rfl ?_
  refine vr_if_eq C nd_Md_readsPair_4 (fun hc => ?_) (fun hc => ?_)
  · have h := no_t hc h
    refine vr_ic C nd_Md_readsPair_16 ?_
    have h := no_s h
    subst h
    exact vr_zret false C hq nd_Md_readsPair_17 rfl
  · have h := no_f hc h
    refine vr_al C nd_Md_readsPair_7 rfl ?_
    refine vr_get (v := .int (md_readPairs m)) C nd_Md_readsPair_8 rfl fl_Md_122 (at_Md_0 m) rfl ?_
    refine vr_ic C nd_Md_readsPair_11 ?_
    refine vr_cm_ne C nd_Md_readsPair_13 (fun hc => ?_) (fun hc => ?_)
    · have h := no_f hc h
      refine vr_al C nd_Md_readsPair_18 rfl ?_
      refine vr_dup C nd_Md_readsPair_19 rfl rfl ?_
      refine vr_get (v := .int (md_place m)) C nd_Md_readsPair_20 rfl fl_Md_95 (at_Md_0 m) rfl ?_
      refine vr_ic C nd_Md_readsPair_23 ?_
      refine vr_iadd C nd_Md_readsPair_24 rfl ?_
      refine vr_puti (hp' := (rp_Md (ms_place m ((md_place m) + (1 : Int32))))) C nd_Md_readsPair_25 rfl fl_Md_95 (at_Md_0 m) rfl (st_Md_0_13 m ((md_place m) + (1 : Int32))) ?_
      refine vr_al C nd_Md_readsPair_28 rfl ?_
      refine vr_al C nd_Md_readsPair_29 rfl ?_
      refine vr_get (v := .int (md_readMany m)) C nd_Md_readsPair_30 rfl fl_Md_119 (at_Md_0 (ms_place m ((md_place m) + (1 : Int32)))) rfl ?_
      refine vr_ic C nd_Md_readsPair_33 ?_
      refine vr_isub C nd_Md_readsPair_34 rfl ?_
      obtain ⟨w1, hV2, h⟩ := no_b h
      refine vr_sVi (hp' := (rp_Md (w1.2))) [.int ((md_readMany m) - (1 : Int32))] [] C nd_Md_readsPair_35 rfl ml_Md_110 my_Md_figure (co_Md_figure (ms_place m ((md_place m) + (1 : Int32))) ((md_readMany m) - (1 : Int32)) w1 hV2) ⟨_, _, _, rfl, rfl, rfl⟩ rfl rfl ⟨rfl, rfl, rfl, rfl⟩ (Nat.zero_le _) (Nat.zero_le _) rfl ?_
      refine vr_is (ls' := [some (.ref 0), some (.int (w1.1)), none]) C nd_Md_readsPair_38 rfl rfl ?_
      refine vr_il C nd_Md_readsPair_39 rfl ?_
      refine vr_ic C nd_Md_readsPair_40 ?_
      obtain ⟨p3, hP11, h⟩ := no_b h
      have hj : nj_V G ad 0 0 60 [some (.ref 0), some (.int (w1.1)), none] [.int (p3.1)] (rp_Md (p3.2)) := by
        refine vr_is (ls' := [some (.ref 0), some (.int (w1.1)), some (.int (p3.1))]) C nd_Md_readsPair_60 rfl rfl ?_
        refine vr_il C nd_Md_readsPair_61 rfl ?_
        refine vr_ic C nd_Md_readsPair_62 ?_
        refine vr_cm_ne C nd_Md_readsPair_64 (fun hc => ?_) (fun hc => ?_)
        · have h := no_f hc h
          refine vr_il C nd_Md_readsPair_69 rfl ?_
          refine vr_il C nd_Md_readsPair_70 rfl ?_
          refine vr_cm_eq C nd_Md_readsPair_71 (fun hc => ?_) (fun hc => ?_)
          · have h := no_t hc h
            refine vr_al C nd_Md_readsPair_87 rfl ?_
            refine vr_dup C nd_Md_readsPair_88 rfl rfl ?_
            refine vr_get (v := .int (md_place (p3.2))) C nd_Md_readsPair_89 rfl fl_Md_95 (at_Md_0 (p3.2)) rfl ?_
            refine vr_ic C nd_Md_readsPair_92 ?_
            refine vr_isub C nd_Md_readsPair_93 rfl ?_
            refine vr_puti (hp' := (rp_Md (ms_place (p3.2) ((md_place (p3.2)) - (1 : Int32))))) C nd_Md_readsPair_94 rfl fl_Md_95 (at_Md_0 (p3.2)) rfl (st_Md_0_13 (p3.2) ((md_place (p3.2)) - (1 : Int32))) ?_
            refine vr_ic C nd_Md_readsPair_97 ?_
            have h := no_s h
            subst h
            exact vr_zret false C hq nd_Md_readsPair_98 rfl
          · have h := no_f hc h
            refine vr_al C nd_Md_readsPair_74 rfl ?_
            refine vr_get (v := .ref 9) C nd_Md_readsPair_75 rfl fl_Md_38 (at_Md_0 (p3.2)) rfl ?_
            refine vr_il C nd_Md_readsPair_78 rfl ?_
            obtain ⟨hN6, h⟩ := no_i h
            refine vr_ialk (j := (nj_n (w1.1))) (f := (md_readLikes (p3.2))) C nd_Md_readsPair_79 rfl (at_Md_9 (p3.2)) hN6 rfl ?_
            refine vr_il C nd_Md_readsPair_80 rfl ?_
            obtain ⟨w7, hV8, h⟩ := no_b h
            refine vr_cSip [] [.int ((md_readLikes (p3.2)) (nj_n (w1.1))), .int (p3.1)] [] C nd_Md_readsPair_81 rfl ml_Md_125 my_Md_has (co_Md_has ((md_readLikes (p3.2)) (nj_n (w1.1))) (p3.1) w7 hV8) (em_E _) rfl rfl ⟨rfl, rfl, rfl, rfl⟩ (Nat.zero_le _) (Nat.zero_le _) rfl ?_
            refine vr_ifb_eq C nd_Md_readsPair_84 (fun hc => ?_) (fun hc => ?_)
            · have h := no_bf hc h
              refine vr_al C nd_Md_readsPair_99 rfl ?_
              refine vr_get (v := .ref 9) C nd_Md_readsPair_100 rfl fl_Md_38 (at_Md_0 (p3.2)) rfl ?_
              refine vr_il C nd_Md_readsPair_103 rfl ?_
              refine vr_dup2 C nd_Md_readsPair_104 rfl rfl rfl ?_
              obtain ⟨hN9, h⟩ := no_i h
              refine vr_ialk (j := (nj_n (w1.1))) (f := (md_readLikes (p3.2))) C nd_Md_readsPair_105 rfl (at_Md_9 (p3.2)) hN9 rfl ?_
              refine vr_ic C nd_Md_readsPair_106 ?_
              refine vr_il C nd_Md_readsPair_107 rfl ?_
              refine vr_ishl C nd_Md_readsPair_108 rfl ?_
              refine vr_ior C nd_Md_readsPair_109 rfl ?_
              obtain ⟨hN10, h⟩ := no_i h
              refine vr_iask (j := (nj_n (w1.1))) (f := (md_readLikes (p3.2))) (hp' := (rp_Md (ms_readLikes (p3.2) (upd (md_readLikes (p3.2)) (nj_n (w1.1)) (((md_readLikes (p3.2)) (nj_n (w1.1))) ||| ((1 : Int32) <<< ((p3.1) &&& 31))))))) C nd_Md_readsPair_110 rfl (at_Md_9 (p3.2)) hN10 rfl (st_Md_9 (p3.2) (upd (md_readLikes (p3.2)) (nj_n (w1.1)) (((md_readLikes (p3.2)) (nj_n (w1.1))) ||| ((1 : Int32) <<< ((p3.1) &&& 31))))) ?_
              refine vr_al C nd_Md_readsPair_111 rfl ?_
              refine vr_dup C nd_Md_readsPair_112 rfl rfl ?_
              refine vr_get (v := .int (md_readPairs (p3.2))) C nd_Md_readsPair_113 rfl fl_Md_122 (at_Md_0 (ms_readLikes (p3.2) (upd (md_readLikes (p3.2)) (nj_n (w1.1)) (((md_readLikes (p3.2)) (nj_n (w1.1))) ||| ((1 : Int32) <<< ((p3.1) &&& 31)))))) rfl ?_
              refine vr_ic C nd_Md_readsPair_116 ?_
              refine vr_iadd C nd_Md_readsPair_117 rfl ?_
              refine vr_puti (hp' := (rp_Md (ms_readPairs (ms_readLikes (p3.2) (upd (md_readLikes (p3.2)) (nj_n (w1.1)) (((md_readLikes (p3.2)) (nj_n (w1.1))) ||| ((1 : Int32) <<< ((p3.1) &&& 31))))) ((md_readPairs (p3.2)) + (1 : Int32))))) C nd_Md_readsPair_118 rfl fl_Md_122 (at_Md_0 (ms_readLikes (p3.2) (upd (md_readLikes (p3.2)) (nj_n (w1.1)) (((md_readLikes (p3.2)) (nj_n (w1.1))) ||| ((1 : Int32) <<< ((p3.1) &&& 31)))))) rfl (st_Md_0_19 (ms_readLikes (p3.2) (upd (md_readLikes (p3.2)) (nj_n (w1.1)) (((md_readLikes (p3.2)) (nj_n (w1.1))) ||| ((1 : Int32) <<< ((p3.1) &&& 31))))) ((md_readPairs (p3.2)) + (1 : Int32))) ?_
              refine vr_ic C nd_Md_readsPair_121 ?_
              have h := no_s h
              subst h
              exact vr_zret true C hq nd_Md_readsPair_122 rfl
            · have h := no_bt hc h
              refine vr_al C nd_Md_readsPair_87 rfl ?_
              refine vr_dup C nd_Md_readsPair_88 rfl rfl ?_
              refine vr_get (v := .int (md_place (p3.2))) C nd_Md_readsPair_89 rfl fl_Md_95 (at_Md_0 (p3.2)) rfl ?_
              refine vr_ic C nd_Md_readsPair_92 ?_
              refine vr_isub C nd_Md_readsPair_93 rfl ?_
              refine vr_puti (hp' := (rp_Md (ms_place (p3.2) ((md_place (p3.2)) - (1 : Int32))))) C nd_Md_readsPair_94 rfl fl_Md_95 (at_Md_0 (p3.2)) rfl (st_Md_0_13 (p3.2) ((md_place (p3.2)) - (1 : Int32))) ?_
              refine vr_ic C nd_Md_readsPair_97 ?_
              have h := no_s h
              subst h
              exact vr_zret false C hq nd_Md_readsPair_98 rfl
        · have h := no_t hc h
          refine vr_ic C nd_Md_readsPair_67 ?_
          have h := no_s h
          subst h
          exact vr_zret false C hq nd_Md_readsPair_68 rfl
      clear h
      have h := hP11
      clear hP11
      refine vr_cm_ne C nd_Md_readsPair_42 (fun hc => ?_) (fun hc => ?_)
      · have h := no_f hc h
        refine vr_al C nd_Md_readsPair_50 rfl ?_
        refine vr_al C nd_Md_readsPair_51 rfl ?_
        refine vr_get (v := .int (md_readMany (w1.2))) C nd_Md_readsPair_52 rfl fl_Md_119 (at_Md_0 (w1.2)) rfl ?_
        refine vr_ic C nd_Md_readsPair_55 ?_
        refine vr_isub C nd_Md_readsPair_56 rfl ?_
        obtain ⟨w4, hV5, h⟩ := no_b h
        refine vr_sVi (hp' := (rp_Md (w4.2))) [.int ((md_readMany (w1.2)) - (1 : Int32))] [] C nd_Md_readsPair_57 rfl ml_Md_110 my_Md_figure (co_Md_figure (w1.2) ((md_readMany (w1.2)) - (1 : Int32)) w4 hV5) ⟨_, _, _, rfl, rfl, rfl⟩ rfl rfl ⟨rfl, rfl, rfl, rfl⟩ (Nat.zero_le _) (Nat.zero_le _) rfl ?_
        have h := no_s h
        subst h
        exact hj
      · have h := no_t hc h
        refine vr_ic C nd_Md_readsPair_45 ?_
        refine vr_go C nd_Md_readsPair_47 ?_
        have h := no_s h
        subst h
        exact hj
    · have h := no_t hc h
      refine vr_ic C nd_Md_readsPair_16 ?_
      have h := no_s h
      subst h
      exact vr_zret false C hq nd_Md_readsPair_17 rfl
abbrev nr_Md_kindOfLetter : Room := { frames := 0, cells := 0, slots := 0, locals := 0 }
theorem co_Md_kindOfLetter  (a0 : Int32) (x : Int32) (h : mo_Md_kindOfLetter a0 = some x) : nj_Con ny_Md_kindOfLetter nb_Md_kindOfLetter 1 (some .int) nr_Md_kindOfLetter [] [.int a0] (some (.int x)) [] := by
  rw [mo_Md_kindOfLetter] at h
  refine nj_con (by decide) rfl 0 rfl (fun G ad C hq => ?_)
  have C : nj_C G nb_Md_kindOfLetter 1 "NobodyJoinsModel" nr_Md_kindOfLetter := C
  show nj_V G ad 0 0 0 [some (.int a0)] [] []
  refine vr_il C nd_Md_kindOfLetter_0 rfl ?_
  refine vr_ic C nd_Md_kindOfLetter_1 ?_
  refine vr_cm_ne C nd_Md_kindOfLetter_3 (fun hc => ?_) (fun hc => ?_)
  · have h := no_f hc h
    refine vr_il C nd_Md_kindOfLetter_10 rfl ?_
    refine vr_ic C nd_Md_kindOfLetter_11 ?_
    refine vr_cm_ne C nd_Md_kindOfLetter_13 (fun hc => ?_) (fun hc => ?_)
    · have h := no_f hc h
      refine vr_il C nd_Md_kindOfLetter_20 rfl ?_
      refine vr_ic C nd_Md_kindOfLetter_21 ?_
      refine vr_cm_ne C nd_Md_kindOfLetter_23 (fun hc => ?_) (fun hc => ?_)
      · have h := no_f hc h
        refine vr_il C nd_Md_kindOfLetter_30 rfl ?_
        refine vr_ic C nd_Md_kindOfLetter_31 ?_
        refine vr_cm_ne C nd_Md_kindOfLetter_33 (fun hc => ?_) (fun hc => ?_)
        · have h := no_f hc h
          refine vr_il C nd_Md_kindOfLetter_40 rfl ?_
          refine vr_ic C nd_Md_kindOfLetter_41 ?_
          refine vr_cm_ne C nd_Md_kindOfLetter_43 (fun hc => ?_) (fun hc => ?_)
          · have h := no_f hc h
            refine vr_il C nd_Md_kindOfLetter_50 rfl ?_
            refine vr_ic C nd_Md_kindOfLetter_51 ?_
            refine vr_cm_ne C nd_Md_kindOfLetter_53 (fun hc => ?_) (fun hc => ?_)
            · have h := no_f hc h
              refine vr_ic C nd_Md_kindOfLetter_60 ?_
              have h := no_s h
              subst h
              exact vr_iret C hq nd_Md_kindOfLetter_62 rfl
            · have h := no_t hc h
              refine vr_ic C nd_Md_kindOfLetter_56 ?_
              refine vr_go C nd_Md_kindOfLetter_57 ?_
              have h := no_s h
              subst h
              exact vr_iret C hq nd_Md_kindOfLetter_62 rfl
          · have h := no_t hc h
            refine vr_ic C nd_Md_kindOfLetter_46 ?_
            refine vr_go C nd_Md_kindOfLetter_47 ?_
            have h := no_s h
            subst h
            exact vr_iret C hq nd_Md_kindOfLetter_62 rfl
        · have h := no_t hc h
          refine vr_ic C nd_Md_kindOfLetter_36 ?_
          refine vr_go C nd_Md_kindOfLetter_37 ?_
          have h := no_s h
          subst h
          exact vr_iret C hq nd_Md_kindOfLetter_62 rfl
      · have h := no_t hc h
        refine vr_ic C nd_Md_kindOfLetter_26 ?_
        refine vr_go C nd_Md_kindOfLetter_27 ?_
        have h := no_s h
        subst h
        exact vr_iret C hq nd_Md_kindOfLetter_62 rfl
    · have h := no_t hc h
      refine vr_ic C nd_Md_kindOfLetter_16 ?_
      refine vr_go C nd_Md_kindOfLetter_17 ?_
      have h := no_s h
      subst h
      exact vr_iret C hq nd_Md_kindOfLetter_62 rfl
  · have h := no_t hc h
    refine vr_ic C nd_Md_kindOfLetter_6 ?_
    refine vr_go C nd_Md_kindOfLetter_7 ?_
    have h := no_s h
    subst h
    exact vr_iret C hq nd_Md_kindOfLetter_62 rfl
abbrev nr_Md_readsChild : Room := { frames := 2, cells := 0, slots := 0, locals := 46 }
theorem co_Md_readsChild (m : MdS) (x : Bool × MdS) (h : mo_Md_readsChild m = some x) : nj_Con ny_Md_readsChild nb_Md_readsChild 3 (some .boolean) nr_Md_readsChild (rp_Md m) [.ref 0] (some (.int (nj_b (x.1)))) (rp_Md (x.2)) := by
  rw [mo_Md_readsChild] at h
  refine nj_con (by decide) rfl 2 rfl (fun G ad C hq => ?_)
  have C : nj_C G nb_Md_readsChild 3 "NobodyJoinsModel" nr_Md_readsChild := C
  show nj_V G ad 0 0 0 [some (.ref 0), none, none] [] (rp_Md m)
  refine vr_al C nd_Md_readsChild_0 rfl ?_
  obtain ⟨w1, hV2, h⟩ := no_b h
  refine vr_sVi (hp' := (rp_Md m)) [] [] C nd_Md_readsChild_1 rfl ml_Md_101 my_Md_here (co_Md_here m w1 hV2) ⟨_, _, _, rfl, rfl, rfl⟩ rfl rfl ⟨rfl, rfl, rfl, rfl⟩ (Nat.zero_le _) (Nat.zero_le _) rfl ?_
  obtain ⟨w3, hV4, h⟩ := no_b h
  refine vr_cSip [] [.int w1] [] C nd_Md_readsChild_4 rfl ml_Md_116 my_Md_kindOfLetter (co_Md_kindOfLetter w1 w3 hV4) (em_E _) rfl rfl ⟨rfl, rfl, rfl, rfl⟩ (Nat.zero_le _) (Nat.zero_le _) rfl ?_
  refine vr_is (ls' := [some (.ref 0), some (.int w3), none]) C nd_Md_readsChild_7 rfl rfl ?_
  refine vr_il C nd_Md_readsChild_8 rfl ?_
  refine vr_ic C nd_Md_readsChild_9 ?_
  refine vr_cm_eq C nd_Md_readsChild_11 (fun hc => ?_) (fun hc => ?_)
  · have h := no_t hc h
    refine vr_ic C nd_Md_readsChild_30 ?_
    have h := no_s h
    subst h
    exact vr_zret false C hq nd_Md_readsChild_31 rfl
  · have h := no_f hc h
    refine vr_al C nd_Md_readsChild_14 rfl ?_
    refine vr_get (v := .int (md_readMany m)) C nd_Md_readsChild_15 rfl fl_Md_119 (at_Md_0 m) rfl ?_
    refine vr_ic C nd_Md_readsChild_18 ?_
    refine vr_cm_eq C nd_Md_readsChild_20 (fun hc => ?_) (fun hc => ?_)
    · have h := no_t hc h
      refine vr_ic C nd_Md_readsChild_30 ?_
      have h := no_s h
      subst h
      exact vr_zret false C hq nd_Md_readsChild_31 rfl
    · have h := no_f hc h
      refine vr_al C nd_Md_readsChild_23 rfl ?_
      refine vr_get (v := .int (md_readPairs m)) C nd_Md_readsChild_24 rfl fl_Md_122 (at_Md_0 m) rfl ?_
      refine vr_if_le C nd_Md_readsChild_27 (fun hc => ?_) (fun hc => ?_)
      · have h := no_t hc h
        refine vr_al C nd_Md_readsChild_32 rfl ?_
        refine vr_dup C nd_Md_readsChild_33 rfl rfl ?_
        refine vr_get (v := .int (md_place m)) C nd_Md_readsChild_34 rfl fl_Md_95 (at_Md_0 m) rfl ?_
        refine vr_ic C nd_Md_readsChild_37 ?_
        refine vr_iadd C nd_Md_readsChild_38 rfl ?_
        refine vr_puti (hp' := (rp_Md (ms_place m ((md_place m) + (1 : Int32))))) C nd_Md_readsChild_39 rfl fl_Md_95 (at_Md_0 m) rfl (st_Md_0_13 m ((md_place m) + (1 : Int32))) ?_
        refine vr_al C nd_Md_readsChild_42 rfl ?_
        refine vr_ic C nd_Md_readsChild_43 ?_
        obtain ⟨w5, hV6, h⟩ := no_b h
        refine vr_sVi (hp' := (rp_Md (w5.2))) [.int (9 : Int32)] [] C nd_Md_readsChild_45 rfl ml_Md_110 my_Md_figure (co_Md_figure (ms_place m ((md_place m) + (1 : Int32))) (9 : Int32) w5 hV6) ⟨_, _, _, rfl, rfl, rfl⟩ rfl rfl ⟨rfl, rfl, rfl, rfl⟩ (Nat.zero_le _) (Nat.zero_le _) rfl ?_
        refine vr_is (ls' := [some (.ref 0), some (.int w3), some (.int (w5.1))]) C nd_Md_readsChild_48 rfl rfl ?_
        refine vr_il C nd_Md_readsChild_49 rfl ?_
        refine vr_ic C nd_Md_readsChild_50 ?_
        refine vr_cm_ne C nd_Md_readsChild_52 (fun hc => ?_) (fun hc => ?_)
        · have h := no_f hc h
          refine vr_al C nd_Md_readsChild_57 rfl ?_
          refine vr_get (v := .ref 8) C nd_Md_readsChild_58 rfl fl_Md_35 (at_Md_0 (w5.2)) rfl ?_
          refine vr_ic C nd_Md_readsChild_61 ?_
          refine vr_al C nd_Md_readsChild_62 rfl ?_
          refine vr_get (v := .int (md_readMany (w5.2))) C nd_Md_readsChild_63 rfl fl_Md_119 (at_Md_0 (w5.2)) rfl ?_
          refine vr_imul C nd_Md_readsChild_66 rfl ?_
          refine vr_il C nd_Md_readsChild_67 rfl ?_
          obtain ⟨hN7, h⟩ := no_i h
          refine vr_iask (j := (nj_n ((2 : Int32) * (md_readMany (w5.2))))) (f := (md_readChildren (w5.2))) (hp' := (rp_Md (ms_readChildren (w5.2) (upd (md_readChildren (w5.2)) (nj_n ((2 : Int32) * (md_readMany (w5.2)))) w3)))) C nd_Md_readsChild_68 rfl (at_Md_8 (w5.2)) hN7 rfl (st_Md_8 (w5.2) (upd (md_readChildren (w5.2)) (nj_n ((2 : Int32) * (md_readMany (w5.2)))) w3)) ?_
          refine vr_al C nd_Md_readsChild_69 rfl ?_
          refine vr_get (v := .ref 8) C nd_Md_readsChild_70 rfl fl_Md_35 (at_Md_0 (ms_readChildren (w5.2) (upd (md_readChildren (w5.2)) (nj_n ((2 : Int32) * (md_readMany (w5.2)))) w3))) rfl ?_
          refine vr_ic C nd_Md_readsChild_73 ?_
          refine vr_al C nd_Md_readsChild_74 rfl ?_
          refine vr_get (v := .int (md_readMany (w5.2))) C nd_Md_readsChild_75 rfl fl_Md_119 (at_Md_0 (ms_readChildren (w5.2) (upd (md_readChildren (w5.2)) (nj_n ((2 : Int32) * (md_readMany (w5.2)))) w3))) rfl ?_
          refine vr_imul C nd_Md_readsChild_78 rfl ?_
          refine vr_ic C nd_Md_readsChild_79 ?_
          refine vr_iadd C nd_Md_readsChild_80 rfl ?_
          refine vr_il C nd_Md_readsChild_81 rfl ?_
          obtain ⟨hN8, h⟩ := no_i h
          refine vr_iask (j := (nj_n (((2 : Int32) * (md_readMany (w5.2))) + (1 : Int32)))) (f := (upd (md_readChildren (w5.2)) (nj_n ((2 : Int32) * (md_readMany (w5.2)))) w3)) (hp' := (rp_Md (ms_readChildren (w5.2) (upd (upd (md_readChildren (w5.2)) (nj_n ((2 : Int32) * (md_readMany (w5.2)))) w3) (nj_n (((2 : Int32) * (md_readMany (w5.2))) + (1 : Int32))) (w5.1))))) C nd_Md_readsChild_82 rfl (at_Md_8 (ms_readChildren (w5.2) (upd (md_readChildren (w5.2)) (nj_n ((2 : Int32) * (md_readMany (w5.2)))) w3))) hN8 rfl (st_Md_8 (ms_readChildren (w5.2) (upd (md_readChildren (w5.2)) (nj_n ((2 : Int32) * (md_readMany (w5.2)))) w3)) (upd (upd (md_readChildren (w5.2)) (nj_n ((2 : Int32) * (md_readMany (w5.2)))) w3) (nj_n (((2 : Int32) * (md_readMany (w5.2))) + (1 : Int32))) (w5.1))) ?_
          refine vr_al C nd_Md_readsChild_83 rfl ?_
          refine vr_dup C nd_Md_readsChild_84 rfl rfl ?_
          refine vr_get (v := .int (md_readMany (w5.2))) C nd_Md_readsChild_85 rfl fl_Md_119 (at_Md_0 (ms_readChildren (w5.2) (upd (upd (md_readChildren (w5.2)) (nj_n ((2 : Int32) * (md_readMany (w5.2)))) w3) (nj_n (((2 : Int32) * (md_readMany (w5.2))) + (1 : Int32))) (w5.1)))) rfl ?_
          refine vr_ic C nd_Md_readsChild_88 ?_
          refine vr_iadd C nd_Md_readsChild_89 rfl ?_
          refine vr_puti (hp' := (rp_Md (ms_readMany (ms_readChildren (w5.2) (upd (upd (md_readChildren (w5.2)) (nj_n ((2 : Int32) * (md_readMany (w5.2)))) w3) (nj_n (((2 : Int32) * (md_readMany (w5.2))) + (1 : Int32))) (w5.1))) ((md_readMany (w5.2)) + (1 : Int32))))) C nd_Md_readsChild_90 rfl fl_Md_119 (at_Md_0 (ms_readChildren (w5.2) (upd (upd (md_readChildren (w5.2)) (nj_n ((2 : Int32) * (md_readMany (w5.2)))) w3) (nj_n (((2 : Int32) * (md_readMany (w5.2))) + (1 : Int32))) (w5.1)))) rfl (st_Md_0_17 (ms_readChildren (w5.2) (upd (upd (md_readChildren (w5.2)) (nj_n ((2 : Int32) * (md_readMany (w5.2)))) w3) (nj_n (((2 : Int32) * (md_readMany (w5.2))) + (1 : Int32))) (w5.1))) ((md_readMany (w5.2)) + (1 : Int32))) ?_
          refine vr_ic C nd_Md_readsChild_93 ?_
          have h := no_s h
          subst h
          exact vr_zret true C hq nd_Md_readsChild_94 rfl
        · have h := no_t hc h
          refine vr_ic C nd_Md_readsChild_55 ?_
          have h := no_s h
          subst h
          exact vr_zret false C hq nd_Md_readsChild_56 rfl
      · have h := no_f hc h
        refine vr_ic C nd_Md_readsChild_30 ?_
        have h := no_s h
        subst h
        exact vr_zret false C hq nd_Md_readsChild_31 rfl
abbrev nr_Md_faultOf : Room := { frames := 3, cells := 0, slots := 0, locals := 68 }
theorem lw_Md_faultOf_35 {G : nj_G} {ad : Nat → Nat} (C : nj_C G nb_Md_faultOf 3 "NobodyJoinsModel" nr_Md_faultOf)  : ∀ (n : Nat) (m : MdS) (v2 : Int32) (x : MdS), lo_Md_faultOf_35  n m v2 = some x → nj_V G ad 0 0 54 [some (.ref 0), none, none] [] (rp_Md x) → nj_V G ad 0 0 35 [some (.ref 0), none, some (.int v2)] [] (rp_Md m) := by
  intro n
  induction n with
  | zero => intro m v2 x h; rw [lo_Md_faultOf_35] at h; cases h
  | succ n ih =>
    intro m v2 x h hk
    rw [lo_Md_faultOf_35] at h
    refine vr_il C nd_Md_faultOf_35 rfl ?_
    refine vr_ic C nd_Md_faultOf_36 ?_
    refine vr_cm_ge C nd_Md_faultOf_38 (fun hc => ?_) (fun hc => ?_)
    · have h := no_t hc h
      have h := no_s h
      subst h
      exact vr_wk [2] rfl hk
    · have h := no_f hc h
      refine vr_al C nd_Md_faultOf_41 rfl ?_
      refine vr_get (v := .ref 9) C nd_Md_faultOf_42 rfl fl_Md_38 (at_Md_0 m) rfl ?_
      refine vr_il C nd_Md_faultOf_45 rfl ?_
      refine vr_ic C nd_Md_faultOf_46 ?_
      obtain ⟨hN2, h⟩ := no_i h
      refine vr_iask (j := (nj_n v2)) (f := (md_readLikes m)) (hp' := (rp_Md (ms_readLikes m (upd (md_readLikes m) (nj_n v2) (0 : Int32))))) C nd_Md_faultOf_47 rfl (at_Md_9 m) hN2 rfl (st_Md_9 m (upd (md_readLikes m) (nj_n v2) (0 : Int32))) ?_
      refine vr_inc (v := (v2 + (1 : Int32))) (ls' := [some (.ref 0), none, some (.int (v2 + (1 : Int32)))]) C nd_Md_faultOf_48 rfl rfl rfl rfl rfl ?_
      refine vr_go C nd_Md_faultOf_51 ?_
      exact (ih _ _ _ h hk)
theorem lw_Md_faultOf_67 {G : nj_G} {ad : Nat → Nat} (C : nj_C G nb_Md_faultOf 3 "NobodyJoinsModel" nr_Md_faultOf)  : ∀ (n : Nat) (m : MdS) (v2 : Int32) (x : MdS × Int32), lo_Md_faultOf_67  n m v2 = some x → nj_V G ad 0 0 114 [some (.ref 0), none, some (.int (x.2))] [] (rp_Md (x.1)) → nj_V G ad 0 0 67 [some (.ref 0), none, some (.int v2)] [] (rp_Md m) := by
  intro n
  induction n with
  | zero => intro m v2 x h; rw [lo_Md_faultOf_67] at h; cases h
  | succ n ih =>
    intro m v2 x h hk
    rw [lo_Md_faultOf_67] at h
    refine vr_il C nd_Md_faultOf_67 rfl ?_
    refine vr_if_eq C nd_Md_faultOf_68 (fun hc => ?_) (fun hc => ?_)
    · have h := no_t hc h
      have h := no_s h
      subst h
      exact hk
    · have h := no_f hc h
      refine vr_al C nd_Md_faultOf_71 rfl ?_
      refine vr_get (v := .int (md_place m)) C nd_Md_faultOf_72 rfl fl_Md_95 (at_Md_0 m) rfl ?_
      refine vr_al C nd_Md_faultOf_75 rfl ?_
      refine vr_get (v := .int (md_stop m)) C nd_Md_faultOf_76 rfl fl_Md_98 (at_Md_0 m) rfl ?_
      refine vr_cm_ge C nd_Md_faultOf_79 (fun hc => ?_) (fun hc => ?_)
      · have h := no_t hc h
        have h := no_s h
        subst h
        exact hk
      · have h := no_f hc h
        refine vr_al C nd_Md_faultOf_82 rfl ?_
        obtain ⟨w10, hV11, h⟩ := no_b h
        refine vr_sVi (hp' := (rp_Md m)) [] [] C nd_Md_faultOf_83 rfl ml_Md_101 my_Md_here (co_Md_here m w10 hV11) ⟨_, _, _, rfl, rfl, rfl⟩ rfl rfl ⟨rfl, rfl, rfl, rfl⟩ (Nat.zero_le _) (Nat.zero_le _) rfl ?_
        refine vr_ic C nd_Md_faultOf_86 ?_
        obtain ⟨p12, hP19, h⟩ := no_b h
        have hj : nj_V G ad 0 0 102 [some (.ref 0), none, none] [.int (p12.1)] (rp_Md (p12.2)) := by
          refine vr_is (ls' := [some (.ref 0), none, some (.int (p12.1))]) C nd_Md_faultOf_102 rfl rfl ?_
          refine vr_il C nd_Md_faultOf_103 rfl ?_
          refine vr_if_eq C nd_Md_faultOf_104 (fun hc => ?_) (fun hc => ?_)
          · have h := no_t hc h
            exact (ih _ _ _ h hk)
          · have h := no_f hc h
            refine vr_al C nd_Md_faultOf_107 rfl ?_
            obtain ⟨w17, hV18, h⟩ := no_b h
            refine vr_sVv (hp' := (rp_Md w17)) [] [] C nd_Md_faultOf_108 rfl ml_Md_107 my_Md_skip (co_Md_skip (p12.2) w17 hV18) ⟨_, _, _, rfl, rfl, rfl⟩ rfl rfl ⟨rfl, rfl, rfl, rfl⟩ (Nat.zero_le _) (Nat.zero_le _) rfl ?_
            refine vr_go C nd_Md_faultOf_111 ?_
            exact (ih _ _ _ h hk)
        clear h
        have h := hP19
        clear hP19
        refine vr_cm_ne C nd_Md_faultOf_88 (fun hc => ?_) (fun hc => ?_)
        · have h := no_f hc h
          refine vr_al C nd_Md_faultOf_98 rfl ?_
          obtain ⟨w13, hV14, h⟩ := no_b h
          refine vr_sVi (hp' := (rp_Md (w13.2))) [] [] C nd_Md_faultOf_99 rfl ml_Md_136 my_Md_readsChild (co_Md_readsChild m w13 hV14) ⟨_, _, _, rfl, rfl, rfl⟩ rfl rfl ⟨rfl, rfl, rfl, rfl⟩ (Nat.zero_le _) (Nat.zero_le _) rfl ?_
          have h := no_s h
          subst h
          exact vr_wk [2] rfl hj
        · have h := no_t hc h
          refine vr_al C nd_Md_faultOf_91 rfl ?_
          obtain ⟨w15, hV16, h⟩ := no_b h
          refine vr_sVi (hp' := (rp_Md (w15.2))) [] [] C nd_Md_faultOf_92 rfl ml_Md_133 my_Md_readsPair (co_Md_readsPair m w15 hV16) ⟨_, _, _, rfl, rfl, rfl⟩ rfl rfl ⟨rfl, rfl, rfl, rfl⟩ (Nat.zero_le _) (Nat.zero_le _) rfl ?_
          refine vr_go C nd_Md_faultOf_95 ?_
          have h := no_s h
          subst h
          exact vr_wk [2] rfl hj
theorem co_Md_faultOf (m : MdS) (a1 : Int32) (x : Int32 × MdS) (h : mo_Md_faultOf m a1 = some x) : nj_Con ny_Md_faultOf nb_Md_faultOf 3 (some .int) nr_Md_faultOf (rp_Md m) [.ref 0, .int a1] (some (.int (x.1))) (rp_Md (x.2)) := by
  rw [mo_Md_faultOf] at h
  refine nj_con (by decide) rfl 1 rfl (fun G ad C hq => ?_)
  have C : nj_C G nb_Md_faultOf 3 "NobodyJoinsModel" nr_Md_faultOf := C
  show nj_V G ad 0 0 0 [some (.ref 0), some (.int a1), none] [] (rp_Md m)
  refine vr_al C nd_Md_faultOf_0 rfl ?_
  refine vr_ic C nd_Md_faultOf_1 ?_
  refine vr_il C nd_Md_faultOf_3 rfl ?_
  refine vr_imul C nd_Md_faultOf_4 rfl ?_
  refine vr_puti (hp' := (rp_Md (ms_from m ((60 : Int32) * a1)))) C nd_Md_faultOf_5 rfl fl_Md_92 (at_Md_0 m) rfl (st_Md_0_12 m ((60 : Int32) * a1)) ?_
  refine vr_al C nd_Md_faultOf_8 rfl ?_
  refine vr_ic C nd_Md_faultOf_9 ?_
  refine vr_puti (hp' := (rp_Md (ms_place (ms_from m ((60 : Int32) * a1)) (0 : Int32)))) C nd_Md_faultOf_10 rfl fl_Md_95 (at_Md_0 (ms_from m ((60 : Int32) * a1))) rfl (st_Md_0_13 (ms_from m ((60 : Int32) * a1)) (0 : Int32)) ?_
  refine vr_al C nd_Md_faultOf_13 rfl ?_
  refine vr_al C nd_Md_faultOf_14 rfl ?_
  refine vr_get (v := .ref 5) C nd_Md_faultOf_15 rfl fl_Md_22 (at_Md_0 (ms_place (ms_from m ((60 : Int32) * a1)) (0 : Int32))) rfl ?_
  refine vr_il C nd_Md_faultOf_18 rfl ?_
  obtain ⟨hN1, h⟩ := no_i h
  refine vr_ialk (j := (nj_n a1)) (f := (md_lengths m)) C nd_Md_faultOf_19 rfl (at_Md_5 (ms_place (ms_from m ((60 : Int32) * a1)) (0 : Int32))) hN1 rfl ?_
  refine vr_puti (hp' := (rp_Md (ms_stop (ms_place (ms_from m ((60 : Int32) * a1)) (0 : Int32)) ((md_lengths m) (nj_n a1))))) C nd_Md_faultOf_20 rfl fl_Md_98 (at_Md_0 (ms_place (ms_from m ((60 : Int32) * a1)) (0 : Int32))) rfl (st_Md_0_14 (ms_place (ms_from m ((60 : Int32) * a1)) (0 : Int32)) ((md_lengths m) (nj_n a1))) ?_
  refine vr_al C nd_Md_faultOf_23 rfl ?_
  refine vr_ic C nd_Md_faultOf_24 ?_
  refine vr_puti (hp' := (rp_Md (ms_readMany (ms_stop (ms_place (ms_from m ((60 : Int32) * a1)) (0 : Int32)) ((md_lengths m) (nj_n a1))) (0 : Int32)))) C nd_Md_faultOf_25 rfl fl_Md_119 (at_Md_0 (ms_stop (ms_place (ms_from m ((60 : Int32) * a1)) (0 : Int32)) ((md_lengths m) (nj_n a1)))) rfl (st_Md_0_17 (ms_stop (ms_place (ms_from m ((60 : Int32) * a1)) (0 : Int32)) ((md_lengths m) (nj_n a1))) (0 : Int32)) ?_
  refine vr_al C nd_Md_faultOf_28 rfl ?_
  refine vr_ic C nd_Md_faultOf_29 ?_
  refine vr_puti (hp' := (rp_Md (ms_readPairs (ms_readMany (ms_stop (ms_place (ms_from m ((60 : Int32) * a1)) (0 : Int32)) ((md_lengths m) (nj_n a1))) (0 : Int32)) (0 : Int32)))) C nd_Md_faultOf_30 rfl fl_Md_122 (at_Md_0 (ms_readMany (ms_stop (ms_place (ms_from m ((60 : Int32) * a1)) (0 : Int32)) ((md_lengths m) (nj_n a1))) (0 : Int32))) rfl (st_Md_0_19 (ms_readMany (ms_stop (ms_place (ms_from m ((60 : Int32) * a1)) (0 : Int32)) ((md_lengths m) (nj_n a1))) (0 : Int32)) (0 : Int32)) ?_
  refine vr_ic C nd_Md_faultOf_33 ?_
  refine vr_is (ls' := [some (.ref 0), some (.int a1), some (.int (0 : Int32))]) C nd_Md_faultOf_34 rfl rfl ?_
  refine vr_wk (ls' := [some (.ref 0), none, some (.int (0 : Int32))]) [1] rfl ?_
  obtain ⟨x3, hX4, h⟩ := no_b h
  refine lw_Md_faultOf_35 C  nj_fu _ _ x3 hX4 ?_
  refine vr_al C nd_Md_faultOf_54 rfl ?_
  obtain ⟨w5, hV6, h⟩ := no_b h
  refine vr_sVi (hp' := (rp_Md (w5.2))) [] [] C nd_Md_faultOf_55 rfl ml_Md_129 my_Md_readsRule (co_Md_readsRule x3 w5 hV6) ⟨_, _, _, rfl, rfl, rfl⟩ rfl rfl ⟨rfl, rfl, rfl, rfl⟩ (Nat.zero_le _) (Nat.zero_le _) rfl ?_
  refine vr_is (ls' := [some (.ref 0), none, some (.int (nj_b (w5.1)))]) C nd_Md_faultOf_58 rfl rfl ?_
  refine vr_il C nd_Md_faultOf_59 rfl ?_
  obtain ⟨p7, hP22, h⟩ := no_b h
  have hj : nj_V G ad 0 0 67 [some (.ref 0), none, some (.int (nj_b (w5.1)))] [] (rp_Md p7) := by
    obtain ⟨x20, hX21, h⟩ := no_b h
    refine lw_Md_faultOf_67 C  nj_fu _ _ x20 hX21 ?_
    refine vr_il C nd_Md_faultOf_114 rfl ?_
    refine vr_if_eq C nd_Md_faultOf_115 (fun hc => ?_) (fun hc => ?_)
    · have h := no_t hc h
      refine vr_al C nd_Md_faultOf_130 rfl ?_
      refine vr_get (v := .int (md_place (x20.1))) C nd_Md_faultOf_131 rfl fl_Md_95 (at_Md_0 (x20.1)) rfl ?_
      have h := no_s h
      subst h
      exact vr_iret C hq nd_Md_faultOf_134 rfl
    · have h := no_f hc h
      refine vr_al C nd_Md_faultOf_118 rfl ?_
      refine vr_get (v := .int (md_readMany (x20.1))) C nd_Md_faultOf_119 rfl fl_Md_119 (at_Md_0 (x20.1)) rfl ?_
      refine vr_if_le C nd_Md_faultOf_122 (fun hc => ?_) (fun hc => ?_)
      · have h := no_t hc h
        refine vr_al C nd_Md_faultOf_130 rfl ?_
        refine vr_get (v := .int (md_place (x20.1))) C nd_Md_faultOf_131 rfl fl_Md_95 (at_Md_0 (x20.1)) rfl ?_
        have h := no_s h
        subst h
        exact vr_iret C hq nd_Md_faultOf_134 rfl
      · have h := no_f hc h
        refine vr_ic C nd_Md_faultOf_125 ?_
        refine vr_go C nd_Md_faultOf_127 ?_
        have h := no_s h
        subst h
        exact vr_iret C hq nd_Md_faultOf_134 rfl
  clear h
  have h := hP22
  clear hP22
  refine vr_ifb_eq C nd_Md_faultOf_60 (fun hc => ?_) (fun hc => ?_)
  · have h := no_bf hc h
    have h := no_s h
    subst h
    exact hj
  · have h := no_bt hc h
    refine vr_al C nd_Md_faultOf_63 rfl ?_
    obtain ⟨w8, hV9, h⟩ := no_b h
    refine vr_sVv (hp' := (rp_Md w8)) [] [] C nd_Md_faultOf_64 rfl ml_Md_107 my_Md_skip (co_Md_skip (w5.2) w8 hV9) ⟨_, _, _, rfl, rfl, rfl⟩ rfl rfl ⟨rfl, rfl, rfl, rfl⟩ (Nat.zero_le _) (Nat.zero_le _) rfl ?_
    have h := no_s h
    subst h
    exact hj
abbrev nr_Md_fault : Room := { frames := 4, cells := 0, slots := 0, locals := 90 }
theorem co_Md_fault (m : MdS) (a1 : Int32) (x : Int32 × MdS) (h : mo_Md_fault m a1 = some x) : nj_Con ny_Md_fault nb_Md_fault 2 (some .int) nr_Md_fault (rp_Md m) [.ref 0, .int a1] (some (.int (x.1))) (rp_Md (x.2)) := by
  rw [mo_Md_fault] at h
  refine nj_con (by decide) rfl 0 rfl (fun G ad C hq => ?_)
  have C : nj_C G nb_Md_fault 2 "NobodyJoinsModel" nr_Md_fault := C
  show nj_V G ad 0 0 0 [some (.ref 0), some (.int a1)] [] (rp_Md m)
  refine vr_il C nd_Md_fault_0 rfl ?_
  obtain ⟨w1, hV2, h⟩ := no_b h
  refine vr_cSip [] [.int a1] [] C nd_Md_fault_1 rfl ml_Md_89 my_Md_isText (co_Md_isText a1 w1 hV2) (em_E _) rfl rfl ⟨rfl, rfl, rfl, rfl⟩ (Nat.zero_le _) (Nat.zero_le _) rfl ?_
  refine vr_ifb_ne C nd_Md_fault_4 (fun hc => ?_) (fun hc => ?_)
  · have h := no_bt hc h
    refine vr_al C nd_Md_fault_9 rfl ?_
    refine vr_get (v := .ref 5) C nd_Md_fault_10 rfl fl_Md_22 (at_Md_0 m) rfl ?_
    refine vr_il C nd_Md_fault_13 rfl ?_
    obtain ⟨hN3, h⟩ := no_i h
    refine vr_ialk (j := (nj_n a1)) (f := (md_lengths m)) C nd_Md_fault_14 rfl (at_Md_5 m) hN3 rfl ?_
    refine vr_if_ge C nd_Md_fault_15 (fun hc => ?_) (fun hc => ?_)
    · have h := no_t hc h
      refine vr_al C nd_Md_fault_26 rfl ?_
      refine vr_il C nd_Md_fault_27 rfl ?_
      obtain ⟨w4, hV5, h⟩ := no_b h
      refine vr_sVi (hp' := (rp_Md (w4.2))) [.int a1] [] C nd_Md_fault_28 rfl ml_Md_139 my_Md_faultOf (co_Md_faultOf m a1 w4 hV5) ⟨_, _, _, rfl, rfl, rfl⟩ rfl rfl ⟨rfl, rfl, rfl, rfl⟩ (Nat.zero_le _) (Nat.zero_le _) rfl ?_
      have h := no_s h
      subst h
      exact vr_iret C hq nd_Md_fault_31 rfl
    · have h := no_f hc h
      refine vr_al C nd_Md_fault_18 rfl ?_
      refine vr_ic C nd_Md_fault_19 ?_
      obtain ⟨w6, hV7, h⟩ := no_b h
      refine vr_sVi (hp' := (rp_Md (w6.2))) [.int (1 : Int32)] [] C nd_Md_fault_20 rfl ml_Md_70 my_Md_find (co_Md_find m (1 : Int32) w6 hV7) ⟨_, _, _, rfl, rfl, rfl⟩ rfl rfl ⟨rfl, rfl, rfl, rfl⟩ (Nat.zero_le _) (Nat.zero_le _) rfl ?_
      refine vr_go C nd_Md_fault_23 ?_
      have h := no_s h
      subst h
      exact vr_iret C hq nd_Md_fault_31 rfl
  · have h := no_bf hc h
    refine vr_ic C nd_Md_fault_7 ?_
    have h := no_s h
    subst h
    exact vr_iret C hq nd_Md_fault_8 rfl
abbrev nr_Md_club : Room := { frames := 4, cells := 0, slots := 0, locals := 90 }
theorem lw_Md_club_47 {G : nj_G} {ad : Nat → Nat} (C : nj_C G nb_Md_club 3 "NobodyJoinsModel" nr_Md_club)  : ∀ (n : Nat) (m : MdS) (v2 : Int32) (x : MdS), lo_Md_club_47  n m v2 = some x → nj_V G ad 0 0 67 [some (.ref 0), none, none] [] (rp_Md x) → nj_V G ad 0 0 47 [some (.ref 0), none, some (.int v2)] [] (rp_Md m) := by
  intro n
  induction n with
  | zero => intro m v2 x h; rw [lo_Md_club_47] at h; cases h
  | succ n ih =>
    intro m v2 x h hk
    rw [lo_Md_club_47] at h
    refine vr_il C nd_Md_club_47 rfl ?_
    refine vr_ic C nd_Md_club_48 ?_
    refine vr_cm_ge C nd_Md_club_51 (fun hc => ?_) (fun hc => ?_)
    · have h := no_t hc h
      have h := no_s h
      subst h
      exact vr_wk [2] rfl hk
    · have h := no_f hc h
      refine vr_al C nd_Md_club_54 rfl ?_
      refine vr_get (v := .ref 1) C nd_Md_club_55 rfl fl_Md_7 (at_Md_0 m) rfl ?_
      refine vr_il C nd_Md_club_58 rfl ?_
      refine vr_ic C nd_Md_club_59 ?_
      obtain ⟨hN6, h⟩ := no_i h
      refine vr_iask (j := (nj_n v2)) (f := (md_row m)) (hp' := (rp_Md (ms_row m (upd (md_row m) (nj_n v2) (0 : Int32))))) C nd_Md_club_60 rfl (at_Md_1 m) hN6 rfl (st_Md_1 m (upd (md_row m) (nj_n v2) (0 : Int32))) ?_
      refine vr_inc (v := (v2 + (1 : Int32))) (ls' := [some (.ref 0), none, some (.int (v2 + (1 : Int32)))]) C nd_Md_club_61 rfl rfl rfl rfl rfl ?_
      refine vr_go C nd_Md_club_64 ?_
      exact (ih _ _ _ h hk)
theorem lw_Md_club_94 {G : nj_G} {ad : Nat → Nat} (C : nj_C G nb_Md_club 3 "NobodyJoinsModel" nr_Md_club)  : ∀ (n : Nat) (m : MdS) (v2 : Int32) (x : MdS), lo_Md_club_94  n m v2 = some x → nj_V G ad 0 0 155 [some (.ref 0), none, none] [] (rp_Md x) → nj_V G ad 0 0 94 [some (.ref 0), none, some (.int v2)] [] (rp_Md m) := by
  intro n
  induction n with
  | zero => intro m v2 x h; rw [lo_Md_club_94] at h; cases h
  | succ n ih =>
    intro m v2 x h hk
    rw [lo_Md_club_94] at h
    refine vr_il C nd_Md_club_94 rfl ?_
    refine vr_al C nd_Md_club_95 rfl ?_
    refine vr_get (v := .int (md_children m)) C nd_Md_club_96 rfl fl_Md_142 (at_Md_0 m) rfl ?_
    refine vr_cm_ge C nd_Md_club_99 (fun hc => ?_) (fun hc => ?_)
    · have h := no_t hc h
      have h := no_s h
      subst h
      exact vr_wk [2] rfl hk
    · have h := no_f hc h
      refine vr_al C nd_Md_club_102 rfl ?_
      refine vr_get (v := .ref 2) C nd_Md_club_103 rfl fl_Md_13 (at_Md_0 m) rfl ?_
      refine vr_il C nd_Md_club_106 rfl ?_
      refine vr_al C nd_Md_club_107 rfl ?_
      refine vr_get (v := .ref 8) C nd_Md_club_108 rfl fl_Md_35 (at_Md_0 m) rfl ?_
      refine vr_ic C nd_Md_club_111 ?_
      refine vr_il C nd_Md_club_112 rfl ?_
      refine vr_imul C nd_Md_club_113 rfl ?_
      obtain ⟨hN9, h⟩ := no_i h
      refine vr_ialk (j := (nj_n ((2 : Int32) * v2))) (f := (md_readChildren m)) C nd_Md_club_114 rfl (at_Md_8 m) hN9 rfl ?_
      obtain ⟨hN10, h⟩ := no_i h
      refine vr_iask (j := (nj_n v2)) (f := (md_kinds m)) (hp' := (rp_Md (ms_kinds m (upd (md_kinds m) (nj_n v2) ((md_readChildren m) (nj_n ((2 : Int32) * v2))))))) C nd_Md_club_115 rfl (at_Md_2 m) hN10 rfl (st_Md_2 m (upd (md_kinds m) (nj_n v2) ((md_readChildren m) (nj_n ((2 : Int32) * v2))))) ?_
      refine vr_al C nd_Md_club_116 rfl ?_
      refine vr_get (v := .ref 1) C nd_Md_club_117 rfl fl_Md_7 (at_Md_0 (ms_kinds m (upd (md_kinds m) (nj_n v2) ((md_readChildren m) (nj_n ((2 : Int32) * v2)))))) rfl ?_
      refine vr_ic C nd_Md_club_120 ?_
      refine vr_il C nd_Md_club_121 rfl ?_
      refine vr_iadd C nd_Md_club_122 rfl ?_
      refine vr_al C nd_Md_club_123 rfl ?_
      refine vr_get (v := .ref 8) C nd_Md_club_124 rfl fl_Md_35 (at_Md_0 (ms_kinds m (upd (md_kinds m) (nj_n v2) ((md_readChildren m) (nj_n ((2 : Int32) * v2)))))) rfl ?_
      refine vr_ic C nd_Md_club_127 ?_
      refine vr_il C nd_Md_club_128 rfl ?_
      refine vr_imul C nd_Md_club_129 rfl ?_
      refine vr_ic C nd_Md_club_130 ?_
      refine vr_iadd C nd_Md_club_131 rfl ?_
      obtain ⟨hN11, h⟩ := no_i h
      refine vr_ialk (j := (nj_n (((2 : Int32) * v2) + (1 : Int32)))) (f := (md_readChildren m)) C nd_Md_club_132 rfl (at_Md_8 (ms_kinds m (upd (md_kinds m) (nj_n v2) ((md_readChildren m) (nj_n ((2 : Int32) * v2)))))) hN11 rfl ?_
      obtain ⟨hN12, h⟩ := no_i h
      refine vr_iask (j := (nj_n ((3 : Int32) + v2))) (f := (md_row m)) (hp' := (rp_Md (ms_row (ms_kinds m (upd (md_kinds m) (nj_n v2) ((md_readChildren m) (nj_n ((2 : Int32) * v2))))) (upd (md_row m) (nj_n ((3 : Int32) + v2)) ((md_readChildren m) (nj_n (((2 : Int32) * v2) + (1 : Int32)))))))) C nd_Md_club_133 rfl (at_Md_1 (ms_kinds m (upd (md_kinds m) (nj_n v2) ((md_readChildren m) (nj_n ((2 : Int32) * v2)))))) hN12 rfl (st_Md_1 (ms_kinds m (upd (md_kinds m) (nj_n v2) ((md_readChildren m) (nj_n ((2 : Int32) * v2))))) (upd (md_row m) (nj_n ((3 : Int32) + v2)) ((md_readChildren m) (nj_n (((2 : Int32) * v2) + (1 : Int32)))))) ?_
      refine vr_al C nd_Md_club_134 rfl ?_
      refine vr_get (v := .ref 1) C nd_Md_club_135 rfl fl_Md_7 (at_Md_0 (ms_row (ms_kinds m (upd (md_kinds m) (nj_n v2) ((md_readChildren m) (nj_n ((2 : Int32) * v2))))) (upd (md_row m) (nj_n ((3 : Int32) + v2)) ((md_readChildren m) (nj_n (((2 : Int32) * v2) + (1 : Int32))))))) rfl ?_
      refine vr_ic C nd_Md_club_138 ?_
      refine vr_il C nd_Md_club_140 rfl ?_
      refine vr_iadd C nd_Md_club_141 rfl ?_
      refine vr_al C nd_Md_club_142 rfl ?_
      refine vr_get (v := .ref 9) C nd_Md_club_143 rfl fl_Md_38 (at_Md_0 (ms_row (ms_kinds m (upd (md_kinds m) (nj_n v2) ((md_readChildren m) (nj_n ((2 : Int32) * v2))))) (upd (md_row m) (nj_n ((3 : Int32) + v2)) ((md_readChildren m) (nj_n (((2 : Int32) * v2) + (1 : Int32))))))) rfl ?_
      refine vr_il C nd_Md_club_146 rfl ?_
      obtain ⟨hN13, h⟩ := no_i h
      refine vr_ialk (j := (nj_n v2)) (f := (md_readLikes m)) C nd_Md_club_147 rfl (at_Md_9 (ms_row (ms_kinds m (upd (md_kinds m) (nj_n v2) ((md_readChildren m) (nj_n ((2 : Int32) * v2))))) (upd (md_row m) (nj_n ((3 : Int32) + v2)) ((md_readChildren m) (nj_n (((2 : Int32) * v2) + (1 : Int32))))))) hN13 rfl ?_
      obtain ⟨hN14, h⟩ := no_i h
      refine vr_iask (j := (nj_n ((9 : Int32) + v2))) (f := (upd (md_row m) (nj_n ((3 : Int32) + v2)) ((md_readChildren m) (nj_n (((2 : Int32) * v2) + (1 : Int32)))))) (hp' := (rp_Md (ms_row (ms_kinds m (upd (md_kinds m) (nj_n v2) ((md_readChildren m) (nj_n ((2 : Int32) * v2))))) (upd (upd (md_row m) (nj_n ((3 : Int32) + v2)) ((md_readChildren m) (nj_n (((2 : Int32) * v2) + (1 : Int32))))) (nj_n ((9 : Int32) + v2)) ((md_readLikes m) (nj_n v2)))))) C nd_Md_club_148 rfl (at_Md_1 (ms_row (ms_kinds m (upd (md_kinds m) (nj_n v2) ((md_readChildren m) (nj_n ((2 : Int32) * v2))))) (upd (md_row m) (nj_n ((3 : Int32) + v2)) ((md_readChildren m) (nj_n (((2 : Int32) * v2) + (1 : Int32))))))) hN14 rfl (st_Md_1 (ms_row (ms_kinds m (upd (md_kinds m) (nj_n v2) ((md_readChildren m) (nj_n ((2 : Int32) * v2))))) (upd (md_row m) (nj_n ((3 : Int32) + v2)) ((md_readChildren m) (nj_n (((2 : Int32) * v2) + (1 : Int32)))))) (upd (upd (md_row m) (nj_n ((3 : Int32) + v2)) ((md_readChildren m) (nj_n (((2 : Int32) * v2) + (1 : Int32))))) (nj_n ((9 : Int32) + v2)) ((md_readLikes m) (nj_n v2)))) ?_
      refine vr_inc (v := (v2 + (1 : Int32))) (ls' := [some (.ref 0), none, some (.int (v2 + (1 : Int32)))]) C nd_Md_club_149 rfl rfl rfl rfl rfl ?_
      refine vr_go C nd_Md_club_152 ?_
      exact (ih _ _ _ h hk)
theorem lw_Md_club_157 {G : nj_G} {ad : Nat → Nat} (C : nj_C G nb_Md_club 3 "NobodyJoinsModel" nr_Md_club)  : ∀ (n : Nat) (m : MdS) (v2 : Int32) (x : MdS), lo_Md_club_157  n m v2 = some x → nj_V G ad 0 0 181 [some (.ref 0), none, none] [] (rp_Md x) → nj_V G ad 0 0 157 [some (.ref 0), none, some (.int v2)] [] (rp_Md m) := by
  intro n
  induction n with
  | zero => intro m v2 x h; rw [lo_Md_club_157] at h; cases h
  | succ n ih =>
    intro m v2 x h hk
    rw [lo_Md_club_157] at h
    refine vr_il C nd_Md_club_157 rfl ?_
    refine vr_ic C nd_Md_club_158 ?_
    refine vr_cm_ge C nd_Md_club_159 (fun hc => ?_) (fun hc => ?_)
    · have h := no_t hc h
      have h := no_s h
      subst h
      exact vr_wk [2] rfl hk
    · have h := no_f hc h
      refine vr_al C nd_Md_club_162 rfl ?_
      refine vr_get (v := .ref 1) C nd_Md_club_163 rfl fl_Md_7 (at_Md_0 m) rfl ?_
      refine vr_ic C nd_Md_club_166 ?_
      refine vr_il C nd_Md_club_169 rfl ?_
      refine vr_imul C nd_Md_club_170 rfl ?_
      refine vr_ic C nd_Md_club_171 ?_
      refine vr_iadd C nd_Md_club_172 rfl ?_
      refine vr_ic C nd_Md_club_173 ?_
      obtain ⟨hN17, h⟩ := no_i h
      refine vr_iask (j := (nj_n (((576 : Int32) * v2) + (0 : Int32)))) (f := (md_row m)) (hp' := (rp_Md (ms_row m (upd (md_row m) (nj_n (((576 : Int32) * v2) + (0 : Int32))) (-1 : Int32))))) C nd_Md_club_174 rfl (at_Md_1 m) hN17 rfl (st_Md_1 m (upd (md_row m) (nj_n (((576 : Int32) * v2) + (0 : Int32))) (-1 : Int32))) ?_
      refine vr_inc (v := (v2 + (1 : Int32))) (ls' := [some (.ref 0), none, some (.int (v2 + (1 : Int32)))]) C nd_Md_club_175 rfl rfl rfl rfl rfl ?_
      refine vr_go C nd_Md_club_178 ?_
      exact (ih _ _ _ h hk)
theorem co_Md_club (m : MdS) (a1 : Int32) (x : Int32 × MdS) (h : mo_Md_club m a1 = some x) : nj_Con ny_Md_club nb_Md_club 3 (some .int) nr_Md_club (rp_Md m) [.ref 0, .int a1] (some (.int (x.1))) (rp_Md (x.2)) := by
  rw [mo_Md_club] at h
  refine nj_con (by decide) rfl 1 rfl (fun G ad C hq => ?_)
  have C : nj_C G nb_Md_club 3 "NobodyJoinsModel" nr_Md_club := C
  show nj_V G ad 0 0 0 [some (.ref 0), some (.int a1), none] [] (rp_Md m)
  refine vr_il C nd_Md_club_0 rfl ?_
  obtain ⟨w1, hV2, h⟩ := no_b h
  refine vr_cSip [] [.int a1] [] C nd_Md_club_1 rfl ml_Md_89 my_Md_isText (co_Md_isText a1 w1 hV2) (em_E _) rfl rfl ⟨rfl, rfl, rfl, rfl⟩ (Nat.zero_le _) (Nat.zero_le _) rfl ?_
  refine vr_ifb_ne C nd_Md_club_4 (fun hc => ?_) (fun hc => ?_)
  · have h := no_bt hc h
    refine vr_al C nd_Md_club_9 rfl ?_
    refine vr_get (v := .ref 5) C nd_Md_club_10 rfl fl_Md_22 (at_Md_0 m) rfl ?_
    refine vr_il C nd_Md_club_13 rfl ?_
    obtain ⟨hN3, h⟩ := no_i h
    refine vr_ialk (j := (nj_n a1)) (f := (md_lengths m)) C nd_Md_club_14 rfl (at_Md_5 m) hN3 rfl ?_
    refine vr_if_ge C nd_Md_club_15 (fun hc => ?_) (fun hc => ?_)
    · have h := no_t hc h
      refine vr_al C nd_Md_club_24 rfl ?_
      refine vr_il C nd_Md_club_25 rfl ?_
      obtain ⟨w4, hV5, h⟩ := no_b h
      refine vr_sVi (hp' := (rp_Md (w4.2))) [.int a1] [] C nd_Md_club_26 rfl ml_Md_139 my_Md_faultOf (co_Md_faultOf m a1 w4 hV5) ⟨_, _, _, rfl, rfl, rfl⟩ rfl rfl ⟨rfl, rfl, rfl, rfl⟩ (Nat.zero_le _) (Nat.zero_le _) rfl ?_
      refine vr_ic C nd_Md_club_29 ?_
      refine vr_cm_eq C nd_Md_club_31 (fun hc => ?_) (fun hc => ?_)
      · have h := no_t hc h
        refine vr_al C nd_Md_club_37 rfl ?_
        refine vr_al C nd_Md_club_38 rfl ?_
        refine vr_get (v := .int (md_readMany (w4.2))) C nd_Md_club_39 rfl fl_Md_119 (at_Md_0 (w4.2)) rfl ?_
        refine vr_puti (hp' := (rp_Md (ms_children (w4.2) (md_readMany (w4.2))))) C nd_Md_club_42 rfl fl_Md_142 (at_Md_0 (w4.2)) rfl (st_Md_0_1 (w4.2) (md_readMany (w4.2))) ?_
        refine vr_ic C nd_Md_club_45 ?_
        refine vr_is (ls' := [some (.ref 0), some (.int a1), some (.int (0 : Int32))]) C nd_Md_club_46 rfl rfl ?_
        refine vr_wk (ls' := [some (.ref 0), none, some (.int (0 : Int32))]) [1] rfl ?_
        obtain ⟨x7, hX8, h⟩ := no_b h
        refine lw_Md_club_47 C  nj_fu _ _ x7 hX8 ?_
        refine vr_al C nd_Md_club_67 rfl ?_
        refine vr_get (v := .ref 1) C nd_Md_club_68 rfl fl_Md_7 (at_Md_0 x7) rfl ?_
        refine vr_ic C nd_Md_club_71 ?_
        refine vr_al C nd_Md_club_73 rfl ?_
        refine vr_get (v := .int (md_readRule x7)) C nd_Md_club_74 rfl fl_Md_113 (at_Md_0 x7) rfl ?_
        refine vr_iask (j := 15) (f := (md_row x7)) (hp' := (rp_Md (ms_row x7 (upd (md_row x7) 15 (md_readRule x7))))) C nd_Md_club_77 rfl (at_Md_1 x7) (nj_inc rfl) rfl (st_Md_1 x7 (upd (md_row x7) 15 (md_readRule x7))) ?_
        refine vr_al C nd_Md_club_78 rfl ?_
        refine vr_get (v := .ref 1) C nd_Md_club_79 rfl fl_Md_7 (at_Md_0 (ms_row x7 (upd (md_row x7) 15 (md_readRule x7)))) rfl ?_
        refine vr_ic C nd_Md_club_82 ?_
        refine vr_ic C nd_Md_club_83 ?_
        refine vr_al C nd_Md_club_84 rfl ?_
        refine vr_get (v := .int (md_children x7)) C nd_Md_club_85 rfl fl_Md_142 (at_Md_0 (ms_row x7 (upd (md_row x7) 15 (md_readRule x7)))) rfl ?_
        refine vr_ishl C nd_Md_club_88 rfl ?_
        refine vr_ic C nd_Md_club_89 ?_
        refine vr_isub C nd_Md_club_90 rfl ?_
        refine vr_iask (j := 1) (f := (upd (md_row x7) 15 (md_readRule x7))) (hp' := (rp_Md (ms_row x7 (upd (upd (md_row x7) 15 (md_readRule x7)) 1 (((1 : Int32) <<< ((md_children x7) &&& 31)) - (1 : Int32)))))) C nd_Md_club_91 rfl (at_Md_1 (ms_row x7 (upd (md_row x7) 15 (md_readRule x7)))) (nj_inc rfl) rfl (st_Md_1 (ms_row x7 (upd (md_row x7) 15 (md_readRule x7))) (upd (upd (md_row x7) 15 (md_readRule x7)) 1 (((1 : Int32) <<< ((md_children x7) &&& 31)) - (1 : Int32)))) ?_
        refine vr_ic C nd_Md_club_92 ?_
        refine vr_is (ls' := [some (.ref 0), none, some (.int (0 : Int32))]) C nd_Md_club_93 rfl rfl ?_
        obtain ⟨x15, hX16, h⟩ := no_b h
        refine lw_Md_club_94 C  nj_fu _ _ x15 hX16 ?_
        refine vr_ic C nd_Md_club_155 ?_
        refine vr_is (ls' := [some (.ref 0), none, some (.int (1 : Int32))]) C nd_Md_club_156 rfl rfl ?_
        obtain ⟨x18, hX19, h⟩ := no_b h
        refine lw_Md_club_157 C  nj_fu _ _ x18 hX19 ?_
        refine vr_al C nd_Md_club_181 rfl ?_
        refine vr_get (v := .int (md_children x18)) C nd_Md_club_182 rfl fl_Md_142 (at_Md_0 x18) rfl ?_
        have h := no_s h
        subst h
        exact vr_iret C hq nd_Md_club_185 rfl
      · have h := no_f hc h
        refine vr_ic C nd_Md_club_34 ?_
        have h := no_s h
        subst h
        exact vr_iret C hq nd_Md_club_36 rfl
    · have h := no_f hc h
      refine vr_al C nd_Md_club_18 rfl ?_
      refine vr_ic C nd_Md_club_19 ?_
      obtain ⟨w20, hV21, h⟩ := no_b h
      refine vr_sVi (hp' := (rp_Md (w20.2))) [.int (1 : Int32)] [] C nd_Md_club_20 rfl ml_Md_70 my_Md_find (co_Md_find m (1 : Int32) w20 hV21) ⟨_, _, _, rfl, rfl, rfl⟩ rfl rfl ⟨rfl, rfl, rfl, rfl⟩ (Nat.zero_le _) (Nat.zero_le _) rfl ?_
      have h := no_s h
      subst h
      exact vr_iret C hq nd_Md_club_23 rfl
  · have h := no_bf hc h
    refine vr_ic C nd_Md_club_7 ?_
    have h := no_s h
    subst h
    exact vr_iret C hq nd_Md_club_8 rfl
abbrev nr_Md_isChild : Room := { frames := 1, cells := 0, slots := 0, locals := 25 }
theorem co_Md_isChild (m : MdS) (a1 : Int32) (x : Bool) (h : mo_Md_isChild m a1 = some x) : nj_Con ny_Md_isChild nb_Md_isChild 2 (some .boolean) nr_Md_isChild (rp_Md m) [.ref 0, .int a1] (some (.int (nj_b x))) (rp_Md m) := by
  rw [mo_Md_isChild] at h
  refine nj_con (by decide) rfl 0 rfl (fun G ad C hq => ?_)
  have C : nj_C G nb_Md_isChild 2 "NobodyJoinsModel" nr_Md_isChild := C
  show nj_V G ad 0 0 0 [some (.ref 0), some (.int a1)] [] (rp_Md m)
  refine vr_il C nd_Md_isChild_0 rfl ?_
  refine vr_i2l C nd_Md_isChild_1 rfl ?_
  refine vr_lc (v := (0 : Int64)) C nd_Md_isChild_2 rfl (by decide) ?_
  refine vr_al C nd_Md_isChild_3 rfl ?_
  refine vr_get (v := .int (md_children m)) C nd_Md_isChild_4 rfl fl_Md_142 (at_Md_0 m) rfl ?_
  refine vr_ic C nd_Md_isChild_7 ?_
  refine vr_isub C nd_Md_isChild_8 rfl ?_
  refine vr_i2l C nd_Md_isChild_9 rfl ?_
  obtain ⟨w1, hV2, h⟩ := no_b h
  refine vr_cSip [] [.long (Int32.toInt64 a1), .long (0 : Int64), .long (Int32.toInt64 ((md_children m) - (1 : Int32)))] [] C nd_Md_isChild_10 rfl ml_Md_60 my_Md_in (co_Md_in (Int32.toInt64 a1) (0 : Int64) (Int32.toInt64 ((md_children m) - (1 : Int32))) w1 hV2) (em_E _) rfl rfl ⟨rfl, rfl, rfl, rfl⟩ (Nat.zero_le _) (Nat.zero_le _) rfl ?_
  have h := no_s h
  subst h
  exact vr_zret _ C hq nd_Md_isChild_13 rfl
abbrev nr_Md_votes : Room := { frames := 0, cells := 0, slots := 0, locals := 0 }
theorem co_Md_votes (m : MdS) (a1 : Int32) (x : Int32) (h : mo_Md_votes m a1 = some x) : nj_Con ny_Md_votes nb_Md_votes 2 (some .int) nr_Md_votes (rp_Md m) [.ref 0, .int a1] (some (.int x)) (rp_Md m) := by
  rw [mo_Md_votes] at h
  refine nj_con (by decide) rfl 0 rfl (fun G ad C hq => ?_)
  have C : nj_C G nb_Md_votes 2 "NobodyJoinsModel" nr_Md_votes := C
  show nj_V G ad 0 0 0 [some (.ref 0), some (.int a1)] [] (rp_Md m)
  refine vr_al C nd_Md_votes_0 rfl ?_
  refine vr_get (v := .ref 2) C nd_Md_votes_1 rfl fl_Md_13 (at_Md_0 m) rfl ?_
  refine vr_il C nd_Md_votes_4 rfl ?_
  obtain ⟨hN1, h⟩ := no_i h
  refine vr_ialk (j := (nj_n a1)) (f := (md_kinds m)) C nd_Md_votes_5 rfl (at_Md_2 m) hN1 rfl ?_
  by_cases hS2 : ((md_kinds m) (nj_n a1)) = (1 : Int32)
  · have h := no_t hS2 h
    refine vr_tsI (1 : Int32) C nd_Md_votes_6 hS2 (by decide) (by decide) rfl rfl ?_
    refine vr_ic C nd_Md_votes_40 ?_
    have h := no_s h
    subst h
    exact vr_iret C hq nd_Md_votes_41 rfl
  have h := no_f hS2 h
  by_cases hS3 : ((md_kinds m) (nj_n a1)) = (2 : Int32)
  · have h := no_t hS3 h
    refine vr_tsI (2 : Int32) C nd_Md_votes_6 hS3 (by decide) (by decide) rfl rfl ?_
    refine vr_ic C nd_Md_votes_64 ?_
    have h := no_s h
    subst h
    exact vr_iret C hq nd_Md_votes_65 rfl
  have h := no_f hS3 h
  by_cases hS5 : ((md_kinds m) (nj_n a1)) = (3 : Int32)
  · have h := no_t hS5 h
    refine vr_tsI (3 : Int32) C nd_Md_votes_6 hS5 (by decide) (by decide) rfl rfl ?_
    refine vr_al C nd_Md_votes_44 rfl ?_
    refine vr_get (v := .ref 1) C nd_Md_votes_45 rfl fl_Md_7 (at_Md_0 m) rfl ?_
    refine vr_ic C nd_Md_votes_48 ?_
    refine vr_il C nd_Md_votes_49 rfl ?_
    refine vr_iadd C nd_Md_votes_50 rfl ?_
    obtain ⟨hN4, h⟩ := no_i h
    refine vr_ialk (j := (nj_n ((3 : Int32) + a1))) (f := (md_row m)) C nd_Md_votes_51 rfl (at_Md_1 m) hN4 rfl ?_
    refine vr_ic C nd_Md_votes_52 ?_
    refine vr_cm_le C nd_Md_votes_53 (fun hc => ?_) (fun hc => ?_)
    · have h := no_t hc h
      refine vr_ic C nd_Md_votes_60 ?_
      have h := no_s h
      subst h
      exact vr_iret C hq nd_Md_votes_61 rfl
    · have h := no_f hc h
      refine vr_ic C nd_Md_votes_56 ?_
      refine vr_go C nd_Md_votes_57 ?_
      have h := no_s h
      subst h
      exact vr_iret C hq nd_Md_votes_61 rfl
  have h := no_f hS5 h
  by_cases hS6 : ((md_kinds m) (nj_n a1)) = (4 : Int32)
  · have h := no_t hS6 h
    refine vr_tsI (4 : Int32) C nd_Md_votes_6 hS6 (by decide) (by decide) rfl rfl ?_
    refine vr_ic C nd_Md_votes_42 ?_
    have h := no_s h
    subst h
    exact vr_iret C hq nd_Md_votes_43 rfl
  have h := no_f hS6 h
  by_cases hS7 : ((md_kinds m) (nj_n a1)) = (5 : Int32)
  · have h := no_t hS7 h
    refine vr_tsI (5 : Int32) C nd_Md_votes_6 hS7 (by decide) (by decide) rfl rfl ?_
    refine vr_ic C nd_Md_votes_62 ?_
    have h := no_s h
    subst h
    exact vr_iret C hq nd_Md_votes_63 rfl
  have h := no_f hS7 h
  refine vr_tsO C nd_Md_votes_6 (by have a0 := lv_neT (a := 1) hS2 (by decide); have a1 := lv_neT (a := 2) hS3 (by decide); have a2 := lv_neT (a := 3) hS5 (by decide); have a3 := lv_neT (a := 4) hS6 (by decide); have a4 := lv_neT (a := 5) hS7 (by decide); omega) rfl ?_
  refine vr_ic C nd_Md_votes_64 ?_
  have h := no_s h
  subst h
  exact vr_iret C hq nd_Md_votes_65 rfl
abbrev nr_Md_likes : Room := { frames := 1, cells := 0, slots := 0, locals := 21 }
theorem co_Md_likes (m : MdS) (a1 : Int32) (a2 : Int32) (x : Bool) (h : mo_Md_likes m a1 a2 = some x) : nj_Con ny_Md_likes nb_Md_likes 3 (some .boolean) nr_Md_likes (rp_Md m) [.ref 0, .int a1, .int a2] (some (.int (nj_b x))) (rp_Md m) := by
  rw [mo_Md_likes] at h
  refine nj_con (by decide) rfl 0 rfl (fun G ad C hq => ?_)
  have C : nj_C G nb_Md_likes 3 "NobodyJoinsModel" nr_Md_likes := C
  show nj_V G ad 0 0 0 [some (.ref 0), some (.int a1), some (.int a2)] [] (rp_Md m)
  refine vr_al C nd_Md_likes_0 rfl ?_
  refine vr_get (v := .ref 1) C nd_Md_likes_1 rfl fl_Md_7 (at_Md_0 m) rfl ?_
  refine vr_ic C nd_Md_likes_4 ?_
  refine vr_il C nd_Md_likes_6 rfl ?_
  refine vr_iadd C nd_Md_likes_7 rfl ?_
  obtain ⟨hN1, h⟩ := no_i h
  refine vr_ialk (j := (nj_n ((9 : Int32) + a1))) (f := (md_row m)) C nd_Md_likes_8 rfl (at_Md_1 m) hN1 rfl ?_
  refine vr_il C nd_Md_likes_9 rfl ?_
  obtain ⟨w2, hV3, h⟩ := no_b h
  refine vr_cSip [] [.int ((md_row m) (nj_n ((9 : Int32) + a1))), .int a2] [] C nd_Md_likes_10 rfl ml_Md_125 my_Md_has (co_Md_has ((md_row m) (nj_n ((9 : Int32) + a1))) a2 w2 hV3) (em_E _) rfl rfl ⟨rfl, rfl, rfl, rfl⟩ (Nat.zero_le _) (Nat.zero_le _) rfl ?_
  have h := no_s h
  subst h
  exact vr_zret _ C hq nd_Md_likes_13 rfl
abbrev nr_Md_liking : Room := { frames := 2, cells := 0, slots := 0, locals := 43 }
theorem lw_Md_liking_5 {G : nj_G} {ad : Nat → Nat} (C : nj_C G nb_Md_liking 5 "NobodyJoinsModel" nr_Md_liking) (m : MdS) (f1 : Int32) (f2 : Int32) : ∀ (n : Nat) (v3 : Int32) (v4 : Int32) (x : Int32), lo_Md_liking_5 m f1 f2 n v3 v4 = some x → nj_V G ad 0 0 50 [none, none, none, some (.int x), none] [] (rp_Md m) → nj_V G ad 0 0 5 [some (.ref 0), some (.int f1), some (.int f2), some (.int v3), some (.int v4)] [] (rp_Md m) := by
  intro n
  induction n with
  | zero => intro v3 v4 x h; rw [lo_Md_liking_5] at h; cases h
  | succ n ih =>
    intro v3 v4 x h hk
    rw [lo_Md_liking_5] at h
    refine vr_il C nd_Md_liking_5 rfl ?_
    refine vr_al C nd_Md_liking_7 rfl ?_
    refine vr_get (v := .int (md_children m)) C nd_Md_liking_8 rfl fl_Md_142 (at_Md_0 m) rfl ?_
    refine vr_cm_ge C nd_Md_liking_11 (fun hc => ?_) (fun hc => ?_)
    · have h := no_t hc h
      have h := no_s h
      subst h
      exact vr_wk [0, 1, 2, 4] rfl hk
    · have h := no_f hc h
      refine vr_il C nd_Md_liking_14 rfl ?_
      refine vr_il C nd_Md_liking_15 rfl ?_
      refine vr_il C nd_Md_liking_16 rfl ?_
      obtain ⟨w1, hV2, h⟩ := no_b h
      refine vr_cSip [] [.int f2, .int v4] [.int v3] C nd_Md_liking_18 rfl ml_Md_125 my_Md_has (co_Md_has f2 v4 w1 hV2) (em_E _) rfl rfl ⟨rfl, rfl, rfl, rfl⟩ (Nat.zero_le _) (Nat.zero_le _) rfl ?_
      obtain ⟨p3, hP6, h⟩ := no_b h
      have hj : nj_V G ad 0 0 42 [some (.ref 0), some (.int f1), some (.int f2), none, some (.int v4)] [.int p3, .int v3] (rp_Md m) := by
        refine vr_ior C nd_Md_liking_42 rfl ?_
        refine vr_is (ls' := [some (.ref 0), some (.int f1), some (.int f2), some (.int (v3 ||| p3)), some (.int v4)]) C nd_Md_liking_43 rfl rfl ?_
        refine vr_inc (v := (v4 + (1 : Int32))) (ls' := [some (.ref 0), some (.int f1), some (.int f2), some (.int (v3 ||| p3)), some (.int (v4 + (1 : Int32)))]) C nd_Md_liking_44 rfl rfl rfl rfl rfl ?_
        refine vr_go C nd_Md_liking_47 ?_
        exact (ih _ _ _ h hk)
      clear h
      have h := hP6
      clear hP6
      refine vr_ifb_eq C nd_Md_liking_21 (fun hc => ?_) (fun hc => ?_)
      · have h := no_bf hc h
        refine vr_ic C nd_Md_liking_41 ?_
        have h := no_s h
        subst h
        exact vr_wk [3] rfl hj
      · have h := no_bt hc h
        refine vr_al C nd_Md_liking_24 rfl ?_
        refine vr_il C nd_Md_liking_25 rfl ?_
        refine vr_il C nd_Md_liking_27 rfl ?_
        obtain ⟨w4, hV5, h⟩ := no_b h
        refine vr_sVi (hp' := (rp_Md m)) [.int v4, .int f1] [.int v3] C nd_Md_liking_28 rfl ml_Md_148 my_Md_likes (co_Md_likes m v4 f1 w4 hV5) ⟨_, _, _, rfl, rfl, rfl⟩ rfl rfl ⟨rfl, rfl, rfl, rfl⟩ (Nat.zero_le _) (Nat.zero_le _) rfl ?_
        refine vr_ifb_eq C nd_Md_liking_31 (fun hc => ?_) (fun hc => ?_)
        · have h := no_bf hc h
          refine vr_ic C nd_Md_liking_41 ?_
          have h := no_s h
          subst h
          exact vr_wk [3] rfl hj
        · have h := no_bt hc h
          refine vr_ic C nd_Md_liking_34 ?_
          refine vr_il C nd_Md_liking_35 rfl ?_
          refine vr_ishl C nd_Md_liking_37 rfl ?_
          refine vr_go C nd_Md_liking_38 ?_
          have h := no_s h
          subst h
          exact vr_wk [3] rfl hj
theorem co_Md_liking (m : MdS) (a1 : Int32) (a2 : Int32) (x : Int32) (h : mo_Md_liking m a1 a2 = some x) : nj_Con ny_Md_liking nb_Md_liking 5 (some .int) nr_Md_liking (rp_Md m) [.ref 0, .int a1, .int a2] (some (.int x)) (rp_Md m) := by
  rw [mo_Md_liking] at h
  refine nj_con (by decide) rfl 2 rfl (fun G ad C hq => ?_)
  have C : nj_C G nb_Md_liking 5 "NobodyJoinsModel" nr_Md_liking := C
  show nj_V G ad 0 0 0 [some (.ref 0), some (.int a1), some (.int a2), none, none] [] (rp_Md m)
  refine vr_ic C nd_Md_liking_0 ?_
  refine vr_is (ls' := [some (.ref 0), some (.int a1), some (.int a2), some (.int (0 : Int32)), none]) C nd_Md_liking_1 rfl rfl ?_
  refine vr_ic C nd_Md_liking_2 ?_
  refine vr_is (ls' := [some (.ref 0), some (.int a1), some (.int a2), some (.int (0 : Int32)), some (.int (0 : Int32))]) C nd_Md_liking_3 rfl rfl ?_
  obtain ⟨x7, hX8, h⟩ := no_b h
  refine lw_Md_liking_5 C m a1 a2 nj_fu _ _ x7 hX8 ?_
  refine vr_il C nd_Md_liking_50 rfl ?_
  have h := no_s h
  subst h
  exact vr_iret C hq nd_Md_liking_51 rfl
abbrev nr_Md_likedBy : Room := { frames := 3, cells := 0, slots := 0, locals := 67 }
theorem co_Md_likedBy (m : MdS) (a1 : Int32) (x : Int32) (h : mo_Md_likedBy m a1 = some x) : nj_Con ny_Md_likedBy nb_Md_likedBy 2 (some .int) nr_Md_likedBy (rp_Md m) [.ref 0, .int a1] (some (.int x)) (rp_Md m) := by
  rw [mo_Md_likedBy] at h
  refine nj_con (by decide) rfl 0 rfl (fun G ad C hq => ?_)
  have C : nj_C G nb_Md_likedBy 2 "NobodyJoinsModel" nr_Md_likedBy := C
  show nj_V G ad 0 0 0 [some (.ref 0), some (.int a1)] [] (rp_Md m)
  refine vr_al C nd_Md_likedBy_0 rfl ?_
  refine vr_il C nd_Md_likedBy_1 rfl ?_
  refine vr_ic C nd_Md_likedBy_2 ?_
  refine vr_al C nd_Md_likedBy_3 rfl ?_
  refine vr_get (v := .int (md_children m)) C nd_Md_likedBy_4 rfl fl_Md_142 (at_Md_0 m) rfl ?_
  refine vr_ishl C nd_Md_likedBy_7 rfl ?_
  refine vr_ic C nd_Md_likedBy_8 ?_
  refine vr_isub C nd_Md_likedBy_9 rfl ?_
  obtain ⟨w1, hV2, h⟩ := no_b h
  refine vr_sVi (hp' := (rp_Md m)) [.int a1, .int (((1 : Int32) <<< ((md_children m) &&& 31)) - (1 : Int32))] [] C nd_Md_likedBy_10 rfl ml_Md_151 my_Md_liking (co_Md_liking m a1 (((1 : Int32) <<< ((md_children m) &&& 31)) - (1 : Int32)) w1 hV2) ⟨_, _, _, rfl, rfl, rfl⟩ rfl rfl ⟨rfl, rfl, rfl, rfl⟩ (Nat.zero_le _) (Nat.zero_le _) rfl ?_
  have h := no_s h
  subst h
  exact vr_iret C hq nd_Md_likedBy_13 rfl
abbrev nr_Md_toldOf : Room := { frames := 4, cells := 0, slots := 0, locals := 88 }
theorem co_Md_toldOf (m : MdS) (a1 : Int32) (a2 : Int32) (x : Int32) (h : mo_Md_toldOf m a1 a2 = some x) : nj_Con ny_Md_toldOf nb_Md_toldOf 3 (some .int) nr_Md_toldOf (rp_Md m) [.ref 0, .int a1, .int a2] (some (.int x)) (rp_Md m) := by
  rw [mo_Md_toldOf] at h
  refine nj_con (by decide) rfl 0 rfl (fun G ad C hq => ?_)
  have C : nj_C G nb_Md_toldOf 3 "NobodyJoinsModel" nr_Md_toldOf := C
  show nj_V G ad 0 0 0 [some (.ref 0), some (.int a1), some (.int a2)] [] (rp_Md m)
  refine vr_il C nd_Md_toldOf_0 rfl ?_
  by_cases hS2 : a2 = (0 : Int32)
  · have h := no_t hS2 h
    refine vr_tsI (0 : Int32) C nd_Md_toldOf_1 hS2 (by decide) (by decide) rfl rfl ?_
    refine vr_al C nd_Md_toldOf_36 rfl ?_
    refine vr_get (v := .ref 2) C nd_Md_toldOf_37 rfl fl_Md_13 (at_Md_0 m) rfl ?_
    refine vr_il C nd_Md_toldOf_40 rfl ?_
    obtain ⟨hN1, h⟩ := no_i h
    refine vr_ialk (j := (nj_n a1)) (f := (md_kinds m)) C nd_Md_toldOf_41 rfl (at_Md_2 m) hN1 rfl ?_
    have h := no_s h
    subst h
    exact vr_iret C hq nd_Md_toldOf_42 rfl
  have h := no_f hS2 h
  by_cases hS4 : a2 = (1 : Int32)
  · have h := no_t hS4 h
    refine vr_tsI (1 : Int32) C nd_Md_toldOf_1 hS4 (by decide) (by decide) rfl rfl ?_
    refine vr_al C nd_Md_toldOf_43 rfl ?_
    refine vr_get (v := .ref 1) C nd_Md_toldOf_44 rfl fl_Md_7 (at_Md_0 m) rfl ?_
    refine vr_ic C nd_Md_toldOf_47 ?_
    refine vr_il C nd_Md_toldOf_48 rfl ?_
    refine vr_iadd C nd_Md_toldOf_49 rfl ?_
    obtain ⟨hN3, h⟩ := no_i h
    refine vr_ialk (j := (nj_n ((3 : Int32) + a1))) (f := (md_row m)) C nd_Md_toldOf_50 rfl (at_Md_1 m) hN3 rfl ?_
    have h := no_s h
    subst h
    exact vr_iret C hq nd_Md_toldOf_51 rfl
  have h := no_f hS4 h
  by_cases hS5 : a2 = (2 : Int32)
  · have h := no_t hS5 h
    refine vr_tsI (2 : Int32) C nd_Md_toldOf_1 hS5 (by decide) (by decide) rfl rfl ?_
    refine vr_al C nd_Md_toldOf_52 rfl ?_
    refine vr_get (v := .ref 1) C nd_Md_toldOf_53 rfl fl_Md_7 (at_Md_0 m) rfl ?_
    refine vr_ic C nd_Md_toldOf_56 ?_
    refine vr_ialk (j := 1) (f := (md_row m)) C nd_Md_toldOf_57 rfl (at_Md_1 m) (nj_inc rfl) rfl ?_
    refine vr_il C nd_Md_toldOf_58 rfl ?_
    refine vr_ishr C nd_Md_toldOf_59 rfl ?_
    refine vr_ic C nd_Md_toldOf_60 ?_
    refine vr_iand C nd_Md_toldOf_61 rfl ?_
    have h := no_s h
    subst h
    exact vr_iret C hq nd_Md_toldOf_62 rfl
  have h := no_f hS5 h
  by_cases hS8 : a2 = (3 : Int32)
  · have h := no_t hS8 h
    refine vr_tsI (3 : Int32) C nd_Md_toldOf_1 hS8 (by decide) (by decide) rfl rfl ?_
    refine vr_al C nd_Md_toldOf_63 rfl ?_
    refine vr_il C nd_Md_toldOf_64 rfl ?_
    obtain ⟨w6, hV7, h⟩ := no_b h
    refine vr_sVi (hp' := (rp_Md m)) [.int a1] [] C nd_Md_toldOf_65 rfl ml_Md_145 my_Md_votes (co_Md_votes m a1 w6 hV7) ⟨_, _, _, rfl, rfl, rfl⟩ rfl rfl ⟨rfl, rfl, rfl, rfl⟩ (Nat.zero_le _) (Nat.zero_le _) rfl ?_
    have h := no_s h
    subst h
    exact vr_iret C hq nd_Md_toldOf_68 rfl
  have h := no_f hS8 h
  by_cases hS10 : a2 = (4 : Int32)
  · have h := no_t hS10 h
    refine vr_tsI (4 : Int32) C nd_Md_toldOf_1 hS10 (by decide) (by decide) rfl rfl ?_
    refine vr_al C nd_Md_toldOf_69 rfl ?_
    refine vr_get (v := .ref 1) C nd_Md_toldOf_70 rfl fl_Md_7 (at_Md_0 m) rfl ?_
    refine vr_ic C nd_Md_toldOf_73 ?_
    refine vr_il C nd_Md_toldOf_75 rfl ?_
    refine vr_iadd C nd_Md_toldOf_76 rfl ?_
    obtain ⟨hN9, h⟩ := no_i h
    refine vr_ialk (j := (nj_n ((9 : Int32) + a1))) (f := (md_row m)) C nd_Md_toldOf_77 rfl (at_Md_1 m) hN9 rfl ?_
    have h := no_s h
    subst h
    exact vr_iret C hq nd_Md_toldOf_78 rfl
  have h := no_f hS10 h
  refine vr_tsO C nd_Md_toldOf_1 (by have a0 := lv_neT (a := 0) hS2 (by decide); have a1 := lv_neT (a := 1) hS4 (by decide); have a2 := lv_neT (a := 2) hS5 (by decide); have a3 := lv_neT (a := 3) hS8 (by decide); have a4 := lv_neT (a := 4) hS10 (by decide); omega) rfl ?_
  refine vr_al C nd_Md_toldOf_79 rfl ?_
  refine vr_il C nd_Md_toldOf_80 rfl ?_
  obtain ⟨w11, hV12, h⟩ := no_b h
  refine vr_sVi (hp' := (rp_Md m)) [.int a1] [] C nd_Md_toldOf_81 rfl ml_Md_172 my_Md_likedBy (co_Md_likedBy m a1 w11 hV12) ⟨_, _, _, rfl, rfl, rfl⟩ rfl rfl ⟨rfl, rfl, rfl, rfl⟩ (Nat.zero_le _) (Nat.zero_le _) rfl ?_
  have h := no_s h
  subst h
  exact vr_iret C hq nd_Md_toldOf_84 rfl
abbrev nr_Md_child : Room := { frames := 5, cells := 0, slots := 0, locals := 110 }
theorem co_Md_child (m : MdS) (a1 : Int32) (a2 : Int32) (x : Int32 × MdS) (h : mo_Md_child m a1 a2 = some x) : nj_Con ny_Md_child nb_Md_child 3 (some .int) nr_Md_child (rp_Md m) [.ref 0, .int a1, .int a2] (some (.int (x.1))) (rp_Md (x.2)) := by
  rw [mo_Md_child] at h
  refine nj_con (by decide) rfl 0 rfl (fun G ad C hq => ?_)
  have C : nj_C G nb_Md_child 3 "NobodyJoinsModel" nr_Md_child := C
  show nj_V G ad 0 0 0 [some (.ref 0), some (.int a1), some (.int a2)] [] (rp_Md m)
  refine vr_al C nd_Md_child_0 rfl ?_
  refine vr_il C nd_Md_child_1 rfl ?_
  obtain ⟨w1, hV2, h⟩ := no_b h
  refine vr_sVi (hp' := (rp_Md m)) [.int a1] [] C nd_Md_child_2 rfl ml_Md_175 my_Md_isChild (co_Md_isChild m a1 w1 hV2) ⟨_, _, _, rfl, rfl, rfl⟩ rfl rfl ⟨rfl, rfl, rfl, rfl⟩ (Nat.zero_le _) (Nat.zero_le _) rfl ?_
  refine vr_ifb_eq C nd_Md_child_5 (fun hc => ?_) (fun hc => ?_)
  · have h := no_bf hc h
    refine vr_ic C nd_Md_child_33 ?_
    have h := no_s h
    subst h
    exact vr_iret C hq nd_Md_child_34 rfl
  · have h := no_bt hc h
    refine vr_il C nd_Md_child_8 rfl ?_
    refine vr_i2l C nd_Md_child_9 rfl ?_
    refine vr_lc (v := (0 : Int64)) C nd_Md_child_10 rfl (by decide) ?_
    refine vr_ldc2 C nd_Md_child_11 rfl kl_Md_58 ?_
    obtain ⟨w3, hV4, h⟩ := no_b h
    refine vr_cSip [] [.long (Int32.toInt64 a2), .long (0 : Int64), .long (5 : Int64)] [] C nd_Md_child_14 rfl ml_Md_60 my_Md_in (co_Md_in (Int32.toInt64 a2) (0 : Int64) (5 : Int64) w3 hV4) (em_E _) rfl rfl ⟨rfl, rfl, rfl, rfl⟩ (Nat.zero_le _) (Nat.zero_le _) rfl ?_
    refine vr_ifb_eq C nd_Md_child_17 (fun hc => ?_) (fun hc => ?_)
    · have h := no_bf hc h
      refine vr_ic C nd_Md_child_33 ?_
      have h := no_s h
      subst h
      exact vr_iret C hq nd_Md_child_34 rfl
    · have h := no_bt hc h
      refine vr_al C nd_Md_child_20 rfl ?_
      refine vr_al C nd_Md_child_21 rfl ?_
      refine vr_il C nd_Md_child_22 rfl ?_
      refine vr_il C nd_Md_child_23 rfl ?_
      obtain ⟨w5, hV6, h⟩ := no_b h
      refine vr_sVi (hp' := (rp_Md m)) [.int a1, .int a2] [.ref 0] C nd_Md_child_24 rfl ml_Md_178 my_Md_toldOf (co_Md_toldOf m a1 a2 w5 hV6) ⟨_, _, _, rfl, rfl, rfl⟩ rfl rfl ⟨rfl, rfl, rfl, rfl⟩ (Nat.zero_le _) (Nat.zero_le _) rfl ?_
      obtain ⟨w7, hV8, h⟩ := no_b h
      refine vr_sVi (hp' := (rp_Md (w7.2))) [.int w5] [] C nd_Md_child_27 rfl ml_Md_82 my_Md_tell (co_Md_tell m w5 w7 hV8) ⟨_, _, _, rfl, rfl, rfl⟩ rfl rfl ⟨rfl, rfl, rfl, rfl⟩ (Nat.zero_le _) (Nat.zero_le _) rfl ?_
      refine vr_go C nd_Md_child_30 ?_
      have h := no_s h
      subst h
      exact vr_iret C hq nd_Md_child_34 rfl
abbrev nr_Md_isOf : Room := { frames := 0, cells := 0, slots := 0, locals := 0 }
theorem co_Md_isOf (m : MdS) (a1 : Int32) (a2 : Int32) (x : Bool) (h : mo_Md_isOf m a1 a2 = some x) : nj_Con ny_Md_isOf nb_Md_isOf 3 (some .boolean) nr_Md_isOf (rp_Md m) [.ref 0, .int a1, .int a2] (some (.int (nj_b x))) (rp_Md m) := by
  rw [mo_Md_isOf] at h
  refine nj_con (by decide) rfl 0 rfl (fun G ad C hq => ?_)
  have C : nj_C G nb_Md_isOf 3 "NobodyJoinsModel" nr_Md_isOf := C
  show nj_V G ad 0 0 0 [some (.ref 0), some (.int a1), some (.int a2)] [] (rp_Md m)
  refine vr_al C nd_Md_isOf_0 rfl ?_
  refine vr_get (v := .ref 2) C nd_Md_isOf_1 rfl fl_Md_13 (at_Md_0 m) rfl ?_
  refine vr_il C nd_Md_isOf_4 rfl ?_
  obtain ⟨hN1, h⟩ := no_i h
  refine vr_ialk (j := (nj_n a1)) (f := (md_kinds m)) C nd_Md_isOf_5 rfl (at_Md_2 m) hN1 rfl ?_
  refine vr_il C nd_Md_isOf_6 rfl ?_
  refine vr_cm_eq C nd_Md_isOf_7 (fun hc => ?_) (fun hc => ?_)
  · have h := no_t hc h
    refine vr_ic C nd_Md_isOf_25 ?_
    refine vr_go C nd_Md_isOf_26 ?_
    have h := no_s h
    subst h
    exact vr_zret true C hq nd_Md_isOf_30 rfl
  · have h := no_f hc h
    refine vr_il C nd_Md_isOf_10 rfl ?_
    refine vr_ic C nd_Md_isOf_11 ?_
    refine vr_cm_ne C nd_Md_isOf_12 (fun hc => ?_) (fun hc => ?_)
    · have h := no_f hc h
      refine vr_ic C nd_Md_isOf_29 ?_
      have h := no_s h
      subst h
      exact vr_zret false C hq nd_Md_isOf_30 rfl
    · have h := no_t hc h
      refine vr_al C nd_Md_isOf_15 rfl ?_
      refine vr_get (v := .ref 2) C nd_Md_isOf_16 rfl fl_Md_13 (at_Md_0 m) rfl ?_
      refine vr_il C nd_Md_isOf_19 rfl ?_
      obtain ⟨hN2, h⟩ := no_i h
      refine vr_ialk (j := (nj_n a1)) (f := (md_kinds m)) C nd_Md_isOf_20 rfl (at_Md_2 m) hN2 rfl ?_
      refine vr_ic C nd_Md_isOf_21 ?_
      refine vr_cm_ne C nd_Md_isOf_22 (fun hc => ?_) (fun hc => ?_)
      · have h := no_f hc h
        refine vr_ic C nd_Md_isOf_29 ?_
        have h := no_s h
        subst h
        exact vr_zret false C hq nd_Md_isOf_30 rfl
      · have h := no_t hc h
        refine vr_ic C nd_Md_isOf_25 ?_
        refine vr_go C nd_Md_isOf_26 ?_
        have h := no_s h
        subst h
        exact vr_zret true C hq nd_Md_isOf_30 rfl
abbrev nr_Md_bits : Room := { frames := 0, cells := 0, slots := 0, locals := 0 }
theorem lw_Md_bits_4 {G : nj_G} {ad : Nat → Nat} (C : nj_C G nb_Md_bits 3 "NobodyJoinsModel" nr_Md_bits) (f0 : Int32) : ∀ (n : Nat) (v1 : Int32) (v2 : Int32) (x : Int32), lo_Md_bits_4 f0 n v1 v2 = some x → nj_V G ad 0 0 24 [none, some (.int x), none] [] [] → nj_V G ad 0 0 4 [some (.int f0), some (.int v1), some (.int v2)] [] [] := by
  intro n
  induction n with
  | zero => intro v1 v2 x h; rw [lo_Md_bits_4] at h; cases h
  | succ n ih =>
    intro v1 v2 x h hk
    rw [lo_Md_bits_4] at h
    refine vr_il C nd_Md_bits_4 rfl ?_
    refine vr_ic C nd_Md_bits_5 ?_
    refine vr_cm_ge C nd_Md_bits_7 (fun hc => ?_) (fun hc => ?_)
    · have h := no_t hc h
      have h := no_s h
      subst h
      exact vr_wk [0, 2] rfl hk
    · have h := no_f hc h
      refine vr_il C nd_Md_bits_10 rfl ?_
      refine vr_il C nd_Md_bits_11 rfl ?_
      refine vr_il C nd_Md_bits_12 rfl ?_
      refine vr_ishr C nd_Md_bits_13 rfl ?_
      refine vr_ic C nd_Md_bits_14 ?_
      refine vr_iand C nd_Md_bits_15 rfl ?_
      refine vr_iadd C nd_Md_bits_16 rfl ?_
      refine vr_is (ls' := [some (.int f0), some (.int (v1 + ((f0 >>> (v2 &&& 31)) &&& (1 : Int32)))), some (.int v2)]) C nd_Md_bits_17 rfl rfl ?_
      refine vr_inc (v := (v2 + (1 : Int32))) (ls' := [some (.int f0), some (.int (v1 + ((f0 >>> (v2 &&& 31)) &&& (1 : Int32)))), some (.int (v2 + (1 : Int32)))]) C nd_Md_bits_18 rfl rfl rfl rfl rfl ?_
      refine vr_go C nd_Md_bits_21 ?_
      exact (ih _ _ _ h hk)
theorem co_Md_bits  (a0 : Int32) (x : Int32) (h : mo_Md_bits a0 = some x) : nj_Con ny_Md_bits nb_Md_bits 3 (some .int) nr_Md_bits [] [.int a0] (some (.int x)) [] := by
  rw [mo_Md_bits] at h
  refine nj_con (by decide) rfl 2 rfl (fun G ad C hq => ?_)
  have C : nj_C G nb_Md_bits 3 "NobodyJoinsModel" nr_Md_bits := C
  show nj_V G ad 0 0 0 [some (.int a0), none, none] [] []
  refine vr_ic C nd_Md_bits_0 ?_
  refine vr_is (ls' := [some (.int a0), some (.int (0 : Int32)), none]) C nd_Md_bits_1 rfl rfl ?_
  refine vr_ic C nd_Md_bits_2 ?_
  refine vr_is (ls' := [some (.int a0), some (.int (0 : Int32)), some (.int (0 : Int32))]) C nd_Md_bits_3 rfl rfl ?_
  obtain ⟨x1, hX2, h⟩ := no_b h
  refine lw_Md_bits_4 C a0 nj_fu _ _ x1 hX2 ?_
  refine vr_il C nd_Md_bits_24 rfl ?_
  have h := no_s h
  subst h
  exact vr_iret C hq nd_Md_bits_25 rfl
abbrev nr_Md_mark : Room := { frames := 4, cells := 0, slots := 0, locals := 88 }
theorem co_Md_mark (m : MdS) (a1 : Int32) (a2 : Int32) (x : Int32 × MdS) (h : mo_Md_mark m a1 a2 = some x) : nj_Con ny_Md_mark nb_Md_mark 4 (some .int) nr_Md_mark (rp_Md m) [.ref 0, .int a1, .int a2] (some (.int (x.1))) (rp_Md (x.2)) := by
  rw [mo_Md_mark] at h
  refine nj_con (by decide) rfl 1 rfl (fun G ad C hq => ?_)
  have C : nj_C G nb_Md_mark 4 "NobodyJoinsModel" nr_Md_mark := C
  show nj_V G ad 0 0 0 [some (.ref 0), some (.int a1), some (.int a2), none] [] (rp_Md m)
  refine vr_al C nd_Md_mark_0 rfl ?_
  refine vr_il C nd_Md_mark_1 rfl ?_
  obtain ⟨w1, hV2, h⟩ := no_b h
  refine vr_sVi (hp' := (rp_Md m)) [.int a1] [] C nd_Md_mark_2 rfl ml_Md_175 my_Md_isChild (co_Md_isChild m a1 w1 hV2) ⟨_, _, _, rfl, rfl, rfl⟩ rfl rfl ⟨rfl, rfl, rfl, rfl⟩ (Nat.zero_le _) (Nat.zero_le _) rfl ?_
  refine vr_ifb_eq C nd_Md_mark_5 (fun hc => ?_) (fun hc => ?_)
  · have h := no_bf hc h
    refine vr_ic C nd_Md_mark_20 ?_
    have h := no_s h
    subst h
    exact vr_iret C hq nd_Md_mark_21 rfl
  · have h := no_bt hc h
    refine vr_il C nd_Md_mark_8 rfl ?_
    refine vr_i2l C nd_Md_mark_9 rfl ?_
    refine vr_lc (v := (1 : Int64)) C nd_Md_mark_10 rfl (by decide) ?_
    refine vr_ldc2 C nd_Md_mark_11 rfl kl_Md_58 ?_
    obtain ⟨w3, hV4, h⟩ := no_b h
    refine vr_cSip [] [.long (Int32.toInt64 a2), .long (1 : Int64), .long (5 : Int64)] [] C nd_Md_mark_14 rfl ml_Md_60 my_Md_in (co_Md_in (Int32.toInt64 a2) (1 : Int64) (5 : Int64) w3 hV4) (em_E _) rfl rfl ⟨rfl, rfl, rfl, rfl⟩ (Nat.zero_le _) (Nat.zero_le _) rfl ?_
    refine vr_ifb_ne C nd_Md_mark_17 (fun hc => ?_) (fun hc => ?_)
    · have h := no_bt hc h
      refine vr_al C nd_Md_mark_22 rfl ?_
      refine vr_il C nd_Md_mark_23 rfl ?_
      refine vr_il C nd_Md_mark_24 rfl ?_
      obtain ⟨w5, hV6, h⟩ := no_b h
      refine vr_sVi (hp' := (rp_Md m)) [.int a1, .int a2] [] C nd_Md_mark_25 rfl ml_Md_181 my_Md_isOf (co_Md_isOf m a1 a2 w5 hV6) ⟨_, _, _, rfl, rfl, rfl⟩ rfl rfl ⟨rfl, rfl, rfl, rfl⟩ (Nat.zero_le _) (Nat.zero_le _) rfl ?_
      refine vr_ifb_ne C nd_Md_mark_28 (fun hc => ?_) (fun hc => ?_)
      · have h := no_bt hc h
        refine vr_al C nd_Md_mark_37 rfl ?_
        refine vr_get (v := .ref 1) C nd_Md_mark_38 rfl fl_Md_7 (at_Md_0 m) rfl ?_
        refine vr_ic C nd_Md_mark_41 ?_
        refine vr_ialk (j := 1) (f := (md_row m)) C nd_Md_mark_42 rfl (at_Md_1 m) (nj_inc rfl) rfl ?_
        refine vr_ic C nd_Md_mark_43 ?_
        refine vr_il C nd_Md_mark_44 rfl ?_
        refine vr_ishl C nd_Md_mark_45 rfl ?_
        refine vr_ic C nd_Md_mark_46 ?_
        refine vr_ixor C nd_Md_mark_47 rfl ?_
        refine vr_iand C nd_Md_mark_48 rfl ?_
        refine vr_is (ls' := [some (.ref 0), some (.int a1), some (.int a2), some (.int (((md_row m) 1) &&& (((1 : Int32) <<< (a1 &&& 31)) ^^^ (-1 : Int32))))]) C nd_Md_mark_49 rfl rfl ?_
        refine vr_il C nd_Md_mark_50 rfl ?_
        by_cases hS9 : a2 = (1 : Int32)
        · have h := no_t hS9 h
          refine vr_tsI (1 : Int32) C nd_Md_mark_51 hS9 (by decide) (by decide) rfl rfl ?_
          refine vr_al C nd_Md_mark_80 rfl ?_
          refine vr_il C nd_Md_mark_81 rfl ?_
          obtain ⟨w7, hV8, h⟩ := no_b h
          refine vr_sVi (hp' := (rp_Md m)) [.int a1] [] C nd_Md_mark_82 rfl ml_Md_145 my_Md_votes (co_Md_votes m a1 w7 hV8) ⟨_, _, _, rfl, rfl, rfl⟩ rfl rfl ⟨rfl, rfl, rfl, rfl⟩ (Nat.zero_le _) (Nat.zero_le _) rfl ?_
          refine vr_ic C nd_Md_mark_85 ?_
          refine vr_isub C nd_Md_mark_86 rfl ?_
          have h := no_s h
          subst h
          exact vr_iret C hq nd_Md_mark_87 rfl
        have h := no_f hS9 h
        by_cases hS13 : a2 = (2 : Int32)
        · have h := no_t hS13 h
          refine vr_tsI (2 : Int32) C nd_Md_mark_51 hS13 (by decide) (by decide) rfl rfl ?_
          refine vr_al C nd_Md_mark_88 rfl ?_
          refine vr_get (v := .ref 1) C nd_Md_mark_89 rfl fl_Md_7 (at_Md_0 m) rfl ?_
          refine vr_ic C nd_Md_mark_92 ?_
          refine vr_il C nd_Md_mark_94 rfl ?_
          refine vr_iadd C nd_Md_mark_95 rfl ?_
          obtain ⟨hN10, h⟩ := no_i h
          refine vr_ialk (j := (nj_n ((9 : Int32) + a1))) (f := (md_row m)) C nd_Md_mark_96 rfl (at_Md_1 m) hN10 rfl ?_
          refine vr_il C nd_Md_mark_97 rfl ?_
          refine vr_iand C nd_Md_mark_98 rfl ?_
          obtain ⟨w11, hV12, h⟩ := no_b h
          refine vr_cSip [] [.int (((md_row m) (nj_n ((9 : Int32) + a1))) &&& (((md_row m) 1) &&& (((1 : Int32) <<< (a1 &&& 31)) ^^^ (-1 : Int32))))] [] C nd_Md_mark_99 rfl ml_Md_184 my_Md_bits (co_Md_bits (((md_row m) (nj_n ((9 : Int32) + a1))) &&& (((md_row m) 1) &&& (((1 : Int32) <<< (a1 &&& 31)) ^^^ (-1 : Int32)))) w11 hV12) (em_E _) rfl rfl ⟨rfl, rfl, rfl, rfl⟩ (Nat.zero_le _) (Nat.zero_le _) rfl ?_
          have h := no_s h
          subst h
          exact vr_iret C hq nd_Md_mark_102 rfl
        have h := no_f hS13 h
        by_cases hS16 : a2 = (3 : Int32)
        · have h := no_t hS16 h
          refine vr_tsI (3 : Int32) C nd_Md_mark_51 hS16 (by decide) (by decide) rfl rfl ?_
          refine vr_al C nd_Md_mark_103 rfl ?_
          refine vr_get (v := .ref 1) C nd_Md_mark_104 rfl fl_Md_7 (at_Md_0 m) rfl ?_
          refine vr_ic C nd_Md_mark_107 ?_
          refine vr_il C nd_Md_mark_108 rfl ?_
          refine vr_iadd C nd_Md_mark_109 rfl ?_
          obtain ⟨hN14, h⟩ := no_i h
          refine vr_ialk (j := (nj_n ((3 : Int32) + a1))) (f := (md_row m)) C nd_Md_mark_110 rfl (at_Md_1 m) hN14 rfl ?_
          refine vr_ic C nd_Md_mark_111 ?_
          refine vr_cm_le C nd_Md_mark_112 (fun hc => ?_) (fun hc => ?_)
          · have h := no_t hc h
            refine vr_ic C nd_Md_mark_119 ?_
            refine vr_al C nd_Md_mark_120 rfl ?_
            refine vr_get (v := .ref 1) C nd_Md_mark_121 rfl fl_Md_7 (at_Md_0 m) rfl ?_
            refine vr_ic C nd_Md_mark_124 ?_
            refine vr_il C nd_Md_mark_125 rfl ?_
            refine vr_iadd C nd_Md_mark_126 rfl ?_
            obtain ⟨hN15, h⟩ := no_i h
            refine vr_ialk (j := (nj_n ((3 : Int32) + a1))) (f := (md_row m)) C nd_Md_mark_127 rfl (at_Md_1 m) hN15 rfl ?_
            refine vr_isub C nd_Md_mark_128 rfl ?_
            have h := no_s h
            subst h
            exact vr_iret C hq nd_Md_mark_129 rfl
          · have h := no_f hc h
            refine vr_ic C nd_Md_mark_115 ?_
            refine vr_go C nd_Md_mark_116 ?_
            have h := no_s h
            subst h
            exact vr_iret C hq nd_Md_mark_129 rfl
        have h := no_f hS16 h
        by_cases hS21 : a2 = (4 : Int32)
        · have h := no_t hS21 h
          refine vr_tsI (4 : Int32) C nd_Md_mark_51 hS21 (by decide) (by decide) rfl rfl ?_
          refine vr_il C nd_Md_mark_130 rfl ?_
          refine vr_al C nd_Md_mark_131 rfl ?_
          refine vr_il C nd_Md_mark_132 rfl ?_
          obtain ⟨w17, hV18, h⟩ := no_b h
          refine vr_sVi (hp' := (rp_Md m)) [.int a1] [.int (((md_row m) 1) &&& (((1 : Int32) <<< (a1 &&& 31)) ^^^ (-1 : Int32)))] C nd_Md_mark_133 rfl ml_Md_172 my_Md_likedBy (co_Md_likedBy m a1 w17 hV18) ⟨_, _, _, rfl, rfl, rfl⟩ rfl rfl ⟨rfl, rfl, rfl, rfl⟩ (Nat.zero_le _) (Nat.zero_le _) rfl ?_
          refine vr_ic C nd_Md_mark_136 ?_
          refine vr_ixor C nd_Md_mark_137 rfl ?_
          refine vr_iand C nd_Md_mark_138 rfl ?_
          obtain ⟨w19, hV20, h⟩ := no_b h
          refine vr_cSip [] [.int ((((md_row m) 1) &&& (((1 : Int32) <<< (a1 &&& 31)) ^^^ (-1 : Int32))) &&& (w17 ^^^ (-1 : Int32)))] [] C nd_Md_mark_139 rfl ml_Md_184 my_Md_bits (co_Md_bits ((((md_row m) 1) &&& (((1 : Int32) <<< (a1 &&& 31)) ^^^ (-1 : Int32))) &&& (w17 ^^^ (-1 : Int32))) w19 hV20) (em_E _) rfl rfl ⟨rfl, rfl, rfl, rfl⟩ (Nat.zero_le _) (Nat.zero_le _) rfl ?_
          have h := no_s h
          subst h
          exact vr_iret C hq nd_Md_mark_142 rfl
        have h := no_f hS21 h
        refine vr_tsO C nd_Md_mark_51 (by have a0 := lv_neT (a := 1) hS9 (by decide); have a1 := lv_neT (a := 2) hS13 (by decide); have a2 := lv_neT (a := 3) hS16 (by decide); have a3 := lv_neT (a := 4) hS21 (by decide); omega) rfl ?_
        refine vr_al C nd_Md_mark_143 rfl ?_
        refine vr_il C nd_Md_mark_144 rfl ?_
        refine vr_al C nd_Md_mark_145 rfl ?_
        refine vr_get (v := .ref 1) C nd_Md_mark_146 rfl fl_Md_7 (at_Md_0 m) rfl ?_
        refine vr_ic C nd_Md_mark_149 ?_
        refine vr_ialk (j := 1) (f := (md_row m)) C nd_Md_mark_150 rfl (at_Md_1 m) (nj_inc rfl) rfl ?_
        obtain ⟨w22, hV23, h⟩ := no_b h
        refine vr_sVi (hp' := (rp_Md m)) [.int a1, .int ((md_row m) 1)] [] C nd_Md_mark_151 rfl ml_Md_151 my_Md_liking (co_Md_liking m a1 ((md_row m) 1) w22 hV23) ⟨_, _, _, rfl, rfl, rfl⟩ rfl rfl ⟨rfl, rfl, rfl, rfl⟩ (Nat.zero_le _) (Nat.zero_le _) rfl ?_
        obtain ⟨w24, hV25, h⟩ := no_b h
        refine vr_cSip [] [.int w22] [] C nd_Md_mark_154 rfl ml_Md_184 my_Md_bits (co_Md_bits w22 w24 hV25) (em_E _) rfl rfl ⟨rfl, rfl, rfl, rfl⟩ (Nat.zero_le _) (Nat.zero_le _) rfl ?_
        have h := no_s h
        subst h
        exact vr_iret C hq nd_Md_mark_157 rfl
      · have h := no_bf hc h
        refine vr_al C nd_Md_mark_31 rfl ?_
        refine vr_ic C nd_Md_mark_32 ?_
        obtain ⟨w26, hV27, h⟩ := no_b h
        refine vr_sVi (hp' := (rp_Md (w26.2))) [.int (3 : Int32)] [] C nd_Md_mark_33 rfl ml_Md_70 my_Md_find (co_Md_find m (3 : Int32) w26 hV27) ⟨_, _, _, rfl, rfl, rfl⟩ rfl rfl ⟨rfl, rfl, rfl, rfl⟩ (Nat.zero_le _) (Nat.zero_le _) rfl ?_
        have h := no_s h
        subst h
        exact vr_iret C hq nd_Md_mark_36 rfl
    · have h := no_bf hc h
      refine vr_ic C nd_Md_mark_20 ?_
      have h := no_s h
      subst h
      exact vr_iret C hq nd_Md_mark_21 rfl
abbrev nr_Md_rule : Room := { frames := 1, cells := 0, slots := 0, locals := 25 }
theorem co_Md_rule (m : MdS) (a1 : Int32) (x : Int32 × MdS) (h : mo_Md_rule m a1 = some x) : nj_Con ny_Md_rule nb_Md_rule 3 (some .int) nr_Md_rule (rp_Md m) [.ref 0, .int a1] (some (.int (x.1))) (rp_Md (x.2)) := by
  rw [mo_Md_rule] at h
  refine nj_con (by decide) rfl 1 rfl (fun G ad C hq => ?_)
  have C : nj_C G nb_Md_rule 3 "NobodyJoinsModel" nr_Md_rule := C
  show nj_V G ad 0 0 0 [some (.ref 0), some (.int a1), none] [] (rp_Md m)
  refine vr_il C nd_Md_rule_0 rfl ?_
  refine vr_i2l C nd_Md_rule_1 rfl ?_
  refine vr_lc (v := (0 : Int64)) C nd_Md_rule_2 rfl (by decide) ?_
  refine vr_ldc2 C nd_Md_rule_3 rfl kl_Md_64 ?_
  obtain ⟨w1, hV2, h⟩ := no_b h
  refine vr_cSip [] [.long (Int32.toInt64 a1), .long (0 : Int64), .long (3 : Int64)] [] C nd_Md_rule_6 rfl ml_Md_60 my_Md_in (co_Md_in (Int32.toInt64 a1) (0 : Int64) (3 : Int64) w1 hV2) (em_E _) rfl rfl ⟨rfl, rfl, rfl, rfl⟩ (Nat.zero_le _) (Nat.zero_le _) rfl ?_
  refine vr_ifb_ne C nd_Md_rule_9 (fun hc => ?_) (fun hc => ?_)
  · have h := no_bt hc h
    refine vr_al C nd_Md_rule_14 rfl ?_
    refine vr_get (v := .int (md_children m)) C nd_Md_rule_15 rfl fl_Md_142 (at_Md_0 m) rfl ?_
    refine vr_if_eq C nd_Md_rule_18 (fun hc => ?_) (fun hc => ?_)
    · have h := no_t hc h
      refine vr_ic C nd_Md_rule_30 ?_
      have h := no_s h
      subst h
      exact vr_iret C hq nd_Md_rule_32 rfl
    · have h := no_f hc h
      refine vr_al C nd_Md_rule_21 rfl ?_
      refine vr_get (v := .ref 1) C nd_Md_rule_22 rfl fl_Md_7 (at_Md_0 m) rfl ?_
      refine vr_ic C nd_Md_rule_25 ?_
      refine vr_ialk (j := 0) (f := (md_row m)) C nd_Md_rule_26 rfl (at_Md_1 m) (nj_inc rfl) rfl ?_
      refine vr_if_le C nd_Md_rule_27 (fun hc => ?_) (fun hc => ?_)
      · have h := no_t hc h
        refine vr_al C nd_Md_rule_33 rfl ?_
        refine vr_get (v := .ref 1) C nd_Md_rule_34 rfl fl_Md_7 (at_Md_0 m) rfl ?_
        refine vr_ic C nd_Md_rule_37 ?_
        refine vr_ialk (j := 15) (f := (md_row m)) C nd_Md_rule_39 rfl (at_Md_1 m) (nj_inc rfl) rfl ?_
        refine vr_is (ls' := [some (.ref 0), some (.int a1), some (.int ((md_row m) 15))]) C nd_Md_rule_40 rfl rfl ?_
        refine vr_al C nd_Md_rule_41 rfl ?_
        refine vr_get (v := .ref 1) C nd_Md_rule_42 rfl fl_Md_7 (at_Md_0 m) rfl ?_
        refine vr_ic C nd_Md_rule_45 ?_
        refine vr_il C nd_Md_rule_47 rfl ?_
        refine vr_iask (j := 15) (f := (md_row m)) (hp' := (rp_Md (ms_row m (upd (md_row m) 15 a1)))) C nd_Md_rule_48 rfl (at_Md_1 m) (nj_inc rfl) rfl (st_Md_1 m (upd (md_row m) 15 a1)) ?_
        refine vr_il C nd_Md_rule_49 rfl ?_
        have h := no_s h
        subst h
        exact vr_iret C hq nd_Md_rule_50 rfl
      · have h := no_f hc h
        refine vr_ic C nd_Md_rule_30 ?_
        have h := no_s h
        subst h
        exact vr_iret C hq nd_Md_rule_32 rfl
  · have h := no_bf hc h
    refine vr_ic C nd_Md_rule_12 ?_
    have h := no_s h
    subst h
    exact vr_iret C hq nd_Md_rule_13 rfl
abbrev nr_Md_ofKind : Room := { frames := 1, cells := 0, slots := 0, locals := 21 }
theorem lw_Md_ofKind_5 {G : nj_G} {ad : Nat → Nat} (C : nj_C G nb_Md_ofKind 5 "NobodyJoinsModel" nr_Md_ofKind) (m : MdS) (f1 : Int32) (f2 : Int32) : ∀ (n : Nat) (v3 : Int32) (v4 : Int32) (x : Int32), lo_Md_ofKind_5 m f1 f2 n v3 v4 = some x → nj_V G ad 0 0 51 [none, none, none, some (.int x), none] [] (rp_Md m) → nj_V G ad 0 0 5 [some (.ref 0), some (.int f1), some (.int f2), some (.int v3), some (.int v4)] [] (rp_Md m) := by
  intro n
  induction n with
  | zero => intro v3 v4 x h; rw [lo_Md_ofKind_5] at h; cases h
  | succ n ih =>
    intro v3 v4 x h hk
    rw [lo_Md_ofKind_5] at h
    refine vr_il C nd_Md_ofKind_5 rfl ?_
    refine vr_al C nd_Md_ofKind_7 rfl ?_
    refine vr_get (v := .int (md_children m)) C nd_Md_ofKind_8 rfl fl_Md_142 (at_Md_0 m) rfl ?_
    refine vr_cm_ge C nd_Md_ofKind_11 (fun hc => ?_) (fun hc => ?_)
    · have h := no_t hc h
      have h := no_s h
      subst h
      exact vr_wk [0, 1, 2, 4] rfl hk
    · have h := no_f hc h
      refine vr_il C nd_Md_ofKind_14 rfl ?_
      refine vr_il C nd_Md_ofKind_15 rfl ?_
      refine vr_il C nd_Md_ofKind_16 rfl ?_
      obtain ⟨w1, hV2, h⟩ := no_b h
      refine vr_cSip [] [.int f2, .int v4] [.int v3] C nd_Md_ofKind_18 rfl ml_Md_125 my_Md_has (co_Md_has f2 v4 w1 hV2) (em_E _) rfl rfl ⟨rfl, rfl, rfl, rfl⟩ (Nat.zero_le _) (Nat.zero_le _) rfl ?_
      obtain ⟨p3, hP5, h⟩ := no_b h
      have hj : nj_V G ad 0 0 43 [some (.ref 0), some (.int f1), some (.int f2), none, some (.int v4)] [.int p3, .int v3] (rp_Md m) := by
        refine vr_ior C nd_Md_ofKind_43 rfl ?_
        refine vr_is (ls' := [some (.ref 0), some (.int f1), some (.int f2), some (.int (v3 ||| p3)), some (.int v4)]) C nd_Md_ofKind_44 rfl rfl ?_
        refine vr_inc (v := (v4 + (1 : Int32))) (ls' := [some (.ref 0), some (.int f1), some (.int f2), some (.int (v3 ||| p3)), some (.int (v4 + (1 : Int32)))]) C nd_Md_ofKind_45 rfl rfl rfl rfl rfl ?_
        refine vr_go C nd_Md_ofKind_48 ?_
        exact (ih _ _ _ h hk)
      clear h
      have h := hP5
      clear hP5
      refine vr_ifb_eq C nd_Md_ofKind_21 (fun hc => ?_) (fun hc => ?_)
      · have h := no_bf hc h
        refine vr_ic C nd_Md_ofKind_42 ?_
        have h := no_s h
        subst h
        exact vr_wk [3] rfl hj
      · have h := no_bt hc h
        refine vr_al C nd_Md_ofKind_24 rfl ?_
        refine vr_get (v := .ref 2) C nd_Md_ofKind_25 rfl fl_Md_13 (at_Md_0 m) rfl ?_
        refine vr_il C nd_Md_ofKind_28 rfl ?_
        obtain ⟨hN4, h⟩ := no_i h
        refine vr_ialk (j := (nj_n v4)) (f := (md_kinds m)) C nd_Md_ofKind_30 rfl (at_Md_2 m) hN4 rfl ?_
        refine vr_il C nd_Md_ofKind_31 rfl ?_
        refine vr_cm_ne C nd_Md_ofKind_32 (fun hc => ?_) (fun hc => ?_)
        · have h := no_f hc h
          refine vr_ic C nd_Md_ofKind_42 ?_
          have h := no_s h
          subst h
          exact vr_wk [3] rfl hj
        · have h := no_t hc h
          refine vr_ic C nd_Md_ofKind_35 ?_
          refine vr_il C nd_Md_ofKind_36 rfl ?_
          refine vr_ishl C nd_Md_ofKind_38 rfl ?_
          refine vr_go C nd_Md_ofKind_39 ?_
          have h := no_s h
          subst h
          exact vr_wk [3] rfl hj
theorem co_Md_ofKind (m : MdS) (a1 : Int32) (a2 : Int32) (x : Int32) (h : mo_Md_ofKind m a1 a2 = some x) : nj_Con ny_Md_ofKind nb_Md_ofKind 5 (some .int) nr_Md_ofKind (rp_Md m) [.ref 0, .int a1, .int a2] (some (.int x)) (rp_Md m) := by
  rw [mo_Md_ofKind] at h
  refine nj_con (by decide) rfl 2 rfl (fun G ad C hq => ?_)
  have C : nj_C G nb_Md_ofKind 5 "NobodyJoinsModel" nr_Md_ofKind := C
  show nj_V G ad 0 0 0 [some (.ref 0), some (.int a1), some (.int a2), none, none] [] (rp_Md m)
  refine vr_ic C nd_Md_ofKind_0 ?_
  refine vr_is (ls' := [some (.ref 0), some (.int a1), some (.int a2), some (.int (0 : Int32)), none]) C nd_Md_ofKind_1 rfl rfl ?_
  refine vr_ic C nd_Md_ofKind_2 ?_
  refine vr_is (ls' := [some (.ref 0), some (.int a1), some (.int a2), some (.int (0 : Int32)), some (.int (0 : Int32))]) C nd_Md_ofKind_3 rfl rfl ?_
  obtain ⟨x6, hX7, h⟩ := no_b h
  refine lw_Md_ofKind_5 C m a1 a2 nj_fu _ _ x6 hX7 ?_
  refine vr_il C nd_Md_ofKind_51 rfl ?_
  have h := no_s h
  subst h
  exact vr_iret C hq nd_Md_ofKind_52 rfl
abbrev nr_Md_votesOf : Room := { frames := 1, cells := 0, slots := 0, locals := 21 }
theorem lw_Md_votesOf_4 {G : nj_G} {ad : Nat → Nat} (C : nj_C G nb_Md_votesOf 4 "NobodyJoinsModel" nr_Md_votesOf) (m : MdS) (f1 : Int32) : ∀ (n : Nat) (v2 : Int32) (v3 : Int32) (x : Int32), lo_Md_votesOf_4 m f1 n v2 v3 = some x → nj_V G ad 0 0 38 [none, none, some (.int x), none] [] (rp_Md m) → nj_V G ad 0 0 4 [some (.ref 0), some (.int f1), some (.int v2), some (.int v3)] [] (rp_Md m) := by
  intro n
  induction n with
  | zero => intro v2 v3 x h; rw [lo_Md_votesOf_4] at h; cases h
  | succ n ih =>
    intro v2 v3 x h hk
    rw [lo_Md_votesOf_4] at h
    refine vr_il C nd_Md_votesOf_4 rfl ?_
    refine vr_al C nd_Md_votesOf_5 rfl ?_
    refine vr_get (v := .int (md_children m)) C nd_Md_votesOf_6 rfl fl_Md_142 (at_Md_0 m) rfl ?_
    refine vr_cm_ge C nd_Md_votesOf_9 (fun hc => ?_) (fun hc => ?_)
    · have h := no_t hc h
      have h := no_s h
      subst h
      exact vr_wk [0, 1, 3] rfl hk
    · have h := no_f hc h
      refine vr_il C nd_Md_votesOf_12 rfl ?_
      refine vr_il C nd_Md_votesOf_13 rfl ?_
      refine vr_il C nd_Md_votesOf_14 rfl ?_
      obtain ⟨w1, hV2, h⟩ := no_b h
      refine vr_cSip [] [.int f1, .int v3] [.int v2] C nd_Md_votesOf_15 rfl ml_Md_125 my_Md_has (co_Md_has f1 v3 w1 hV2) (em_E _) rfl rfl ⟨rfl, rfl, rfl, rfl⟩ (Nat.zero_le _) (Nat.zero_le _) rfl ?_
      obtain ⟨p3, hP6, h⟩ := no_b h
      have hj : nj_V G ad 0 0 30 [some (.ref 0), some (.int f1), none, some (.int v3)] [.int p3, .int v2] (rp_Md m) := by
        refine vr_iadd C nd_Md_votesOf_30 rfl ?_
        refine vr_is (ls' := [some (.ref 0), some (.int f1), some (.int (v2 + p3)), some (.int v3)]) C nd_Md_votesOf_31 rfl rfl ?_
        refine vr_inc (v := (v3 + (1 : Int32))) (ls' := [some (.ref 0), some (.int f1), some (.int (v2 + p3)), some (.int (v3 + (1 : Int32)))]) C nd_Md_votesOf_32 rfl rfl rfl rfl rfl ?_
        refine vr_go C nd_Md_votesOf_35 ?_
        exact (ih _ _ _ h hk)
      clear h
      have h := hP6
      clear hP6
      refine vr_ifb_eq C nd_Md_votesOf_18 (fun hc => ?_) (fun hc => ?_)
      · have h := no_bf hc h
        refine vr_ic C nd_Md_votesOf_29 ?_
        have h := no_s h
        subst h
        exact vr_wk [2] rfl hj
      · have h := no_bt hc h
        refine vr_al C nd_Md_votesOf_21 rfl ?_
        refine vr_il C nd_Md_votesOf_22 rfl ?_
        obtain ⟨w4, hV5, h⟩ := no_b h
        refine vr_sVi (hp' := (rp_Md m)) [.int v3] [.int v2] C nd_Md_votesOf_23 rfl ml_Md_145 my_Md_votes (co_Md_votes m v3 w4 hV5) ⟨_, _, _, rfl, rfl, rfl⟩ rfl rfl ⟨rfl, rfl, rfl, rfl⟩ (Nat.zero_le _) (Nat.zero_le _) rfl ?_
        refine vr_go C nd_Md_votesOf_26 ?_
        have h := no_s h
        subst h
        exact vr_wk [2] rfl hj
theorem co_Md_votesOf (m : MdS) (a1 : Int32) (x : Int32) (h : mo_Md_votesOf m a1 = some x) : nj_Con ny_Md_votesOf nb_Md_votesOf 4 (some .int) nr_Md_votesOf (rp_Md m) [.ref 0, .int a1] (some (.int x)) (rp_Md m) := by
  rw [mo_Md_votesOf] at h
  refine nj_con (by decide) rfl 2 rfl (fun G ad C hq => ?_)
  have C : nj_C G nb_Md_votesOf 4 "NobodyJoinsModel" nr_Md_votesOf := C
  show nj_V G ad 0 0 0 [some (.ref 0), some (.int a1), none, none] [] (rp_Md m)
  refine vr_ic C nd_Md_votesOf_0 ?_
  refine vr_is (ls' := [some (.ref 0), some (.int a1), some (.int (0 : Int32)), none]) C nd_Md_votesOf_1 rfl rfl ?_
  refine vr_ic C nd_Md_votesOf_2 ?_
  refine vr_is (ls' := [some (.ref 0), some (.int a1), some (.int (0 : Int32)), some (.int (0 : Int32))]) C nd_Md_votesOf_3 rfl rfl ?_
  obtain ⟨x7, hX8, h⟩ := no_b h
  refine lw_Md_votesOf_4 C m a1 nj_fu _ _ x7 hX8 ?_
  refine vr_il C nd_Md_votesOf_38 rfl ?_
  have h := no_s h
  subst h
  exact vr_iret C hq nd_Md_votesOf_39 rfl
abbrev nr_Md_yesFor : Room := { frames := 3, cells := 0, slots := 0, locals := 67 }
theorem co_Md_yesFor (m : MdS) (a1 : Int32) (a2 : Int32) (x : Int32) (h : mo_Md_yesFor m a1 a2 = some x) : nj_Con ny_Md_yesFor nb_Md_yesFor 3 (some .int) nr_Md_yesFor (rp_Md m) [.ref 0, .int a1, .int a2] (some (.int x)) (rp_Md m) := by
  rw [mo_Md_yesFor] at h
  refine nj_con (by decide) rfl 0 rfl (fun G ad C hq => ?_)
  have C : nj_C G nb_Md_yesFor 3 "NobodyJoinsModel" nr_Md_yesFor := C
  show nj_V G ad 0 0 0 [some (.ref 0), some (.int a1), some (.int a2)] [] (rp_Md m)
  refine vr_al C nd_Md_yesFor_0 rfl ?_
  refine vr_il C nd_Md_yesFor_1 rfl ?_
  refine vr_al C nd_Md_yesFor_2 rfl ?_
  refine vr_il C nd_Md_yesFor_3 rfl ?_
  refine vr_il C nd_Md_yesFor_4 rfl ?_
  obtain ⟨w1, hV2, h⟩ := no_b h
  refine vr_sVi (hp' := (rp_Md m)) [.int a1, .int a2] [.int a2, .ref 0] C nd_Md_yesFor_5 rfl ml_Md_151 my_Md_liking (co_Md_liking m a1 a2 w1 hV2) ⟨_, _, _, rfl, rfl, rfl⟩ rfl rfl ⟨rfl, rfl, rfl, rfl⟩ (Nat.zero_le _) (Nat.zero_le _) rfl ?_
  refine vr_ic C nd_Md_yesFor_8 ?_
  refine vr_il C nd_Md_yesFor_9 rfl ?_
  refine vr_ishl C nd_Md_yesFor_10 rfl ?_
  refine vr_ior C nd_Md_yesFor_11 rfl ?_
  refine vr_ic C nd_Md_yesFor_12 ?_
  refine vr_ixor C nd_Md_yesFor_13 rfl ?_
  refine vr_iand C nd_Md_yesFor_14 rfl ?_
  obtain ⟨w3, hV4, h⟩ := no_b h
  refine vr_sVi (hp' := (rp_Md m)) [.int (a2 &&& ((w1 ||| ((1 : Int32) <<< (a1 &&& 31))) ^^^ (-1 : Int32)))] [] C nd_Md_yesFor_15 rfl ml_Md_154 my_Md_votesOf (co_Md_votesOf m (a2 &&& ((w1 ||| ((1 : Int32) <<< (a1 &&& 31))) ^^^ (-1 : Int32))) w3 hV4) ⟨_, _, _, rfl, rfl, rfl⟩ rfl rfl ⟨rfl, rfl, rfl, rfl⟩ (Nat.zero_le _) (Nat.zero_le _) rfl ?_
  have h := no_s h
  subst h
  exact vr_iret C hq nd_Md_yesFor_18 rfl
abbrev nr_Md_isAgainst : Room := { frames := 4, cells := 0, slots := 0, locals := 89 }
theorem co_Md_isAgainst (m : MdS) (a1 : Int32) (a2 : Int32) (a3 : Int32) (x : Bool) (h : mo_Md_isAgainst m a1 a2 a3 = some x) : nj_Con ny_Md_isAgainst nb_Md_isAgainst 6 (some .boolean) nr_Md_isAgainst (rp_Md m) [.ref 0, .int a1, .int a2, .int a3] (some (.int (nj_b x))) (rp_Md m) := by
  rw [mo_Md_isAgainst] at h
  refine nj_con (by decide) rfl 2 rfl (fun G ad C hq => ?_)
  have C : nj_C G nb_Md_isAgainst 6 "NobodyJoinsModel" nr_Md_isAgainst := C
  show nj_V G ad 0 0 0 [some (.ref 0), some (.int a1), some (.int a2), some (.int a3), none, none] [] (rp_Md m)
  refine vr_al C nd_Md_isAgainst_0 rfl ?_
  refine vr_il C nd_Md_isAgainst_1 rfl ?_
  refine vr_il C nd_Md_isAgainst_2 rfl ?_
  obtain ⟨w1, hV2, h⟩ := no_b h
  refine vr_sVi (hp' := (rp_Md m)) [.int a2, .int a3] [] C nd_Md_isAgainst_3 rfl ml_Md_157 my_Md_yesFor (co_Md_yesFor m a2 a3 w1 hV2) ⟨_, _, _, rfl, rfl, rfl⟩ rfl rfl ⟨rfl, rfl, rfl, rfl⟩ (Nat.zero_le _) (Nat.zero_le _) rfl ?_
  refine vr_is (ls' := [some (.ref 0), some (.int a1), some (.int a2), some (.int a3), some (.int w1), none]) C nd_Md_isAgainst_6 rfl rfl ?_
  refine vr_al C nd_Md_isAgainst_8 rfl ?_
  refine vr_il C nd_Md_isAgainst_9 rfl ?_
  obtain ⟨w3, hV4, h⟩ := no_b h
  refine vr_sVi (hp' := (rp_Md m)) [.int a3] [] C nd_Md_isAgainst_10 rfl ml_Md_154 my_Md_votesOf (co_Md_votesOf m a3 w3 hV4) ⟨_, _, _, rfl, rfl, rfl⟩ rfl rfl ⟨rfl, rfl, rfl, rfl⟩ (Nat.zero_le _) (Nat.zero_le _) rfl ?_
  refine vr_il C nd_Md_isAgainst_13 rfl ?_
  refine vr_isub C nd_Md_isAgainst_15 rfl ?_
  refine vr_is (ls' := [some (.ref 0), some (.int a1), some (.int a2), some (.int a3), some (.int w1), some (.int (w3 - w1))]) C nd_Md_isAgainst_16 rfl rfl ?_
  refine vr_il C nd_Md_isAgainst_18 rfl ?_
  by_cases hS5 : a1 = (1 : Int32)
  · have h := no_t hS5 h
    refine vr_ls C nd_Md_isAgainst_19 (by decide) (by first | (rw [hS5]; done) | (rw [hS5]; rfl)) rfl ?_
    refine vr_il C nd_Md_isAgainst_44 rfl ?_
    refine vr_if_le C nd_Md_isAgainst_46 (fun hc => ?_) (fun hc => ?_)
    · have h := no_t hc h
      refine vr_ic C nd_Md_isAgainst_62 ?_
      have h := no_s h
      subst h
      exact vr_zret false C hq nd_Md_isAgainst_63 rfl
    · have h := no_f hc h
      refine vr_il C nd_Md_isAgainst_49 rfl ?_
      refine vr_ic C nd_Md_isAgainst_51 ?_
      refine vr_il C nd_Md_isAgainst_52 rfl ?_
      refine vr_imul C nd_Md_isAgainst_54 rfl ?_
      refine vr_cm_lt C nd_Md_isAgainst_55 (fun hc => ?_) (fun hc => ?_)
      · have h := no_t hc h
        refine vr_ic C nd_Md_isAgainst_62 ?_
        have h := no_s h
        subst h
        exact vr_zret false C hq nd_Md_isAgainst_63 rfl
      · have h := no_f hc h
        refine vr_ic C nd_Md_isAgainst_58 ?_
        refine vr_go C nd_Md_isAgainst_59 ?_
        have h := no_s h
        subst h
        exact vr_zret true C hq nd_Md_isAgainst_63 rfl
  have h := no_f hS5 h
  by_cases hS8 : a1 = (2 : Int32)
  · have h := no_t hS8 h
    refine vr_ls C nd_Md_isAgainst_19 (by decide) (by first | (rw [hS8]; done) | (rw [hS8]; rfl)) rfl ?_
    refine vr_il C nd_Md_isAgainst_64 rfl ?_
    refine vr_if_le C nd_Md_isAgainst_66 (fun hc => ?_) (fun hc => ?_)
    · have h := no_t hc h
      refine vr_ic C nd_Md_isAgainst_83 ?_
      have h := no_s h
      subst h
      exact vr_zret false C hq nd_Md_isAgainst_84 rfl
    · have h := no_f hc h
      refine vr_il C nd_Md_isAgainst_69 rfl ?_
      refine vr_al C nd_Md_isAgainst_71 rfl ?_
      refine vr_il C nd_Md_isAgainst_72 rfl ?_
      obtain ⟨w6, hV7, h⟩ := no_b h
      refine vr_sVi (hp' := (rp_Md m)) [.int a2] [.int (w3 - w1)] C nd_Md_isAgainst_73 rfl ml_Md_145 my_Md_votes (co_Md_votes m a2 w6 hV7) ⟨_, _, _, rfl, rfl, rfl⟩ rfl rfl ⟨rfl, rfl, rfl, rfl⟩ (Nat.zero_le _) (Nat.zero_le _) rfl ?_
      refine vr_cm_ne C nd_Md_isAgainst_76 (fun hc => ?_) (fun hc => ?_)
      · have h := no_f hc h
        refine vr_ic C nd_Md_isAgainst_83 ?_
        have h := no_s h
        subst h
        exact vr_zret false C hq nd_Md_isAgainst_84 rfl
      · have h := no_t hc h
        refine vr_ic C nd_Md_isAgainst_79 ?_
        refine vr_go C nd_Md_isAgainst_80 ?_
        have h := no_s h
        subst h
        exact vr_zret true C hq nd_Md_isAgainst_84 rfl
  have h := no_f hS8 h
  refine vr_ls (off := 66) C nd_Md_isAgainst_19 (by decide) (by rw [lv_osw (a := 1) hS5 (by decide), lv_osw (a := 2) hS8 (by decide)]; rfl) rfl ?_
  refine vr_il C nd_Md_isAgainst_85 rfl ?_
  refine vr_il C nd_Md_isAgainst_87 rfl ?_
  refine vr_cm_le C nd_Md_isAgainst_89 (fun hc => ?_) (fun hc => ?_)
  · have h := no_t hc h
    refine vr_ic C nd_Md_isAgainst_96 ?_
    have h := no_s h
    subst h
    exact vr_zret false C hq nd_Md_isAgainst_97 rfl
  · have h := no_f hc h
    refine vr_ic C nd_Md_isAgainst_92 ?_
    refine vr_go C nd_Md_isAgainst_93 ?_
    have h := no_s h
    subst h
    exact vr_zret true C hq nd_Md_isAgainst_97 rfl
abbrev nr_Md_isOut : Room := { frames := 5, cells := 0, slots := 0, locals := 114 }
theorem co_Md_isOut (m : MdS) (a1 : Int32) (a2 : Int32) (a3 : Int32) (x : Bool) (h : mo_Md_isOut m a1 a2 a3 = some x) : nj_Con ny_Md_isOut nb_Md_isOut 8 (some .boolean) nr_Md_isOut (rp_Md m) [.ref 0, .int a1, .int a2, .int a3] (some (.int (nj_b x))) (rp_Md m) := by
  rw [mo_Md_isOut] at h
  refine nj_con (by decide) rfl 4 rfl (fun G ad C hq => ?_)
  have C : nj_C G nb_Md_isOut 8 "NobodyJoinsModel" nr_Md_isOut := C
  show nj_V G ad 0 0 0 [some (.ref 0), some (.int a1), some (.int a2), some (.int a3), none, none, none, none] [] (rp_Md m)
  refine vr_al C nd_Md_isOut_0 rfl ?_
  refine vr_il C nd_Md_isOut_1 rfl ?_
  refine vr_il C nd_Md_isOut_2 rfl ?_
  obtain ⟨w1, hV2, h⟩ := no_b h
  refine vr_sVi (hp' := (rp_Md m)) [.int a2, .int a3] [] C nd_Md_isOut_3 rfl ml_Md_151 my_Md_liking (co_Md_liking m a2 a3 w1 hV2) ⟨_, _, _, rfl, rfl, rfl⟩ rfl rfl ⟨rfl, rfl, rfl, rfl⟩ (Nat.zero_le _) (Nat.zero_le _) rfl ?_
  refine vr_is (ls' := [some (.ref 0), some (.int a1), some (.int a2), some (.int a3), some (.int w1), none, none, none]) C nd_Md_isOut_6 rfl rfl ?_
  refine vr_al C nd_Md_isOut_8 rfl ?_
  refine vr_ic C nd_Md_isOut_9 ?_
  refine vr_il C nd_Md_isOut_10 rfl ?_
  obtain ⟨w3, hV4, h⟩ := no_b h
  refine vr_sVi (hp' := (rp_Md m)) [.int (5 : Int32), .int a3] [] C nd_Md_isOut_11 rfl ml_Md_160 my_Md_ofKind (co_Md_ofKind m (5 : Int32) a3 w3 hV4) ⟨_, _, _, rfl, rfl, rfl⟩ rfl rfl ⟨rfl, rfl, rfl, rfl⟩ (Nat.zero_le _) (Nat.zero_le _) rfl ?_
  refine vr_ic C nd_Md_isOut_14 ?_
  refine vr_il C nd_Md_isOut_15 rfl ?_
  refine vr_ishl C nd_Md_isOut_16 rfl ?_
  refine vr_ic C nd_Md_isOut_17 ?_
  refine vr_ixor C nd_Md_isOut_18 rfl ?_
  refine vr_iand C nd_Md_isOut_19 rfl ?_
  refine vr_is (ls' := [some (.ref 0), some (.int a1), some (.int a2), some (.int a3), some (.int w1), some (.int (w3 &&& (((1 : Int32) <<< (a2 &&& 31)) ^^^ (-1 : Int32)))), none, none]) C nd_Md_isOut_20 rfl rfl ?_
  refine vr_al C nd_Md_isOut_22 rfl ?_
  refine vr_il C nd_Md_isOut_23 rfl ?_
  refine vr_ic C nd_Md_isOut_24 ?_
  obtain ⟨p5, hP17, h⟩ := no_b h
  have hj : nj_V G ad 0 0 33 [some (.ref 0), some (.int a1), some (.int a2), some (.int a3), some (.int w1), some (.int (w3 &&& (((1 : Int32) <<< (a2 &&& 31)) ^^^ (-1 : Int32)))), none, none] [.int p5, .ref 0] (rp_Md m) := by
    refine vr_il C nd_Md_isOut_33 rfl ?_
    refine vr_il C nd_Md_isOut_34 rfl ?_
    obtain ⟨w6, hV7, h⟩ := no_b h
    refine vr_sVi (hp' := (rp_Md m)) [.int p5, .int a2, .int a3] [] C nd_Md_isOut_35 rfl ml_Md_163 my_Md_isAgainst (co_Md_isAgainst m p5 a2 a3 w6 hV7) ⟨_, _, _, rfl, rfl, rfl⟩ rfl rfl ⟨rfl, rfl, rfl, rfl⟩ (Nat.zero_le _) (Nat.zero_le _) rfl ?_
    obtain ⟨p8, hP16, h⟩ := no_b h
    have hj : nj_V G ad 0 0 66 [some (.ref 0), none, some (.int a2), some (.int a3), some (.int w1), none, none, none] [.int p8] (rp_Md m) := by
      refine vr_is (ls' := [some (.ref 0), none, some (.int a2), some (.int a3), some (.int w1), none, some (.int p8), none]) C nd_Md_isOut_66 rfl rfl ?_
      refine vr_al C nd_Md_isOut_68 rfl ?_
      refine vr_ic C nd_Md_isOut_69 ?_
      refine vr_il C nd_Md_isOut_70 rfl ?_
      obtain ⟨w9, hV10, h⟩ := no_b h
      refine vr_sVi (hp' := (rp_Md m)) [.int (2 : Int32), .int a3] [] C nd_Md_isOut_71 rfl ml_Md_160 my_Md_ofKind (co_Md_ofKind m (2 : Int32) a3 w9 hV10) ⟨_, _, _, rfl, rfl, rfl⟩ rfl rfl ⟨rfl, rfl, rfl, rfl⟩ (Nat.zero_le _) (Nat.zero_le _) rfl ?_
      refine vr_il C nd_Md_isOut_74 rfl ?_
      refine vr_iand C nd_Md_isOut_76 rfl ?_
      refine vr_ic C nd_Md_isOut_77 ?_
      refine vr_il C nd_Md_isOut_78 rfl ?_
      refine vr_ishl C nd_Md_isOut_79 rfl ?_
      refine vr_ic C nd_Md_isOut_80 ?_
      refine vr_ixor C nd_Md_isOut_81 rfl ?_
      refine vr_iand C nd_Md_isOut_82 rfl ?_
      obtain ⟨p11, hP15, h⟩ := no_b h
      have hj : nj_V G ad 0 0 91 [some (.ref 0), none, some (.int a2), some (.int a3), none, none, some (.int p8), none] [.int p11] (rp_Md m) := by
        refine vr_is (ls' := [some (.ref 0), none, some (.int a2), some (.int a3), none, none, some (.int p8), some (.int p11)]) C nd_Md_isOut_91 rfl rfl ?_
        refine vr_il C nd_Md_isOut_93 rfl ?_
        refine vr_if_eq C nd_Md_isOut_95 (fun hc => ?_) (fun hc => ?_)
        · have h := no_t hc h
          refine vr_ic C nd_Md_isOut_127 ?_
          have h := no_s h
          subst h
          exact vr_zret false C hq nd_Md_isOut_128 rfl
        · have h := no_f hc h
          refine vr_il C nd_Md_isOut_98 rfl ?_
          refine vr_if_ne C nd_Md_isOut_100 (fun hc => ?_) (fun hc => ?_)
          · have h := no_f hc h
            refine vr_ic C nd_Md_isOut_127 ?_
            have h := no_s h
            subst h
            exact vr_zret false C hq nd_Md_isOut_128 rfl
          · have h := no_t hc h
            refine vr_al C nd_Md_isOut_103 rfl ?_
            refine vr_get (v := .ref 2) C nd_Md_isOut_104 rfl fl_Md_13 (at_Md_0 m) rfl ?_
            refine vr_il C nd_Md_isOut_107 rfl ?_
            obtain ⟨hN12, h⟩ := no_i h
            refine vr_ialk (j := (nj_n a2)) (f := (md_kinds m)) C nd_Md_isOut_108 rfl (at_Md_2 m) hN12 rfl ?_
            refine vr_ic C nd_Md_isOut_109 ?_
            refine vr_cm_ne C nd_Md_isOut_110 (fun hc => ?_) (fun hc => ?_)
            · have h := no_f hc h
              refine vr_ic C nd_Md_isOut_123 ?_
              refine vr_go C nd_Md_isOut_124 ?_
              have h := no_s h
              subst h
              exact vr_zret true C hq nd_Md_isOut_128 rfl
            · have h := no_t hc h
              refine vr_al C nd_Md_isOut_113 rfl ?_
              refine vr_ic C nd_Md_isOut_114 ?_
              refine vr_il C nd_Md_isOut_115 rfl ?_
              refine vr_il C nd_Md_isOut_116 rfl ?_
              obtain ⟨w13, hV14, h⟩ := no_b h
              refine vr_sVi (hp' := (rp_Md m)) [.int (2 : Int32), .int a2, .int a3] [] C nd_Md_isOut_117 rfl ml_Md_163 my_Md_isAgainst (co_Md_isAgainst m (2 : Int32) a2 a3 w13 hV14) ⟨_, _, _, rfl, rfl, rfl⟩ rfl rfl ⟨rfl, rfl, rfl, rfl⟩ (Nat.zero_le _) (Nat.zero_le _) rfl ?_
              refine vr_ifb_eq C nd_Md_isOut_120 (fun hc => ?_) (fun hc => ?_)
              · have h := no_bf hc h
                refine vr_ic C nd_Md_isOut_127 ?_
                have h := no_s h
                subst h
                exact vr_zret false C hq nd_Md_isOut_128 rfl
              · have h := no_bt hc h
                refine vr_ic C nd_Md_isOut_123 ?_
                refine vr_go C nd_Md_isOut_124 ?_
                have h := no_s h
                subst h
                exact vr_zret true C hq nd_Md_isOut_128 rfl
      clear h
      have h := hP15
      clear hP15
      refine vr_if_eq C nd_Md_isOut_83 (fun hc => ?_) (fun hc => ?_)
      · have h := no_t hc h
        refine vr_ic C nd_Md_isOut_90 ?_
        have h := no_s h
        subst h
        exact vr_wk [4] rfl hj
      · have h := no_f hc h
        refine vr_ic C nd_Md_isOut_86 ?_
        refine vr_go C nd_Md_isOut_87 ?_
        have h := no_s h
        subst h
        exact vr_wk [4] rfl hj
    clear h
    have h := hP16
    clear hP16
    refine vr_ifb_eq C nd_Md_isOut_38 (fun hc => ?_) (fun hc => ?_)
    · have h := no_bf hc h
      refine vr_ic C nd_Md_isOut_65 ?_
      have h := no_s h
      subst h
      exact vr_wk [1, 5] rfl hj
    · have h := no_bt hc h
      refine vr_il C nd_Md_isOut_41 rfl ?_
      refine vr_ic C nd_Md_isOut_42 ?_
      refine vr_cm_ne C nd_Md_isOut_43 (fun hc => ?_) (fun hc => ?_)
      · have h := no_f hc h
        refine vr_ic C nd_Md_isOut_61 ?_
        refine vr_go C nd_Md_isOut_62 ?_
        have h := no_s h
        subst h
        exact vr_wk [1, 5] rfl hj
      · have h := no_t hc h
        refine vr_il C nd_Md_isOut_46 rfl ?_
        refine vr_if_eq C nd_Md_isOut_48 (fun hc => ?_) (fun hc => ?_)
        · have h := no_t hc h
          refine vr_ic C nd_Md_isOut_61 ?_
          refine vr_go C nd_Md_isOut_62 ?_
          have h := no_s h
          subst h
          exact vr_wk [1, 5] rfl hj
        · have h := no_f hc h
          refine vr_il C nd_Md_isOut_51 rfl ?_
          refine vr_il C nd_Md_isOut_53 rfl ?_
          refine vr_ic C nd_Md_isOut_55 ?_
          refine vr_ixor C nd_Md_isOut_56 rfl ?_
          refine vr_iand C nd_Md_isOut_57 rfl ?_
          refine vr_if_eq C nd_Md_isOut_58 (fun hc => ?_) (fun hc => ?_)
          · have h := no_t hc h
            refine vr_ic C nd_Md_isOut_65 ?_
            have h := no_s h
            subst h
            exact vr_wk [1, 5] rfl hj
          · have h := no_f hc h
            refine vr_ic C nd_Md_isOut_61 ?_
            refine vr_go C nd_Md_isOut_62 ?_
            have h := no_s h
            subst h
            exact vr_wk [1, 5] rfl hj
  clear h
  have h := hP17
  clear hP17
  refine vr_cm_ne C nd_Md_isOut_25 (fun hc => ?_) (fun hc => ?_)
  · have h := no_f hc h
    refine vr_il C nd_Md_isOut_32 rfl ?_
    have h := no_s h
    subst h
    exact hj
  · have h := no_t hc h
    refine vr_ic C nd_Md_isOut_28 ?_
    refine vr_go C nd_Md_isOut_29 ?_
    have h := no_s h
    subst h
    exact hj
abbrev nr_Md_outs : Room := { frames := 6, cells := 0, slots := 0, locals := 141 }
theorem lw_Md_outs_4 {G : nj_G} {ad : Nat → Nat} (C : nj_C G nb_Md_outs 4 "NobodyJoinsModel" nr_Md_outs) (m : MdS) (f1 : Int32) : ∀ (n : Nat) (v2 : Int32) (v3 : Int32) (x : Int32), lo_Md_outs_4 m f1 n v2 v3 = some x → nj_V G ad 0 0 52 [none, none, some (.int x), none] [] (rp_Md m) → nj_V G ad 0 0 4 [some (.ref 0), some (.int f1), some (.int v2), some (.int v3)] [] (rp_Md m) := by
  intro n
  induction n with
  | zero => intro v2 v3 x h; rw [lo_Md_outs_4] at h; cases h
  | succ n ih =>
    intro v2 v3 x h hk
    rw [lo_Md_outs_4] at h
    refine vr_il C nd_Md_outs_4 rfl ?_
    refine vr_al C nd_Md_outs_5 rfl ?_
    refine vr_get (v := .int (md_children m)) C nd_Md_outs_6 rfl fl_Md_142 (at_Md_0 m) rfl ?_
    refine vr_cm_ge C nd_Md_outs_9 (fun hc => ?_) (fun hc => ?_)
    · have h := no_t hc h
      have h := no_s h
      subst h
      exact vr_wk [0, 1, 3] rfl hk
    · have h := no_f hc h
      refine vr_il C nd_Md_outs_12 rfl ?_
      refine vr_il C nd_Md_outs_13 rfl ?_
      refine vr_il C nd_Md_outs_14 rfl ?_
      obtain ⟨w1, hV2, h⟩ := no_b h
      refine vr_cSip [] [.int f1, .int v3] [.int v2] C nd_Md_outs_15 rfl ml_Md_125 my_Md_has (co_Md_has f1 v3 w1 hV2) (em_E _) rfl rfl ⟨rfl, rfl, rfl, rfl⟩ (Nat.zero_le _) (Nat.zero_le _) rfl ?_
      obtain ⟨p3, hP6, h⟩ := no_b h
      have hj : nj_V G ad 0 0 44 [some (.ref 0), some (.int f1), none, some (.int v3)] [.int p3, .int v2] (rp_Md m) := by
        refine vr_ior C nd_Md_outs_44 rfl ?_
        refine vr_is (ls' := [some (.ref 0), some (.int f1), some (.int (v2 ||| p3)), some (.int v3)]) C nd_Md_outs_45 rfl rfl ?_
        refine vr_inc (v := (v3 + (1 : Int32))) (ls' := [some (.ref 0), some (.int f1), some (.int (v2 ||| p3)), some (.int (v3 + (1 : Int32)))]) C nd_Md_outs_46 rfl rfl rfl rfl rfl ?_
        refine vr_go C nd_Md_outs_49 ?_
        exact (ih _ _ _ h hk)
      clear h
      have h := hP6
      clear hP6
      refine vr_ifb_eq C nd_Md_outs_18 (fun hc => ?_) (fun hc => ?_)
      · have h := no_bf hc h
        refine vr_ic C nd_Md_outs_43 ?_
        have h := no_s h
        subst h
        exact vr_wk [2] rfl hj
      · have h := no_bt hc h
        refine vr_al C nd_Md_outs_21 rfl ?_
        refine vr_al C nd_Md_outs_22 rfl ?_
        refine vr_get (v := .ref 1) C nd_Md_outs_23 rfl fl_Md_7 (at_Md_0 m) rfl ?_
        refine vr_ic C nd_Md_outs_26 ?_
        refine vr_ialk (j := 15) (f := (md_row m)) C nd_Md_outs_28 rfl (at_Md_1 m) (nj_inc rfl) rfl ?_
        refine vr_il C nd_Md_outs_29 rfl ?_
        refine vr_il C nd_Md_outs_30 rfl ?_
        obtain ⟨w4, hV5, h⟩ := no_b h
        refine vr_sVi (hp' := (rp_Md m)) [.int ((md_row m) 15), .int v3, .int f1] [.int v2] C nd_Md_outs_31 rfl ml_Md_166 my_Md_isOut (co_Md_isOut m ((md_row m) 15) v3 f1 w4 hV5) ⟨_, _, _, rfl, rfl, rfl⟩ rfl rfl ⟨rfl, rfl, rfl, rfl⟩ (Nat.zero_le _) (Nat.zero_le _) rfl ?_
        refine vr_ifb_eq C nd_Md_outs_34 (fun hc => ?_) (fun hc => ?_)
        · have h := no_bf hc h
          refine vr_ic C nd_Md_outs_43 ?_
          have h := no_s h
          subst h
          exact vr_wk [2] rfl hj
        · have h := no_bt hc h
          refine vr_ic C nd_Md_outs_37 ?_
          refine vr_il C nd_Md_outs_38 rfl ?_
          refine vr_ishl C nd_Md_outs_39 rfl ?_
          refine vr_go C nd_Md_outs_40 ?_
          have h := no_s h
          subst h
          exact vr_wk [2] rfl hj
theorem co_Md_outs (m : MdS) (a1 : Int32) (x : Int32) (h : mo_Md_outs m a1 = some x) : nj_Con ny_Md_outs nb_Md_outs 4 (some .int) nr_Md_outs (rp_Md m) [.ref 0, .int a1] (some (.int x)) (rp_Md m) := by
  rw [mo_Md_outs] at h
  refine nj_con (by decide) rfl 2 rfl (fun G ad C hq => ?_)
  have C : nj_C G nb_Md_outs 4 "NobodyJoinsModel" nr_Md_outs := C
  show nj_V G ad 0 0 0 [some (.ref 0), some (.int a1), none, none] [] (rp_Md m)
  refine vr_ic C nd_Md_outs_0 ?_
  refine vr_is (ls' := [some (.ref 0), some (.int a1), some (.int (0 : Int32)), none]) C nd_Md_outs_1 rfl rfl ?_
  refine vr_ic C nd_Md_outs_2 ?_
  refine vr_is (ls' := [some (.ref 0), some (.int a1), some (.int (0 : Int32)), some (.int (0 : Int32))]) C nd_Md_outs_3 rfl rfl ?_
  obtain ⟨x7, hX8, h⟩ := no_b h
  refine lw_Md_outs_4 C m a1 nj_fu _ _ x7 hX8 ?_
  refine vr_il C nd_Md_outs_52 rfl ?_
  have h := no_s h
  subst h
  exact vr_iret C hq nd_Md_outs_53 rfl
abbrev nr_Md_keepPast : Room := { frames := 0, cells := 0, slots := 0, locals := 0 }
theorem lw_Md_keepPast_2 {G : nj_G} {ad : Nat → Nat} (C : nj_C G nb_Md_keepPast 2 "NobodyJoinsModel" nr_Md_keepPast)  : ∀ (n : Nat) (m : MdS) (v1 : Int32) (x : MdS), lo_Md_keepPast_2  n m v1 = some x → nj_V G ad 0 0 41 [some (.ref 0), none] [] (rp_Md x) → nj_V G ad 0 0 2 [some (.ref 0), some (.int v1)] [] (rp_Md m) := by
  intro n
  induction n with
  | zero => intro m v1 x h; rw [lo_Md_keepPast_2] at h; cases h
  | succ n ih =>
    intro m v1 x h hk
    rw [lo_Md_keepPast_2] at h
    refine vr_il C nd_Md_keepPast_2 rfl ?_
    refine vr_ic C nd_Md_keepPast_3 ?_
    refine vr_cm_ge C nd_Md_keepPast_5 (fun hc => ?_) (fun hc => ?_)
    · have h := no_t hc h
      have h := no_s h
      subst h
      exact vr_wk [1] rfl hk
    · have h := no_f hc h
      refine vr_al C nd_Md_keepPast_8 rfl ?_
      refine vr_get (v := .ref 1) C nd_Md_keepPast_9 rfl fl_Md_7 (at_Md_0 m) rfl ?_
      refine vr_ic C nd_Md_keepPast_12 ?_
      refine vr_ic C nd_Md_keepPast_14 ?_
      refine vr_al C nd_Md_keepPast_16 rfl ?_
      refine vr_get (v := .ref 1) C nd_Md_keepPast_17 rfl fl_Md_7 (at_Md_0 m) rfl ?_
      refine vr_ic C nd_Md_keepPast_20 ?_
      refine vr_ialk (j := 0) (f := (md_row m)) C nd_Md_keepPast_21 rfl (at_Md_1 m) (nj_inc rfl) rfl ?_
      refine vr_imul C nd_Md_keepPast_22 rfl ?_
      refine vr_iadd C nd_Md_keepPast_23 rfl ?_
      refine vr_il C nd_Md_keepPast_24 rfl ?_
      refine vr_iadd C nd_Md_keepPast_25 rfl ?_
      refine vr_al C nd_Md_keepPast_26 rfl ?_
      refine vr_get (v := .ref 1) C nd_Md_keepPast_27 rfl fl_Md_7 (at_Md_0 m) rfl ?_
      refine vr_ic C nd_Md_keepPast_30 ?_
      refine vr_il C nd_Md_keepPast_31 rfl ?_
      refine vr_iadd C nd_Md_keepPast_32 rfl ?_
      obtain ⟨hN1, h⟩ := no_i h
      refine vr_ialk (j := (nj_n ((1 : Int32) + v1))) (f := (md_row m)) C nd_Md_keepPast_33 rfl (at_Md_1 m) hN1 rfl ?_
      obtain ⟨hN2, h⟩ := no_i h
      refine vr_iask (j := (nj_n (((16 : Int32) + ((14 : Int32) * ((md_row m) 0))) + v1))) (f := (md_row m)) (hp' := (rp_Md (ms_row m (upd (md_row m) (nj_n (((16 : Int32) + ((14 : Int32) * ((md_row m) 0))) + v1)) ((md_row m) (nj_n ((1 : Int32) + v1))))))) C nd_Md_keepPast_34 rfl (at_Md_1 m) hN2 rfl (st_Md_1 m (upd (md_row m) (nj_n (((16 : Int32) + ((14 : Int32) * ((md_row m) 0))) + v1)) ((md_row m) (nj_n ((1 : Int32) + v1))))) ?_
      refine vr_inc (v := (v1 + (1 : Int32))) (ls' := [some (.ref 0), some (.int (v1 + (1 : Int32)))]) C nd_Md_keepPast_35 rfl rfl rfl rfl rfl ?_
      refine vr_go C nd_Md_keepPast_38 ?_
      exact (ih _ _ _ h hk)
theorem co_Md_keepPast (m : MdS) (x : MdS) (h : mo_Md_keepPast m = some x) : nj_Con ny_Md_keepPast nb_Md_keepPast 2 none nr_Md_keepPast (rp_Md m) [.ref 0] none (rp_Md x) := by
  rw [mo_Md_keepPast] at h
  refine nj_con (by decide) rfl 1 rfl (fun G ad C hq => ?_)
  have C : nj_C G nb_Md_keepPast 2 "NobodyJoinsModel" nr_Md_keepPast := C
  show nj_V G ad 0 0 0 [some (.ref 0), none] [] (rp_Md m)
  refine vr_ic C nd_Md_keepPast_0 ?_
  refine vr_is (ls' := [some (.ref 0), some (.int (0 : Int32))]) C nd_Md_keepPast_1 rfl rfl ?_
  obtain ⟨x3, hX4, h⟩ := no_b h
  refine lw_Md_keepPast_2 C  nj_fu _ _ x3 hX4 ?_
  refine vr_al C nd_Md_keepPast_41 rfl ?_
  refine vr_get (v := .ref 1) C nd_Md_keepPast_42 rfl fl_Md_7 (at_Md_0 x3) rfl ?_
  refine vr_ic C nd_Md_keepPast_45 ?_
  refine vr_dup2 C nd_Md_keepPast_46 rfl rfl rfl ?_
  refine vr_ialk (j := 0) (f := (md_row x3)) C nd_Md_keepPast_47 rfl (at_Md_1 x3) (nj_inc rfl) rfl ?_
  refine vr_ic C nd_Md_keepPast_48 ?_
  refine vr_iadd C nd_Md_keepPast_49 rfl ?_
  refine vr_iask (j := 0) (f := (md_row x3)) (hp' := (rp_Md (ms_row x3 (upd (md_row x3) 0 (((md_row x3) 0) + (1 : Int32)))))) C nd_Md_keepPast_50 rfl (at_Md_1 x3) (nj_inc rfl) rfl (st_Md_1 x3 (upd (md_row x3) 0 (((md_row x3) 0) + (1 : Int32)))) ?_
  have h := no_s h
  subst h
  exact vr_vret C hq nd_Md_keepPast_51 rfl
abbrev nr_Md_doTurn : Room := { frames := 1, cells := 0, slots := 0, locals := 22 }
theorem co_Md_doTurn (m : MdS) (a1 : Int32) (x : Int32 × MdS) (h : mo_Md_doTurn m a1 = some x) : nj_Con ny_Md_doTurn nb_Md_doTurn 2 (some .int) nr_Md_doTurn (rp_Md m) [.ref 0, .int a1] (some (.int (x.1))) (rp_Md (x.2)) := by
  rw [mo_Md_doTurn] at h
  refine nj_con (by decide) rfl 0 rfl (fun G ad C hq => ?_)
  have C : nj_C G nb_Md_doTurn 2 "NobodyJoinsModel" nr_Md_doTurn := C
  show nj_V G ad 0 0 0 [some (.ref 0), some (.int a1)] [] (rp_Md m)
  refine vr_al C nd_Md_doTurn_0 rfl ?_
  obtain ⟨w1, hV2, h⟩ := no_b h
  refine vr_sVv (hp' := (rp_Md w1)) [] [] C nd_Md_doTurn_1 rfl ml_Md_187 my_Md_keepPast (co_Md_keepPast m w1 hV2) ⟨_, _, _, rfl, rfl, rfl⟩ rfl rfl ⟨rfl, rfl, rfl, rfl⟩ (Nat.zero_le _) (Nat.zero_le _) rfl ?_
  refine vr_al C nd_Md_doTurn_4 rfl ?_
  refine vr_get (v := .ref 1) C nd_Md_doTurn_5 rfl fl_Md_7 (at_Md_0 w1) rfl ?_
  refine vr_ic C nd_Md_doTurn_8 ?_
  refine vr_dup2 C nd_Md_doTurn_9 rfl rfl rfl ?_
  refine vr_ialk (j := 1) (f := (md_row w1)) C nd_Md_doTurn_10 rfl (at_Md_1 w1) (nj_inc rfl) rfl ?_
  refine vr_ic C nd_Md_doTurn_11 ?_
  refine vr_il C nd_Md_doTurn_12 rfl ?_
  refine vr_ishl C nd_Md_doTurn_13 rfl ?_
  refine vr_ixor C nd_Md_doTurn_14 rfl ?_
  refine vr_iask (j := 1) (f := (md_row w1)) (hp' := (rp_Md (ms_row w1 (upd (md_row w1) 1 (((md_row w1) 1) ^^^ ((1 : Int32) <<< (a1 &&& 31))))))) C nd_Md_doTurn_15 rfl (at_Md_1 w1) (nj_inc rfl) rfl (st_Md_1 w1 (upd (md_row w1) 1 (((md_row w1) 1) ^^^ ((1 : Int32) <<< (a1 &&& 31))))) ?_
  refine vr_al C nd_Md_doTurn_16 rfl ?_
  refine vr_get (v := .ref 1) C nd_Md_doTurn_17 rfl fl_Md_7 (at_Md_0 (ms_row w1 (upd (md_row w1) 1 (((md_row w1) 1) ^^^ ((1 : Int32) <<< (a1 &&& 31)))))) rfl ?_
  refine vr_ic C nd_Md_doTurn_20 ?_
  refine vr_ialk (j := 1) (f := (upd (md_row w1) 1 (((md_row w1) 1) ^^^ ((1 : Int32) <<< (a1 &&& 31))))) C nd_Md_doTurn_21 rfl (at_Md_1 (ms_row w1 (upd (md_row w1) 1 (((md_row w1) 1) ^^^ ((1 : Int32) <<< (a1 &&& 31)))))) (nj_inc rfl) rfl ?_
  obtain ⟨w3, hV4, h⟩ := no_b h
  refine vr_cSip [] [.int ((upd (md_row w1) 1 (((md_row w1) 1) ^^^ ((1 : Int32) <<< (a1 &&& 31)))) 1)] [] C nd_Md_doTurn_22 rfl ml_Md_184 my_Md_bits (co_Md_bits ((upd (md_row w1) 1 (((md_row w1) 1) ^^^ ((1 : Int32) <<< (a1 &&& 31)))) 1) w3 hV4) (em_E _) rfl rfl ⟨rfl, rfl, rfl, rfl⟩ (Nat.zero_le _) (Nat.zero_le _) rfl ?_
  have h := no_s h
  subst h
  exact vr_iret C hq nd_Md_doTurn_25 rfl
abbrev nr_Md_oust : Room := { frames := 7, cells := 0, slots := 0, locals := 164 }
theorem co_Md_oust (m : MdS) (a1 : Int32) (x : Int32 × MdS) (h : mo_Md_oust m a1 = some x) : nj_Con ny_Md_oust nb_Md_oust 2 (some .int) nr_Md_oust (rp_Md m) [.ref 0, .int a1] (some (.int (x.1))) (rp_Md (x.2)) := by
  rw [mo_Md_oust] at h
  refine nj_con (by decide) rfl 0 rfl (fun G ad C hq => ?_)
  have C : nj_C G nb_Md_oust 2 "NobodyJoinsModel" nr_Md_oust := C
  show nj_V G ad 0 0 0 [some (.ref 0), some (.int a1)] [] (rp_Md m)
  refine vr_al C nd_Md_oust_0 rfl ?_
  refine vr_il C nd_Md_oust_1 rfl ?_
  obtain ⟨w1, hV2, h⟩ := no_b h
  refine vr_sVi (hp' := (rp_Md m)) [.int a1] [] C nd_Md_oust_2 rfl ml_Md_175 my_Md_isChild (co_Md_isChild m a1 w1 hV2) ⟨_, _, _, rfl, rfl, rfl⟩ rfl rfl ⟨rfl, rfl, rfl, rfl⟩ (Nat.zero_le _) (Nat.zero_le _) rfl ?_
  refine vr_ifb_ne C nd_Md_oust_5 (fun hc => ?_) (fun hc => ?_)
  · have h := no_bt hc h
    refine vr_al C nd_Md_oust_10 rfl ?_
    refine vr_al C nd_Md_oust_11 rfl ?_
    refine vr_get (v := .ref 1) C nd_Md_oust_12 rfl fl_Md_7 (at_Md_0 m) rfl ?_
    refine vr_ic C nd_Md_oust_15 ?_
    refine vr_ialk (j := 1) (f := (md_row m)) C nd_Md_oust_16 rfl (at_Md_1 m) (nj_inc rfl) rfl ?_
    obtain ⟨w3, hV4, h⟩ := no_b h
    refine vr_sVi (hp' := (rp_Md m)) [.int ((md_row m) 1)] [] C nd_Md_oust_17 rfl ml_Md_190 my_Md_outs (co_Md_outs m ((md_row m) 1) w3 hV4) ⟨_, _, _, rfl, rfl, rfl⟩ rfl rfl ⟨rfl, rfl, rfl, rfl⟩ (Nat.zero_le _) (Nat.zero_le _) rfl ?_
    refine vr_il C nd_Md_oust_20 rfl ?_
    obtain ⟨w5, hV6, h⟩ := no_b h
    refine vr_cSip [] [.int w3, .int a1] [] C nd_Md_oust_21 rfl ml_Md_125 my_Md_has (co_Md_has w3 a1 w5 hV6) (em_E _) rfl rfl ⟨rfl, rfl, rfl, rfl⟩ (Nat.zero_le _) (Nat.zero_le _) rfl ?_
    refine vr_ifb_ne C nd_Md_oust_24 (fun hc => ?_) (fun hc => ?_)
    · have h := no_bt hc h
      refine vr_al C nd_Md_oust_30 rfl ?_
      refine vr_get (v := .ref 1) C nd_Md_oust_31 rfl fl_Md_7 (at_Md_0 m) rfl ?_
      refine vr_ic C nd_Md_oust_34 ?_
      refine vr_ialk (j := 0) (f := (md_row m)) C nd_Md_oust_35 rfl (at_Md_1 m) (nj_inc rfl) rfl ?_
      refine vr_ic C nd_Md_oust_36 ?_
      refine vr_cm_ne C nd_Md_oust_38 (fun hc => ?_) (fun hc => ?_)
      · have h := no_f hc h
        refine vr_al C nd_Md_oust_46 rfl ?_
        refine vr_il C nd_Md_oust_47 rfl ?_
        obtain ⟨w7, hV8, h⟩ := no_b h
        refine vr_sVi (hp' := (rp_Md (w7.2))) [.int a1] [] C nd_Md_oust_48 rfl ml_Md_193 my_Md_doTurn (co_Md_doTurn m a1 w7 hV8) ⟨_, _, _, rfl, rfl, rfl⟩ rfl rfl ⟨rfl, rfl, rfl, rfl⟩ (Nat.zero_le _) (Nat.zero_le _) rfl ?_
        have h := no_s h
        subst h
        exact vr_iret C hq nd_Md_oust_51 rfl
      · have h := no_t hc h
        refine vr_ic C nd_Md_oust_41 ?_
        refine vr_go C nd_Md_oust_43 ?_
        have h := no_s h
        subst h
        exact vr_iret C hq nd_Md_oust_51 rfl
    · have h := no_bf hc h
      refine vr_ic C nd_Md_oust_27 ?_
      have h := no_s h
      subst h
      exact vr_iret C hq nd_Md_oust_29 rfl
  · have h := no_bf hc h
    refine vr_ic C nd_Md_oust_8 ?_
    have h := no_s h
    subst h
    exact vr_iret C hq nd_Md_oust_9 rfl
abbrev nr_Md_isIn : Room := { frames := 1, cells := 0, slots := 0, locals := 21 }
theorem co_Md_isIn (m : MdS) (a1 : Int32) (x : Bool) (h : mo_Md_isIn m a1 = some x) : nj_Con ny_Md_isIn nb_Md_isIn 2 (some .boolean) nr_Md_isIn (rp_Md m) [.ref 0, .int a1] (some (.int (nj_b x))) (rp_Md m) := by
  rw [mo_Md_isIn] at h
  refine nj_con (by decide) rfl 0 rfl (fun G ad C hq => ?_)
  have C : nj_C G nb_Md_isIn 2 "NobodyJoinsModel" nr_Md_isIn := C
  show nj_V G ad 0 0 0 [some (.ref 0), some (.int a1)] [] (rp_Md m)
  refine vr_al C nd_Md_isIn_0 rfl ?_
  refine vr_get (v := .ref 1) C nd_Md_isIn_1 rfl fl_Md_7 (at_Md_0 m) rfl ?_
  refine vr_ic C nd_Md_isIn_4 ?_
  refine vr_ialk (j := 1) (f := (md_row m)) C nd_Md_isIn_5 rfl (at_Md_1 m) (nj_inc rfl) rfl ?_
  refine vr_il C nd_Md_isIn_6 rfl ?_
  obtain ⟨w1, hV2, h⟩ := no_b h
  refine vr_cSip [] [.int ((md_row m) 1), .int a1] [] C nd_Md_isIn_7 rfl ml_Md_125 my_Md_has (co_Md_has ((md_row m) 1) a1 w1 hV2) (em_E _) rfl rfl ⟨rfl, rfl, rfl, rfl⟩ (Nat.zero_le _) (Nat.zero_le _) rfl ?_
  have h := no_s h
  subst h
  exact vr_zret _ C hq nd_Md_isIn_10 rfl
abbrev nr_Md_mayJoin : Room := { frames := 3, cells := 0, slots := 0, locals := 67 }
theorem co_Md_mayJoin (m : MdS) (a1 : Int32) (x : Bool) (h : mo_Md_mayJoin m a1 = some x) : nj_Con ny_Md_mayJoin nb_Md_mayJoin 2 (some .boolean) nr_Md_mayJoin (rp_Md m) [.ref 0, .int a1] (some (.int (nj_b x))) (rp_Md m) := by
  rw [mo_Md_mayJoin] at h
  refine nj_con (by decide) rfl 0 rfl (fun G ad C hq => ?_)
  have C : nj_C G nb_Md_mayJoin 2 "NobodyJoinsModel" nr_Md_mayJoin := C
  show nj_V G ad 0 0 0 [some (.ref 0), some (.int a1)] [] (rp_Md m)
  refine vr_al C nd_Md_mayJoin_0 rfl ?_
  refine vr_il C nd_Md_mayJoin_1 rfl ?_
  obtain ⟨w1, hV2, h⟩ := no_b h
  refine vr_sVi (hp' := (rp_Md m)) [.int a1] [] C nd_Md_mayJoin_2 rfl ml_Md_169 my_Md_isIn (co_Md_isIn m a1 w1 hV2) ⟨_, _, _, rfl, rfl, rfl⟩ rfl rfl ⟨rfl, rfl, rfl, rfl⟩ (Nat.zero_le _) (Nat.zero_le _) rfl ?_
  refine vr_ifb_ne C nd_Md_mayJoin_5 (fun hc => ?_) (fun hc => ?_)
  · have h := no_bt hc h
    refine vr_ic C nd_Md_mayJoin_32 ?_
    have h := no_s h
    subst h
    exact vr_zret false C hq nd_Md_mayJoin_33 rfl
  · have h := no_bf hc h
    refine vr_al C nd_Md_mayJoin_8 rfl ?_
    refine vr_il C nd_Md_mayJoin_9 rfl ?_
    refine vr_al C nd_Md_mayJoin_10 rfl ?_
    refine vr_get (v := .ref 1) C nd_Md_mayJoin_11 rfl fl_Md_7 (at_Md_0 m) rfl ?_
    refine vr_ic C nd_Md_mayJoin_14 ?_
    refine vr_ialk (j := 1) (f := (md_row m)) C nd_Md_mayJoin_15 rfl (at_Md_1 m) (nj_inc rfl) rfl ?_
    obtain ⟨w3, hV4, h⟩ := no_b h
    refine vr_sVi (hp' := (rp_Md m)) [.int a1, .int ((md_row m) 1)] [] C nd_Md_mayJoin_16 rfl ml_Md_151 my_Md_liking (co_Md_liking m a1 ((md_row m) 1) w3 hV4) ⟨_, _, _, rfl, rfl, rfl⟩ rfl rfl ⟨rfl, rfl, rfl, rfl⟩ (Nat.zero_le _) (Nat.zero_le _) rfl ?_
    refine vr_al C nd_Md_mayJoin_19 rfl ?_
    refine vr_get (v := .ref 1) C nd_Md_mayJoin_20 rfl fl_Md_7 (at_Md_0 m) rfl ?_
    refine vr_ic C nd_Md_mayJoin_23 ?_
    refine vr_ialk (j := 1) (f := (md_row m)) C nd_Md_mayJoin_24 rfl (at_Md_1 m) (nj_inc rfl) rfl ?_
    refine vr_cm_ne C nd_Md_mayJoin_25 (fun hc => ?_) (fun hc => ?_)
    · have h := no_f hc h
      refine vr_ic C nd_Md_mayJoin_32 ?_
      have h := no_s h
      subst h
      exact vr_zret false C hq nd_Md_mayJoin_33 rfl
    · have h := no_t hc h
      refine vr_ic C nd_Md_mayJoin_28 ?_
      refine vr_go C nd_Md_mayJoin_29 ?_
      have h := no_s h
      subst h
      exact vr_zret true C hq nd_Md_mayJoin_33 rfl
abbrev nr_Md_join : Room := { frames := 4, cells := 0, slots := 0, locals := 88 }
theorem co_Md_join (m : MdS) (a1 : Int32) (x : Int32 × MdS) (h : mo_Md_join m a1 = some x) : nj_Con ny_Md_join nb_Md_join 2 (some .int) nr_Md_join (rp_Md m) [.ref 0, .int a1] (some (.int (x.1))) (rp_Md (x.2)) := by
  rw [mo_Md_join] at h
  refine nj_con (by decide) rfl 0 rfl (fun G ad C hq => ?_)
  have C : nj_C G nb_Md_join 2 "NobodyJoinsModel" nr_Md_join := C
  show nj_V G ad 0 0 0 [some (.ref 0), some (.int a1)] [] (rp_Md m)
  refine vr_al C nd_Md_join_0 rfl ?_
  refine vr_il C nd_Md_join_1 rfl ?_
  obtain ⟨w1, hV2, h⟩ := no_b h
  refine vr_sVi (hp' := (rp_Md m)) [.int a1] [] C nd_Md_join_2 rfl ml_Md_175 my_Md_isChild (co_Md_isChild m a1 w1 hV2) ⟨_, _, _, rfl, rfl, rfl⟩ rfl rfl ⟨rfl, rfl, rfl, rfl⟩ (Nat.zero_le _) (Nat.zero_le _) rfl ?_
  refine vr_ifb_ne C nd_Md_join_5 (fun hc => ?_) (fun hc => ?_)
  · have h := no_bt hc h
    refine vr_al C nd_Md_join_10 rfl ?_
    refine vr_il C nd_Md_join_11 rfl ?_
    obtain ⟨w3, hV4, h⟩ := no_b h
    refine vr_sVi (hp' := (rp_Md m)) [.int a1] [] C nd_Md_join_12 rfl ml_Md_196 my_Md_mayJoin (co_Md_mayJoin m a1 w3 hV4) ⟨_, _, _, rfl, rfl, rfl⟩ rfl rfl ⟨rfl, rfl, rfl, rfl⟩ (Nat.zero_le _) (Nat.zero_le _) rfl ?_
    refine vr_ifb_ne C nd_Md_join_15 (fun hc => ?_) (fun hc => ?_)
    · have h := no_bt hc h
      refine vr_al C nd_Md_join_21 rfl ?_
      refine vr_get (v := .ref 1) C nd_Md_join_22 rfl fl_Md_7 (at_Md_0 m) rfl ?_
      refine vr_ic C nd_Md_join_25 ?_
      refine vr_ialk (j := 0) (f := (md_row m)) C nd_Md_join_26 rfl (at_Md_1 m) (nj_inc rfl) rfl ?_
      refine vr_ic C nd_Md_join_27 ?_
      refine vr_cm_ne C nd_Md_join_29 (fun hc => ?_) (fun hc => ?_)
      · have h := no_f hc h
        refine vr_al C nd_Md_join_37 rfl ?_
        refine vr_il C nd_Md_join_38 rfl ?_
        obtain ⟨w5, hV6, h⟩ := no_b h
        refine vr_sVi (hp' := (rp_Md (w5.2))) [.int a1] [] C nd_Md_join_39 rfl ml_Md_193 my_Md_doTurn (co_Md_doTurn m a1 w5 hV6) ⟨_, _, _, rfl, rfl, rfl⟩ rfl rfl ⟨rfl, rfl, rfl, rfl⟩ (Nat.zero_le _) (Nat.zero_le _) rfl ?_
        have h := no_s h
        subst h
        exact vr_iret C hq nd_Md_join_42 rfl
      · have h := no_t hc h
        refine vr_ic C nd_Md_join_32 ?_
        refine vr_go C nd_Md_join_34 ?_
        have h := no_s h
        subst h
        exact vr_iret C hq nd_Md_join_42 rfl
    · have h := no_bf hc h
      refine vr_ic C nd_Md_join_18 ?_
      have h := no_s h
      subst h
      exact vr_iret C hq nd_Md_join_20 rfl
  · have h := no_bf hc h
    refine vr_ic C nd_Md_join_8 ?_
    have h := no_s h
    subst h
    exact vr_iret C hq nd_Md_join_9 rfl
abbrev nr_Md_doFee : Room := { frames := 2, cells := 0, slots := 0, locals := 42 }
theorem lw_Md_doFee_6 {G : nj_G} {ad : Nat → Nat} (C : nj_C G nb_Md_doFee 2 "NobodyJoinsModel" nr_Md_doFee)  : ∀ (n : Nat) (m : MdS) (v1 : Int32) (x : MdS), lo_Md_doFee_6  n m v1 = some x → nj_V G ad 0 0 61 [some (.ref 0), none] [] (rp_Md x) → nj_V G ad 0 0 6 [some (.ref 0), some (.int v1)] [] (rp_Md m) := by
  intro n
  induction n with
  | zero => intro m v1 x h; rw [lo_Md_doFee_6] at h; cases h
  | succ n ih =>
    intro m v1 x h hk
    rw [lo_Md_doFee_6] at h
    refine vr_il C nd_Md_doFee_6 rfl ?_
    refine vr_al C nd_Md_doFee_7 rfl ?_
    refine vr_get (v := .int (md_children m)) C nd_Md_doFee_8 rfl fl_Md_142 (at_Md_0 m) rfl ?_
    refine vr_cm_ge C nd_Md_doFee_11 (fun hc => ?_) (fun hc => ?_)
    · have h := no_t hc h
      have h := no_s h
      subst h
      exact vr_wk [1] rfl hk
    · have h := no_f hc h
      refine vr_al C nd_Md_doFee_14 rfl ?_
      refine vr_il C nd_Md_doFee_15 rfl ?_
      obtain ⟨w3, hV4, h⟩ := no_b h
      refine vr_sVi (hp' := (rp_Md m)) [.int v1] [] C nd_Md_doFee_16 rfl ml_Md_169 my_Md_isIn (co_Md_isIn m v1 w3 hV4) ⟨_, _, _, rfl, rfl, rfl⟩ rfl rfl ⟨rfl, rfl, rfl, rfl⟩ (Nat.zero_le _) (Nat.zero_le _) rfl ?_
      obtain ⟨p5, hP9, h⟩ := no_b h
      have hj : nj_V G ad 0 0 55 [some (.ref 0), some (.int v1)] [] (rp_Md p5) := by
        refine vr_inc (v := (v1 + (1 : Int32))) (ls' := [some (.ref 0), some (.int (v1 + (1 : Int32)))]) C nd_Md_doFee_55 rfl rfl rfl rfl rfl ?_
        refine vr_go C nd_Md_doFee_58 ?_
        exact (ih _ _ _ h hk)
      clear h
      have h := hP9
      clear hP9
      refine vr_ifb_eq C nd_Md_doFee_19 (fun hc => ?_) (fun hc => ?_)
      · have h := no_bf hc h
        have h := no_s h
        subst h
        exact hj
      · have h := no_bt hc h
        refine vr_al C nd_Md_doFee_22 rfl ?_
        refine vr_get (v := .ref 1) C nd_Md_doFee_23 rfl fl_Md_7 (at_Md_0 m) rfl ?_
        refine vr_ic C nd_Md_doFee_26 ?_
        refine vr_il C nd_Md_doFee_27 rfl ?_
        refine vr_iadd C nd_Md_doFee_28 rfl ?_
        obtain ⟨hN6, h⟩ := no_i h
        refine vr_ialk (j := (nj_n ((3 : Int32) + v1))) (f := (md_row m)) C nd_Md_doFee_29 rfl (at_Md_1 m) hN6 rfl ?_
        refine vr_if_le C nd_Md_doFee_30 (fun hc => ?_) (fun hc => ?_)
        · have h := no_t hc h
          have h := no_s h
          subst h
          exact hj
        · have h := no_f hc h
          refine vr_al C nd_Md_doFee_33 rfl ?_
          refine vr_get (v := .ref 1) C nd_Md_doFee_34 rfl fl_Md_7 (at_Md_0 m) rfl ?_
          refine vr_ic C nd_Md_doFee_37 ?_
          refine vr_il C nd_Md_doFee_38 rfl ?_
          refine vr_iadd C nd_Md_doFee_39 rfl ?_
          refine vr_dup2 C nd_Md_doFee_40 rfl rfl rfl ?_
          obtain ⟨hN7, h⟩ := no_i h
          refine vr_ialk (j := (nj_n ((3 : Int32) + v1))) (f := (md_row m)) C nd_Md_doFee_41 rfl (at_Md_1 m) hN7 rfl ?_
          refine vr_ic C nd_Md_doFee_42 ?_
          refine vr_isub C nd_Md_doFee_43 rfl ?_
          obtain ⟨hN8, h⟩ := no_i h
          refine vr_iask (j := (nj_n ((3 : Int32) + v1))) (f := (md_row m)) (hp' := (rp_Md (ms_row m (upd (md_row m) (nj_n ((3 : Int32) + v1)) (((md_row m) (nj_n ((3 : Int32) + v1))) - (1 : Int32)))))) C nd_Md_doFee_44 rfl (at_Md_1 m) hN8 rfl (st_Md_1 m (upd (md_row m) (nj_n ((3 : Int32) + v1)) (((md_row m) (nj_n ((3 : Int32) + v1))) - (1 : Int32)))) ?_
          refine vr_al C nd_Md_doFee_45 rfl ?_
          refine vr_get (v := .ref 1) C nd_Md_doFee_46 rfl fl_Md_7 (at_Md_0 (ms_row m (upd (md_row m) (nj_n ((3 : Int32) + v1)) (((md_row m) (nj_n ((3 : Int32) + v1))) - (1 : Int32))))) rfl ?_
          refine vr_ic C nd_Md_doFee_49 ?_
          refine vr_dup2 C nd_Md_doFee_50 rfl rfl rfl ?_
          refine vr_ialk (j := 2) (f := (upd (md_row m) (nj_n ((3 : Int32) + v1)) (((md_row m) (nj_n ((3 : Int32) + v1))) - (1 : Int32)))) C nd_Md_doFee_51 rfl (at_Md_1 (ms_row m (upd (md_row m) (nj_n ((3 : Int32) + v1)) (((md_row m) (nj_n ((3 : Int32) + v1))) - (1 : Int32))))) (nj_inc rfl) rfl ?_
          refine vr_ic C nd_Md_doFee_52 ?_
          refine vr_iadd C nd_Md_doFee_53 rfl ?_
          refine vr_iask (j := 2) (f := (upd (md_row m) (nj_n ((3 : Int32) + v1)) (((md_row m) (nj_n ((3 : Int32) + v1))) - (1 : Int32)))) (hp' := (rp_Md (ms_row m (upd (upd (md_row m) (nj_n ((3 : Int32) + v1)) (((md_row m) (nj_n ((3 : Int32) + v1))) - (1 : Int32))) 2 (((upd (md_row m) (nj_n ((3 : Int32) + v1)) (((md_row m) (nj_n ((3 : Int32) + v1))) - (1 : Int32))) 2) + (1 : Int32)))))) C nd_Md_doFee_54 rfl (at_Md_1 (ms_row m (upd (md_row m) (nj_n ((3 : Int32) + v1)) (((md_row m) (nj_n ((3 : Int32) + v1))) - (1 : Int32))))) (nj_inc rfl) rfl (st_Md_1 (ms_row m (upd (md_row m) (nj_n ((3 : Int32) + v1)) (((md_row m) (nj_n ((3 : Int32) + v1))) - (1 : Int32)))) (upd (upd (md_row m) (nj_n ((3 : Int32) + v1)) (((md_row m) (nj_n ((3 : Int32) + v1))) - (1 : Int32))) 2 (((upd (md_row m) (nj_n ((3 : Int32) + v1)) (((md_row m) (nj_n ((3 : Int32) + v1))) - (1 : Int32))) 2) + (1 : Int32)))) ?_
          have h := no_s h
          subst h
          exact hj
theorem co_Md_doFee (m : MdS) (x : Int32 × MdS) (h : mo_Md_doFee m = some x) : nj_Con ny_Md_doFee nb_Md_doFee 2 (some .int) nr_Md_doFee (rp_Md m) [.ref 0] (some (.int (x.1))) (rp_Md (x.2)) := by
  rw [mo_Md_doFee] at h
  refine nj_con (by decide) rfl 1 rfl (fun G ad C hq => ?_)
  have C : nj_C G nb_Md_doFee 2 "NobodyJoinsModel" nr_Md_doFee := C
  show nj_V G ad 0 0 0 [some (.ref 0), none] [] (rp_Md m)
  refine vr_al C nd_Md_doFee_0 rfl ?_
  obtain ⟨w1, hV2, h⟩ := no_b h
  refine vr_sVv (hp' := (rp_Md w1)) [] [] C nd_Md_doFee_1 rfl ml_Md_187 my_Md_keepPast (co_Md_keepPast m w1 hV2) ⟨_, _, _, rfl, rfl, rfl⟩ rfl rfl ⟨rfl, rfl, rfl, rfl⟩ (Nat.zero_le _) (Nat.zero_le _) rfl ?_
  refine vr_ic C nd_Md_doFee_4 ?_
  refine vr_is (ls' := [some (.ref 0), some (.int (0 : Int32))]) C nd_Md_doFee_5 rfl rfl ?_
  obtain ⟨x10, hX11, h⟩ := no_b h
  refine lw_Md_doFee_6 C  nj_fu _ _ x10 hX11 ?_
  refine vr_al C nd_Md_doFee_61 rfl ?_
  refine vr_get (v := .ref 1) C nd_Md_doFee_62 rfl fl_Md_7 (at_Md_0 x10) rfl ?_
  refine vr_ic C nd_Md_doFee_65 ?_
  refine vr_ialk (j := 2) (f := (md_row x10)) C nd_Md_doFee_66 rfl (at_Md_1 x10) (nj_inc rfl) rfl ?_
  have h := no_s h
  subst h
  exact vr_iret C hq nd_Md_doFee_67 rfl
abbrev nr_Md_fee : Room := { frames := 3, cells := 0, slots := 0, locals := 63 }
theorem co_Md_fee (m : MdS) (x : Int32 × MdS) (h : mo_Md_fee m = some x) : nj_Con ny_Md_fee nb_Md_fee 1 (some .int) nr_Md_fee (rp_Md m) [.ref 0] (some (.int (x.1))) (rp_Md (x.2)) := by
  rw [mo_Md_fee] at h
  refine nj_con (by decide) rfl 0 rfl (fun G ad C hq => ?_)
  have C : nj_C G nb_Md_fee 1 "NobodyJoinsModel" nr_Md_fee := C
  show nj_V G ad 0 0 0 [some (.ref 0)] [] (rp_Md m)
  refine vr_al C nd_Md_fee_0 rfl ?_
  refine vr_get (v := .int (md_children m)) C nd_Md_fee_1 rfl fl_Md_142 (at_Md_0 m) rfl ?_
  refine vr_if_ne C nd_Md_fee_4 (fun hc => ?_) (fun hc => ?_)
  · have h := no_f hc h
    refine vr_al C nd_Md_fee_10 rfl ?_
    refine vr_get (v := .ref 1) C nd_Md_fee_11 rfl fl_Md_7 (at_Md_0 m) rfl ?_
    refine vr_ic C nd_Md_fee_14 ?_
    refine vr_ialk (j := 0) (f := (md_row m)) C nd_Md_fee_15 rfl (at_Md_1 m) (nj_inc rfl) rfl ?_
    refine vr_ic C nd_Md_fee_16 ?_
    refine vr_cm_ne C nd_Md_fee_18 (fun hc => ?_) (fun hc => ?_)
    · have h := no_f hc h
      refine vr_al C nd_Md_fee_26 rfl ?_
      obtain ⟨w1, hV2, h⟩ := no_b h
      refine vr_sVi (hp' := (rp_Md (w1.2))) [] [] C nd_Md_fee_27 rfl ml_Md_199 my_Md_doFee (co_Md_doFee m w1 hV2) ⟨_, _, _, rfl, rfl, rfl⟩ rfl rfl ⟨rfl, rfl, rfl, rfl⟩ (Nat.zero_le _) (Nat.zero_le _) rfl ?_
      have h := no_s h
      subst h
      exact vr_iret C hq nd_Md_fee_30 rfl
    · have h := no_t hc h
      refine vr_ic C nd_Md_fee_21 ?_
      refine vr_go C nd_Md_fee_23 ?_
      have h := no_s h
      subst h
      exact vr_iret C hq nd_Md_fee_30 rfl
  · have h := no_t hc h
    refine vr_ic C nd_Md_fee_7 ?_
    have h := no_s h
    subst h
    exact vr_iret C hq nd_Md_fee_9 rfl
abbrev nr_Md_areTwo : Room := { frames := 2, cells := 0, slots := 0, locals := 46 }
theorem co_Md_areTwo (m : MdS) (a1 : Int32) (a2 : Int32) (x : Bool) (h : mo_Md_areTwo m a1 a2 = some x) : nj_Con ny_Md_areTwo nb_Md_areTwo 3 (some .boolean) nr_Md_areTwo (rp_Md m) [.ref 0, .int a1, .int a2] (some (.int (nj_b x))) (rp_Md m) := by
  rw [mo_Md_areTwo] at h
  refine nj_con (by decide) rfl 0 rfl (fun G ad C hq => ?_)
  have C : nj_C G nb_Md_areTwo 3 "NobodyJoinsModel" nr_Md_areTwo := C
  show nj_V G ad 0 0 0 [some (.ref 0), some (.int a1), some (.int a2)] [] (rp_Md m)
  refine vr_al C nd_Md_areTwo_0 rfl ?_
  refine vr_il C nd_Md_areTwo_1 rfl ?_
  obtain ⟨w1, hV2, h⟩ := no_b h
  refine vr_sVi (hp' := (rp_Md m)) [.int a1] [] C nd_Md_areTwo_2 rfl ml_Md_175 my_Md_isChild (co_Md_isChild m a1 w1 hV2) ⟨_, _, _, rfl, rfl, rfl⟩ rfl rfl ⟨rfl, rfl, rfl, rfl⟩ (Nat.zero_le _) (Nat.zero_le _) rfl ?_
  refine vr_ifb_eq C nd_Md_areTwo_5 (fun hc => ?_) (fun hc => ?_)
  · have h := no_bf hc h
    refine vr_ic C nd_Md_areTwo_25 ?_
    have h := no_s h
    subst h
    exact vr_zret false C hq nd_Md_areTwo_26 rfl
  · have h := no_bt hc h
    refine vr_al C nd_Md_areTwo_8 rfl ?_
    refine vr_il C nd_Md_areTwo_9 rfl ?_
    obtain ⟨w3, hV4, h⟩ := no_b h
    refine vr_sVi (hp' := (rp_Md m)) [.int a2] [] C nd_Md_areTwo_10 rfl ml_Md_175 my_Md_isChild (co_Md_isChild m a2 w3 hV4) ⟨_, _, _, rfl, rfl, rfl⟩ rfl rfl ⟨rfl, rfl, rfl, rfl⟩ (Nat.zero_le _) (Nat.zero_le _) rfl ?_
    refine vr_ifb_eq C nd_Md_areTwo_13 (fun hc => ?_) (fun hc => ?_)
    · have h := no_bf hc h
      refine vr_ic C nd_Md_areTwo_25 ?_
      have h := no_s h
      subst h
      exact vr_zret false C hq nd_Md_areTwo_26 rfl
    · have h := no_bt hc h
      refine vr_il C nd_Md_areTwo_16 rfl ?_
      refine vr_il C nd_Md_areTwo_17 rfl ?_
      refine vr_cm_eq C nd_Md_areTwo_18 (fun hc => ?_) (fun hc => ?_)
      · have h := no_t hc h
        refine vr_ic C nd_Md_areTwo_25 ?_
        have h := no_s h
        subst h
        exact vr_zret false C hq nd_Md_areTwo_26 rfl
      · have h := no_f hc h
        refine vr_ic C nd_Md_areTwo_21 ?_
        refine vr_go C nd_Md_areTwo_22 ?_
        have h := no_s h
        subst h
        exact vr_zret true C hq nd_Md_areTwo_26 rfl
abbrev nr_Md_doGrudge : Room := { frames := 1, cells := 0, slots := 0, locals := 21 }
theorem co_Md_doGrudge (m : MdS) (a1 : Int32) (a2 : Int32) (x : Int32 × MdS) (h : mo_Md_doGrudge m a1 a2 = some x) : nj_Con ny_Md_doGrudge nb_Md_doGrudge 3 (some .int) nr_Md_doGrudge (rp_Md m) [.ref 0, .int a1, .int a2] (some (.int (x.1))) (rp_Md (x.2)) := by
  rw [mo_Md_doGrudge] at h
  refine nj_con (by decide) rfl 0 rfl (fun G ad C hq => ?_)
  have C : nj_C G nb_Md_doGrudge 3 "NobodyJoinsModel" nr_Md_doGrudge := C
  show nj_V G ad 0 0 0 [some (.ref 0), some (.int a1), some (.int a2)] [] (rp_Md m)
  refine vr_al C nd_Md_doGrudge_0 rfl ?_
  obtain ⟨w1, hV2, h⟩ := no_b h
  refine vr_sVv (hp' := (rp_Md w1)) [] [] C nd_Md_doGrudge_1 rfl ml_Md_187 my_Md_keepPast (co_Md_keepPast m w1 hV2) ⟨_, _, _, rfl, rfl, rfl⟩ rfl rfl ⟨rfl, rfl, rfl, rfl⟩ (Nat.zero_le _) (Nat.zero_le _) rfl ?_
  refine vr_al C nd_Md_doGrudge_4 rfl ?_
  refine vr_get (v := .ref 1) C nd_Md_doGrudge_5 rfl fl_Md_7 (at_Md_0 w1) rfl ?_
  refine vr_ic C nd_Md_doGrudge_8 ?_
  refine vr_il C nd_Md_doGrudge_10 rfl ?_
  refine vr_iadd C nd_Md_doGrudge_11 rfl ?_
  refine vr_dup2 C nd_Md_doGrudge_12 rfl rfl rfl ?_
  obtain ⟨hN3, h⟩ := no_i h
  refine vr_ialk (j := (nj_n ((9 : Int32) + a1))) (f := (md_row w1)) C nd_Md_doGrudge_13 rfl (at_Md_1 w1) hN3 rfl ?_
  refine vr_ic C nd_Md_doGrudge_14 ?_
  refine vr_il C nd_Md_doGrudge_15 rfl ?_
  refine vr_ishl C nd_Md_doGrudge_16 rfl ?_
  refine vr_ixor C nd_Md_doGrudge_17 rfl ?_
  obtain ⟨hN4, h⟩ := no_i h
  refine vr_iask (j := (nj_n ((9 : Int32) + a1))) (f := (md_row w1)) (hp' := (rp_Md (ms_row w1 (upd (md_row w1) (nj_n ((9 : Int32) + a1)) (((md_row w1) (nj_n ((9 : Int32) + a1))) ^^^ ((1 : Int32) <<< (a2 &&& 31))))))) C nd_Md_doGrudge_18 rfl (at_Md_1 w1) hN4 rfl (st_Md_1 w1 (upd (md_row w1) (nj_n ((9 : Int32) + a1)) (((md_row w1) (nj_n ((9 : Int32) + a1))) ^^^ ((1 : Int32) <<< (a2 &&& 31))))) ?_
  refine vr_al C nd_Md_doGrudge_19 rfl ?_
  refine vr_get (v := .ref 1) C nd_Md_doGrudge_20 rfl fl_Md_7 (at_Md_0 (ms_row w1 (upd (md_row w1) (nj_n ((9 : Int32) + a1)) (((md_row w1) (nj_n ((9 : Int32) + a1))) ^^^ ((1 : Int32) <<< (a2 &&& 31)))))) rfl ?_
  refine vr_ic C nd_Md_doGrudge_23 ?_
  refine vr_il C nd_Md_doGrudge_25 rfl ?_
  refine vr_iadd C nd_Md_doGrudge_26 rfl ?_
  obtain ⟨hN5, h⟩ := no_i h
  refine vr_ialk (j := (nj_n ((9 : Int32) + a1))) (f := (upd (md_row w1) (nj_n ((9 : Int32) + a1)) (((md_row w1) (nj_n ((9 : Int32) + a1))) ^^^ ((1 : Int32) <<< (a2 &&& 31))))) C nd_Md_doGrudge_27 rfl (at_Md_1 (ms_row w1 (upd (md_row w1) (nj_n ((9 : Int32) + a1)) (((md_row w1) (nj_n ((9 : Int32) + a1))) ^^^ ((1 : Int32) <<< (a2 &&& 31)))))) hN5 rfl ?_
  refine vr_il C nd_Md_doGrudge_28 rfl ?_
  refine vr_ishr C nd_Md_doGrudge_29 rfl ?_
  refine vr_ic C nd_Md_doGrudge_30 ?_
  refine vr_iand C nd_Md_doGrudge_31 rfl ?_
  have h := no_s h
  subst h
  exact vr_iret C hq nd_Md_doGrudge_32 rfl
abbrev nr_Md_grudge : Room := { frames := 3, cells := 0, slots := 0, locals := 68 }
theorem co_Md_grudge (m : MdS) (a1 : Int32) (a2 : Int32) (x : Int32 × MdS) (h : mo_Md_grudge m a1 a2 = some x) : nj_Con ny_Md_grudge nb_Md_grudge 3 (some .int) nr_Md_grudge (rp_Md m) [.ref 0, .int a1, .int a2] (some (.int (x.1))) (rp_Md (x.2)) := by
  rw [mo_Md_grudge] at h
  refine nj_con (by decide) rfl 0 rfl (fun G ad C hq => ?_)
  have C : nj_C G nb_Md_grudge 3 "NobodyJoinsModel" nr_Md_grudge := C
  show nj_V G ad 0 0 0 [some (.ref 0), some (.int a1), some (.int a2)] [] (rp_Md m)
  refine vr_al C nd_Md_grudge_0 rfl ?_
  refine vr_il C nd_Md_grudge_1 rfl ?_
  refine vr_il C nd_Md_grudge_2 rfl ?_
  obtain ⟨w1, hV2, h⟩ := no_b h
  refine vr_sVi (hp' := (rp_Md m)) [.int a1, .int a2] [] C nd_Md_grudge_3 rfl ml_Md_202 my_Md_areTwo (co_Md_areTwo m a1 a2 w1 hV2) ⟨_, _, _, rfl, rfl, rfl⟩ rfl rfl ⟨rfl, rfl, rfl, rfl⟩ (Nat.zero_le _) (Nat.zero_le _) rfl ?_
  refine vr_ifb_ne C nd_Md_grudge_6 (fun hc => ?_) (fun hc => ?_)
  · have h := no_bt hc h
    refine vr_al C nd_Md_grudge_11 rfl ?_
    refine vr_get (v := .ref 1) C nd_Md_grudge_12 rfl fl_Md_7 (at_Md_0 m) rfl ?_
    refine vr_ic C nd_Md_grudge_15 ?_
    refine vr_ialk (j := 0) (f := (md_row m)) C nd_Md_grudge_16 rfl (at_Md_1 m) (nj_inc rfl) rfl ?_
    refine vr_ic C nd_Md_grudge_17 ?_
    refine vr_cm_ne C nd_Md_grudge_19 (fun hc => ?_) (fun hc => ?_)
    · have h := no_f hc h
      refine vr_al C nd_Md_grudge_27 rfl ?_
      refine vr_il C nd_Md_grudge_28 rfl ?_
      refine vr_il C nd_Md_grudge_29 rfl ?_
      obtain ⟨w3, hV4, h⟩ := no_b h
      refine vr_sVi (hp' := (rp_Md (w3.2))) [.int a1, .int a2] [] C nd_Md_grudge_30 rfl ml_Md_205 my_Md_doGrudge (co_Md_doGrudge m a1 a2 w3 hV4) ⟨_, _, _, rfl, rfl, rfl⟩ rfl rfl ⟨rfl, rfl, rfl, rfl⟩ (Nat.zero_le _) (Nat.zero_le _) rfl ?_
      have h := no_s h
      subst h
      exact vr_iret C hq nd_Md_grudge_33 rfl
    · have h := no_t hc h
      refine vr_ic C nd_Md_grudge_22 ?_
      refine vr_go C nd_Md_grudge_24 ?_
      have h := no_s h
      subst h
      exact vr_iret C hq nd_Md_grudge_33 rfl
  · have h := no_bf hc h
    refine vr_ic C nd_Md_grudge_9 ?_
    have h := no_s h
    subst h
    exact vr_iret C hq nd_Md_grudge_10 rfl
abbrev nr_Md_undo : Room := { frames := 1, cells := 0, slots := 0, locals := 25 }
theorem lw_Md_undo_29 {G : nj_G} {ad : Nat → Nat} (C : nj_C G nb_Md_undo 4 "NobodyJoinsModel" nr_Md_undo) (f1 : Int32) (f2 : Int32) : ∀ (n : Nat) (m : MdS) (v3 : Int32) (x : MdS), lo_Md_undo_29 f1 f2 n m v3 = some x → nj_V G ad 0 0 67 [some (.ref 0), some (.int f1), some (.int f2), none] [] (rp_Md x) → nj_V G ad 0 0 29 [some (.ref 0), some (.int f1), some (.int f2), some (.int v3)] [] (rp_Md m) := by
  intro n
  induction n with
  | zero => intro m v3 x h; rw [lo_Md_undo_29] at h; cases h
  | succ n ih =>
    intro m v3 x h hk
    rw [lo_Md_undo_29] at h
    refine vr_il C nd_Md_undo_29 rfl ?_
    refine vr_ic C nd_Md_undo_30 ?_
    refine vr_cm_ge C nd_Md_undo_32 (fun hc => ?_) (fun hc => ?_)
    · have h := no_t hc h
      have h := no_s h
      subst h
      exact vr_wk [3] rfl hk
    · have h := no_f hc h
      refine vr_il C nd_Md_undo_35 rfl ?_
      refine vr_if_le C nd_Md_undo_36 (fun hc => ?_) (fun hc => ?_)
      · have h := no_t hc h
        have h := no_s h
        subst h
        exact vr_wk [3] rfl hk
      · have h := no_f hc h
        refine vr_al C nd_Md_undo_39 rfl ?_
        refine vr_get (v := .ref 1) C nd_Md_undo_40 rfl fl_Md_7 (at_Md_0 m) rfl ?_
        refine vr_ic C nd_Md_undo_43 ?_
        refine vr_il C nd_Md_undo_44 rfl ?_
        refine vr_iadd C nd_Md_undo_45 rfl ?_
        refine vr_al C nd_Md_undo_46 rfl ?_
        refine vr_get (v := .ref 1) C nd_Md_undo_47 rfl fl_Md_7 (at_Md_0 m) rfl ?_
        refine vr_ic C nd_Md_undo_50 ?_
        refine vr_ic C nd_Md_undo_52 ?_
        refine vr_il C nd_Md_undo_54 rfl ?_
        refine vr_imul C nd_Md_undo_55 rfl ?_
        refine vr_iadd C nd_Md_undo_56 rfl ?_
        refine vr_il C nd_Md_undo_57 rfl ?_
        refine vr_iadd C nd_Md_undo_58 rfl ?_
        obtain ⟨hN3, h⟩ := no_i h
        refine vr_ialk (j := (nj_n (((16 : Int32) + ((14 : Int32) * f1)) + v3))) (f := (md_row m)) C nd_Md_undo_59 rfl (at_Md_1 m) hN3 rfl ?_
        obtain ⟨hN4, h⟩ := no_i h
        refine vr_iask (j := (nj_n ((1 : Int32) + v3))) (f := (md_row m)) (hp' := (rp_Md (ms_row m (upd (md_row m) (nj_n ((1 : Int32) + v3)) ((md_row m) (nj_n (((16 : Int32) + ((14 : Int32) * f1)) + v3))))))) C nd_Md_undo_60 rfl (at_Md_1 m) hN4 rfl (st_Md_1 m (upd (md_row m) (nj_n ((1 : Int32) + v3)) ((md_row m) (nj_n (((16 : Int32) + ((14 : Int32) * f1)) + v3))))) ?_
        refine vr_inc (v := (v3 + (1 : Int32))) (ls' := [some (.ref 0), some (.int f1), some (.int f2), some (.int (v3 + (1 : Int32)))]) C nd_Md_undo_61 rfl rfl rfl rfl rfl ?_
        refine vr_go C nd_Md_undo_64 ?_
        exact (ih _ _ _ h hk)
theorem co_Md_undo (m : MdS) (a1 : Int32) (x : Int32 × MdS) (h : mo_Md_undo m a1 = some x) : nj_Con ny_Md_undo nb_Md_undo 4 (some .int) nr_Md_undo (rp_Md m) [.ref 0, .int a1] (some (.int (x.1))) (rp_Md (x.2)) := by
  rw [mo_Md_undo] at h
  refine nj_con (by decide) rfl 2 rfl (fun G ad C hq => ?_)
  have C : nj_C G nb_Md_undo 4 "NobodyJoinsModel" nr_Md_undo := C
  show nj_V G ad 0 0 0 [some (.ref 0), some (.int a1), none, none] [] (rp_Md m)
  refine vr_il C nd_Md_undo_0 rfl ?_
  refine vr_i2l C nd_Md_undo_1 rfl ?_
  refine vr_lc (v := (0 : Int64)) C nd_Md_undo_2 rfl (by decide) ?_
  refine vr_al C nd_Md_undo_3 rfl ?_
  refine vr_get (v := .ref 1) C nd_Md_undo_4 rfl fl_Md_7 (at_Md_0 m) rfl ?_
  refine vr_ic C nd_Md_undo_7 ?_
  refine vr_ialk (j := 0) (f := (md_row m)) C nd_Md_undo_8 rfl (at_Md_1 m) (nj_inc rfl) rfl ?_
  refine vr_i2l C nd_Md_undo_9 rfl ?_
  obtain ⟨w1, hV2, h⟩ := no_b h
  refine vr_cSip [] [.long (Int32.toInt64 a1), .long (0 : Int64), .long (Int32.toInt64 ((md_row m) 0))] [] C nd_Md_undo_10 rfl ml_Md_60 my_Md_in (co_Md_in (Int32.toInt64 a1) (0 : Int64) (Int32.toInt64 ((md_row m) 0)) w1 hV2) (em_E _) rfl rfl ⟨rfl, rfl, rfl, rfl⟩ (Nat.zero_le _) (Nat.zero_le _) rfl ?_
  refine vr_ifb_ne C nd_Md_undo_13 (fun hc => ?_) (fun hc => ?_)
  · have h := no_bt hc h
    refine vr_al C nd_Md_undo_18 rfl ?_
    refine vr_get (v := .ref 1) C nd_Md_undo_19 rfl fl_Md_7 (at_Md_0 m) rfl ?_
    refine vr_ic C nd_Md_undo_22 ?_
    refine vr_ialk (j := 0) (f := (md_row m)) C nd_Md_undo_23 rfl (at_Md_1 m) (nj_inc rfl) rfl ?_
    refine vr_il C nd_Md_undo_24 rfl ?_
    refine vr_isub C nd_Md_undo_25 rfl ?_
    refine vr_is (ls' := [some (.ref 0), some (.int a1), some (.int (((md_row m) 0) - a1)), none]) C nd_Md_undo_26 rfl rfl ?_
    refine vr_ic C nd_Md_undo_27 ?_
    refine vr_is (ls' := [some (.ref 0), some (.int a1), some (.int (((md_row m) 0) - a1)), some (.int (0 : Int32))]) C nd_Md_undo_28 rfl rfl ?_
    obtain ⟨x5, hX6, h⟩ := no_b h
    refine lw_Md_undo_29 C a1 (((md_row m) 0) - a1) nj_fu _ _ x5 hX6 ?_
    refine vr_al C nd_Md_undo_67 rfl ?_
    refine vr_get (v := .ref 1) C nd_Md_undo_68 rfl fl_Md_7 (at_Md_0 x5) rfl ?_
    refine vr_ic C nd_Md_undo_71 ?_
    refine vr_il C nd_Md_undo_72 rfl ?_
    refine vr_iask (j := 0) (f := (md_row x5)) (hp' := (rp_Md (ms_row x5 (upd (md_row x5) 0 a1)))) C nd_Md_undo_73 rfl (at_Md_1 x5) (nj_inc rfl) rfl (st_Md_1 x5 (upd (md_row x5) 0 a1)) ?_
    refine vr_il C nd_Md_undo_74 rfl ?_
    have h := no_s h
    subst h
    exact vr_iret C hq nd_Md_undo_75 rfl
  · have h := no_bf hc h
    refine vr_ic C nd_Md_undo_16 ?_
    have h := no_s h
    subst h
    exact vr_iret C hq nd_Md_undo_17 rfl
abbrev nr_Md_copyClub : Room := { frames := 0, cells := 0, slots := 0, locals := 0 }
theorem lw_Md_copyClub_2 {G : nj_G} {ad : Nat → Nat} (C : nj_C G nb_Md_copyClub 4 "NobodyJoinsModel" nr_Md_copyClub) (f1 : Int32) (f2 : Int32) : ∀ (n : Nat) (m : MdS) (v3 : Int32) (x : MdS), lo_Md_copyClub_2 f1 f2 n m v3 = some x → nj_V G ad 0 0 31 [none, none, none, none] [] (rp_Md x) → nj_V G ad 0 0 2 [some (.ref 0), some (.int f1), some (.int f2), some (.int v3)] [] (rp_Md m) := by
  intro n
  induction n with
  | zero => intro m v3 x h; rw [lo_Md_copyClub_2] at h; cases h
  | succ n ih =>
    intro m v3 x h hk
    rw [lo_Md_copyClub_2] at h
    refine vr_il C nd_Md_copyClub_2 rfl ?_
    refine vr_ic C nd_Md_copyClub_3 ?_
    refine vr_cm_ge C nd_Md_copyClub_6 (fun hc => ?_) (fun hc => ?_)
    · have h := no_t hc h
      have h := no_s h
      subst h
      exact vr_wk [0, 1, 2, 3] rfl hk
    · have h := no_f hc h
      refine vr_al C nd_Md_copyClub_9 rfl ?_
      refine vr_get (v := .ref 1) C nd_Md_copyClub_10 rfl fl_Md_7 (at_Md_0 m) rfl ?_
      refine vr_il C nd_Md_copyClub_13 rfl ?_
      refine vr_il C nd_Md_copyClub_14 rfl ?_
      refine vr_iadd C nd_Md_copyClub_15 rfl ?_
      refine vr_al C nd_Md_copyClub_16 rfl ?_
      refine vr_get (v := .ref 1) C nd_Md_copyClub_17 rfl fl_Md_7 (at_Md_0 m) rfl ?_
      refine vr_il C nd_Md_copyClub_20 rfl ?_
      refine vr_il C nd_Md_copyClub_21 rfl ?_
      refine vr_iadd C nd_Md_copyClub_22 rfl ?_
      obtain ⟨hN1, h⟩ := no_i h
      refine vr_ialk (j := (nj_n (f1 + v3))) (f := (md_row m)) C nd_Md_copyClub_23 rfl (at_Md_1 m) hN1 rfl ?_
      obtain ⟨hN2, h⟩ := no_i h
      refine vr_iask (j := (nj_n (f2 + v3))) (f := (md_row m)) (hp' := (rp_Md (ms_row m (upd (md_row m) (nj_n (f2 + v3)) ((md_row m) (nj_n (f1 + v3))))))) C nd_Md_copyClub_24 rfl (at_Md_1 m) hN2 rfl (st_Md_1 m (upd (md_row m) (nj_n (f2 + v3)) ((md_row m) (nj_n (f1 + v3))))) ?_
      refine vr_inc (v := (v3 + (1 : Int32))) (ls' := [some (.ref 0), some (.int f1), some (.int f2), some (.int (v3 + (1 : Int32)))]) C nd_Md_copyClub_25 rfl rfl rfl rfl rfl ?_
      refine vr_go C nd_Md_copyClub_28 ?_
      exact (ih _ _ _ h hk)
theorem co_Md_copyClub (m : MdS) (a1 : Int32) (a2 : Int32) (x : MdS) (h : mo_Md_copyClub m a1 a2 = some x) : nj_Con ny_Md_copyClub nb_Md_copyClub 4 none nr_Md_copyClub (rp_Md m) [.ref 0, .int a1, .int a2] none (rp_Md x) := by
  rw [mo_Md_copyClub] at h
  refine nj_con (by decide) rfl 1 rfl (fun G ad C hq => ?_)
  have C : nj_C G nb_Md_copyClub 4 "NobodyJoinsModel" nr_Md_copyClub := C
  show nj_V G ad 0 0 0 [some (.ref 0), some (.int a1), some (.int a2), none] [] (rp_Md m)
  refine vr_ic C nd_Md_copyClub_0 ?_
  refine vr_is (ls' := [some (.ref 0), some (.int a1), some (.int a2), some (.int (0 : Int32))]) C nd_Md_copyClub_1 rfl rfl ?_
  obtain ⟨x3, hX4, h⟩ := no_b h
  refine lw_Md_copyClub_2 C a1 a2 nj_fu _ _ x3 hX4 ?_
  have h := no_s h
  subst h
  exact vr_vret C hq nd_Md_copyClub_31 rfl
abbrev nr_Md_keep : Room := { frames := 1, cells := 0, slots := 0, locals := 25 }
theorem co_Md_keep (m : MdS) (a1 : Int32) (x : Int32 × MdS) (h : mo_Md_keep m a1 = some x) : nj_Con ny_Md_keep nb_Md_keep 2 (some .int) nr_Md_keep (rp_Md m) [.ref 0, .int a1] (some (.int (x.1))) (rp_Md (x.2)) := by
  rw [mo_Md_keep] at h
  refine nj_con (by decide) rfl 0 rfl (fun G ad C hq => ?_)
  have C : nj_C G nb_Md_keep 2 "NobodyJoinsModel" nr_Md_keep := C
  show nj_V G ad 0 0 0 [some (.ref 0), some (.int a1)] [] (rp_Md m)
  refine vr_il C nd_Md_keep_0 rfl ?_
  refine vr_i2l C nd_Md_keep_1 rfl ?_
  refine vr_lc (v := (0 : Int64)) C nd_Md_keep_2 rfl (by decide) ?_
  refine vr_ldc2 C nd_Md_keep_3 rfl kl_Md_208 ?_
  obtain ⟨w1, hV2, h⟩ := no_b h
  refine vr_cSip [] [.long (Int32.toInt64 a1), .long (0 : Int64), .long (2 : Int64)] [] C nd_Md_keep_6 rfl ml_Md_60 my_Md_in (co_Md_in (Int32.toInt64 a1) (0 : Int64) (2 : Int64) w1 hV2) (em_E _) rfl rfl ⟨rfl, rfl, rfl, rfl⟩ (Nat.zero_le _) (Nat.zero_le _) rfl ?_
  refine vr_ifb_ne C nd_Md_keep_9 (fun hc => ?_) (fun hc => ?_)
  · have h := no_bt hc h
    refine vr_al C nd_Md_keep_14 rfl ?_
    refine vr_get (v := .int (md_children m)) C nd_Md_keep_15 rfl fl_Md_142 (at_Md_0 m) rfl ?_
    refine vr_if_ne C nd_Md_keep_18 (fun hc => ?_) (fun hc => ?_)
    · have h := no_f hc h
      refine vr_al C nd_Md_keep_24 rfl ?_
      refine vr_ic C nd_Md_keep_25 ?_
      refine vr_ic C nd_Md_keep_26 ?_
      refine vr_ic C nd_Md_keep_29 ?_
      refine vr_il C nd_Md_keep_30 rfl ?_
      refine vr_iadd C nd_Md_keep_31 rfl ?_
      refine vr_imul C nd_Md_keep_32 rfl ?_
      obtain ⟨w3, hV4, h⟩ := no_b h
      refine vr_sVv (hp' := (rp_Md w3)) [.int (0 : Int32), .int ((576 : Int32) * ((1 : Int32) + a1))] [] C nd_Md_keep_33 rfl ml_Md_210 my_Md_copyClub (co_Md_copyClub m (0 : Int32) ((576 : Int32) * ((1 : Int32) + a1)) w3 hV4) ⟨_, _, _, rfl, rfl, rfl⟩ rfl rfl ⟨rfl, rfl, rfl, rfl⟩ (Nat.zero_le _) (Nat.zero_le _) rfl ?_
      refine vr_al C nd_Md_keep_36 rfl ?_
      refine vr_get (v := .ref 1) C nd_Md_keep_37 rfl fl_Md_7 (at_Md_0 w3) rfl ?_
      refine vr_ic C nd_Md_keep_40 ?_
      refine vr_ialk (j := 0) (f := (md_row w3)) C nd_Md_keep_41 rfl (at_Md_1 w3) (nj_inc rfl) rfl ?_
      have h := no_s h
      subst h
      exact vr_iret C hq nd_Md_keep_42 rfl
    · have h := no_t hc h
      refine vr_ic C nd_Md_keep_21 ?_
      have h := no_s h
      subst h
      exact vr_iret C hq nd_Md_keep_23 rfl
  · have h := no_bf hc h
    refine vr_ic C nd_Md_keep_12 ?_
    have h := no_s h
    subst h
    exact vr_iret C hq nd_Md_keep_13 rfl
abbrev nr_Md_on : Room := { frames := 1, cells := 0, slots := 0, locals := 25 }
theorem co_Md_on (m : MdS) (a1 : Int32) (x : Int32 × MdS) (h : mo_Md_on m a1 = some x) : nj_Con ny_Md_on nb_Md_on 2 (some .int) nr_Md_on (rp_Md m) [.ref 0, .int a1] (some (.int (x.1))) (rp_Md (x.2)) := by
  rw [mo_Md_on] at h
  refine nj_con (by decide) rfl 0 rfl (fun G ad C hq => ?_)
  have C : nj_C G nb_Md_on 2 "NobodyJoinsModel" nr_Md_on := C
  show nj_V G ad 0 0 0 [some (.ref 0), some (.int a1)] [] (rp_Md m)
  refine vr_il C nd_Md_on_0 rfl ?_
  refine vr_i2l C nd_Md_on_1 rfl ?_
  refine vr_lc (v := (0 : Int64)) C nd_Md_on_2 rfl (by decide) ?_
  refine vr_ldc2 C nd_Md_on_3 rfl kl_Md_208 ?_
  obtain ⟨w1, hV2, h⟩ := no_b h
  refine vr_cSip [] [.long (Int32.toInt64 a1), .long (0 : Int64), .long (2 : Int64)] [] C nd_Md_on_6 rfl ml_Md_60 my_Md_in (co_Md_in (Int32.toInt64 a1) (0 : Int64) (2 : Int64) w1 hV2) (em_E _) rfl rfl ⟨rfl, rfl, rfl, rfl⟩ (Nat.zero_le _) (Nat.zero_le _) rfl ?_
  refine vr_ifb_ne C nd_Md_on_9 (fun hc => ?_) (fun hc => ?_)
  · have h := no_bt hc h
    refine vr_al C nd_Md_on_14 rfl ?_
    refine vr_get (v := .ref 1) C nd_Md_on_15 rfl fl_Md_7 (at_Md_0 m) rfl ?_
    refine vr_ic C nd_Md_on_18 ?_
    refine vr_ic C nd_Md_on_21 ?_
    refine vr_il C nd_Md_on_22 rfl ?_
    refine vr_iadd C nd_Md_on_23 rfl ?_
    refine vr_imul C nd_Md_on_24 rfl ?_
    refine vr_ic C nd_Md_on_25 ?_
    refine vr_iadd C nd_Md_on_26 rfl ?_
    obtain ⟨hN3, h⟩ := no_i h
    refine vr_ialk (j := (nj_n (((576 : Int32) * ((1 : Int32) + a1)) + (0 : Int32)))) (f := (md_row m)) C nd_Md_on_27 rfl (at_Md_1 m) hN3 rfl ?_
    refine vr_if_ge C nd_Md_on_28 (fun hc => ?_) (fun hc => ?_)
    · have h := no_t hc h
      refine vr_al C nd_Md_on_37 rfl ?_
      refine vr_ic C nd_Md_on_38 ?_
      refine vr_ic C nd_Md_on_41 ?_
      refine vr_il C nd_Md_on_42 rfl ?_
      refine vr_iadd C nd_Md_on_43 rfl ?_
      refine vr_imul C nd_Md_on_44 rfl ?_
      refine vr_ic C nd_Md_on_45 ?_
      obtain ⟨w4, hV5, h⟩ := no_b h
      refine vr_sVv (hp' := (rp_Md w4)) [.int ((576 : Int32) * ((1 : Int32) + a1)), .int (0 : Int32)] [] C nd_Md_on_46 rfl ml_Md_210 my_Md_copyClub (co_Md_copyClub m ((576 : Int32) * ((1 : Int32) + a1)) (0 : Int32) w4 hV5) ⟨_, _, _, rfl, rfl, rfl⟩ rfl rfl ⟨rfl, rfl, rfl, rfl⟩ (Nat.zero_le _) (Nat.zero_le _) rfl ?_
      refine vr_al C nd_Md_on_49 rfl ?_
      refine vr_get (v := .ref 1) C nd_Md_on_50 rfl fl_Md_7 (at_Md_0 w4) rfl ?_
      refine vr_ic C nd_Md_on_53 ?_
      refine vr_ialk (j := 0) (f := (md_row w4)) C nd_Md_on_54 rfl (at_Md_1 w4) (nj_inc rfl) rfl ?_
      have h := no_s h
      subst h
      exact vr_iret C hq nd_Md_on_55 rfl
    · have h := no_f hc h
      refine vr_al C nd_Md_on_31 rfl ?_
      refine vr_ic C nd_Md_on_32 ?_
      obtain ⟨w6, hV7, h⟩ := no_b h
      refine vr_sVi (hp' := (rp_Md (w6.2))) [.int (1 : Int32)] [] C nd_Md_on_33 rfl ml_Md_70 my_Md_find (co_Md_find m (1 : Int32) w6 hV7) ⟨_, _, _, rfl, rfl, rfl⟩ rfl rfl ⟨rfl, rfl, rfl, rfl⟩ (Nat.zero_le _) (Nat.zero_le _) rfl ?_
      have h := no_s h
      subst h
      exact vr_iret C hq nd_Md_on_36 rfl
  · have h := no_bf hc h
    refine vr_ic C nd_Md_on_12 ?_
    have h := no_s h
    subst h
    exact vr_iret C hq nd_Md_on_13 rfl
abbrev nr_Md_yes : Room := { frames := 4, cells := 0, slots := 0, locals := 89 }
theorem co_Md_yes (m : MdS) (a1 : Int32) (x : Int32 × MdS) (h : mo_Md_yes m a1 = some x) : nj_Con ny_Md_yes nb_Md_yes 3 (some .int) nr_Md_yes (rp_Md m) [.ref 0, .int a1] (some (.int (x.1))) (rp_Md (x.2)) := by
  rw [mo_Md_yes] at h
  refine nj_con (by decide) rfl 1 rfl (fun G ad C hq => ?_)
  have C : nj_C G nb_Md_yes 3 "NobodyJoinsModel" nr_Md_yes := C
  show nj_V G ad 0 0 0 [some (.ref 0), some (.int a1), none] [] (rp_Md m)
  refine vr_al C nd_Md_yes_0 rfl ?_
  refine vr_il C nd_Md_yes_1 rfl ?_
  obtain ⟨w1, hV2, h⟩ := no_b h
  refine vr_sVi (hp' := (rp_Md m)) [.int a1] [] C nd_Md_yes_2 rfl ml_Md_175 my_Md_isChild (co_Md_isChild m a1 w1 hV2) ⟨_, _, _, rfl, rfl, rfl⟩ rfl rfl ⟨rfl, rfl, rfl, rfl⟩ (Nat.zero_le _) (Nat.zero_le _) rfl ?_
  refine vr_ifb_ne C nd_Md_yes_5 (fun hc => ?_) (fun hc => ?_)
  · have h := no_bt hc h
    refine vr_al C nd_Md_yes_10 rfl ?_
    refine vr_il C nd_Md_yes_11 rfl ?_
    obtain ⟨w3, hV4, h⟩ := no_b h
    refine vr_sVi (hp' := (rp_Md m)) [.int a1] [] C nd_Md_yes_12 rfl ml_Md_169 my_Md_isIn (co_Md_isIn m a1 w3 hV4) ⟨_, _, _, rfl, rfl, rfl⟩ rfl rfl ⟨rfl, rfl, rfl, rfl⟩ (Nat.zero_le _) (Nat.zero_le _) rfl ?_
    refine vr_ifb_ne C nd_Md_yes_15 (fun hc => ?_) (fun hc => ?_)
    · have h := no_bt hc h
      refine vr_al C nd_Md_yes_21 rfl ?_
      refine vr_il C nd_Md_yes_22 rfl ?_
      refine vr_al C nd_Md_yes_23 rfl ?_
      refine vr_get (v := .ref 1) C nd_Md_yes_24 rfl fl_Md_7 (at_Md_0 m) rfl ?_
      refine vr_ic C nd_Md_yes_27 ?_
      refine vr_ialk (j := 1) (f := (md_row m)) C nd_Md_yes_28 rfl (at_Md_1 m) (nj_inc rfl) rfl ?_
      obtain ⟨w5, hV6, h⟩ := no_b h
      refine vr_sVi (hp' := (rp_Md m)) [.int a1, .int ((md_row m) 1)] [] C nd_Md_yes_29 rfl ml_Md_157 my_Md_yesFor (co_Md_yesFor m a1 ((md_row m) 1) w5 hV6) ⟨_, _, _, rfl, rfl, rfl⟩ rfl rfl ⟨rfl, rfl, rfl, rfl⟩ (Nat.zero_le _) (Nat.zero_le _) rfl ?_
      refine vr_is (ls' := [some (.ref 0), some (.int a1), some (.int w5)]) C nd_Md_yes_32 rfl rfl ?_
      refine vr_al C nd_Md_yes_33 rfl ?_
      refine vr_al C nd_Md_yes_34 rfl ?_
      refine vr_al C nd_Md_yes_35 rfl ?_
      refine vr_get (v := .ref 1) C nd_Md_yes_36 rfl fl_Md_7 (at_Md_0 m) rfl ?_
      refine vr_ic C nd_Md_yes_39 ?_
      refine vr_ialk (j := 1) (f := (md_row m)) C nd_Md_yes_40 rfl (at_Md_1 m) (nj_inc rfl) rfl ?_
      obtain ⟨w7, hV8, h⟩ := no_b h
      refine vr_sVi (hp' := (rp_Md m)) [.int ((md_row m) 1)] [.ref 0] C nd_Md_yes_41 rfl ml_Md_154 my_Md_votesOf (co_Md_votesOf m ((md_row m) 1) w7 hV8) ⟨_, _, _, rfl, rfl, rfl⟩ rfl rfl ⟨rfl, rfl, rfl, rfl⟩ (Nat.zero_le _) (Nat.zero_le _) rfl ?_
      refine vr_il C nd_Md_yes_44 rfl ?_
      refine vr_isub C nd_Md_yes_45 rfl ?_
      refine vr_puti (hp' := (rp_Md (ms_asked m (w7 - w5)))) C nd_Md_yes_46 rfl fl_Md_55 (at_Md_0 m) rfl (st_Md_0_7 m (w7 - w5)) ?_
      refine vr_il C nd_Md_yes_49 rfl ?_
      have h := no_s h
      subst h
      exact vr_iret C hq nd_Md_yes_50 rfl
    · have h := no_bf hc h
      refine vr_ic C nd_Md_yes_18 ?_
      have h := no_s h
      subst h
      exact vr_iret C hq nd_Md_yes_20 rfl
  · have h := no_bf hc h
    refine vr_ic C nd_Md_yes_8 ?_
    have h := no_s h
    subst h
    exact vr_iret C hq nd_Md_yes_9 rfl
abbrev nr_Md_can : Room := { frames := 7, cells := 0, slots := 0, locals := 164 }
theorem lw_Md_can_7 {G : nj_G} {ad : Nat → Nat} (C : nj_C G nb_Md_can 2 "NobodyJoinsModel" nr_Md_can)  : ∀ (n : Nat) (m : MdS) (v1 : Int32) (x : MdS), lo_Md_can_7  n m v1 = some x → nj_V G ad 0 0 45 [some (.ref 0), none] [] (rp_Md x) → nj_V G ad 0 0 7 [some (.ref 0), some (.int v1)] [] (rp_Md m) := by
  intro n
  induction n with
  | zero => intro m v1 x h; rw [lo_Md_can_7] at h; cases h
  | succ n ih =>
    intro m v1 x h hk
    rw [lo_Md_can_7] at h
    refine vr_il C nd_Md_can_7 rfl ?_
    refine vr_al C nd_Md_can_8 rfl ?_
    refine vr_get (v := .int (md_children m)) C nd_Md_can_9 rfl fl_Md_142 (at_Md_0 m) rfl ?_
    refine vr_cm_ge C nd_Md_can_12 (fun hc => ?_) (fun hc => ?_)
    · have h := no_t hc h
      have h := no_s h
      subst h
      exact vr_wk [1] rfl hk
    · have h := no_f hc h
      refine vr_al C nd_Md_can_15 rfl ?_
      refine vr_dup C nd_Md_can_16 rfl rfl ?_
      refine vr_get (v := .int (md_asked m)) C nd_Md_can_17 rfl fl_Md_55 (at_Md_0 m) rfl ?_
      refine vr_al C nd_Md_can_20 rfl ?_
      refine vr_il C nd_Md_can_21 rfl ?_
      obtain ⟨w1, hV2, h⟩ := no_b h
      refine vr_sVi (hp' := (rp_Md m)) [.int v1] [.int (md_asked m), .ref 0] C nd_Md_can_22 rfl ml_Md_196 my_Md_mayJoin (co_Md_mayJoin m v1 w1 hV2) ⟨_, _, _, rfl, rfl, rfl⟩ rfl rfl ⟨rfl, rfl, rfl, rfl⟩ (Nat.zero_le _) (Nat.zero_le _) rfl ?_
      obtain ⟨p3, hP4, h⟩ := no_b h
      have hj : nj_V G ad 0 0 35 [some (.ref 0), some (.int v1)] [.int p3, .int (md_asked m), .ref 0] (rp_Md m) := by
        refine vr_ior C nd_Md_can_35 rfl ?_
        refine vr_puti (hp' := (rp_Md (ms_asked m ((md_asked m) ||| p3)))) C nd_Md_can_36 rfl fl_Md_55 (at_Md_0 m) rfl (st_Md_0_7 m ((md_asked m) ||| p3)) ?_
        refine vr_inc (v := (v1 + (1 : Int32))) (ls' := [some (.ref 0), some (.int (v1 + (1 : Int32)))]) C nd_Md_can_39 rfl rfl rfl rfl rfl ?_
        refine vr_go C nd_Md_can_42 ?_
        exact (ih _ _ _ h hk)
      clear h
      have h := hP4
      clear hP4
      refine vr_ifb_eq C nd_Md_can_25 (fun hc => ?_) (fun hc => ?_)
      · have h := no_bf hc h
        refine vr_ic C nd_Md_can_34 ?_
        have h := no_s h
        subst h
        exact hj
      · have h := no_bt hc h
        refine vr_ic C nd_Md_can_28 ?_
        refine vr_il C nd_Md_can_29 rfl ?_
        refine vr_ishl C nd_Md_can_30 rfl ?_
        refine vr_go C nd_Md_can_31 ?_
        have h := no_s h
        subst h
        exact hj
theorem co_Md_can (m : MdS) (x : Int32 × MdS) (h : mo_Md_can m = some x) : nj_Con ny_Md_can nb_Md_can 2 (some .int) nr_Md_can (rp_Md m) [.ref 0] (some (.int (x.1))) (rp_Md (x.2)) := by
  rw [mo_Md_can] at h
  refine nj_con (by decide) rfl 1 rfl (fun G ad C hq => ?_)
  have C : nj_C G nb_Md_can 2 "NobodyJoinsModel" nr_Md_can := C
  show nj_V G ad 0 0 0 [some (.ref 0), none] [] (rp_Md m)
  refine vr_al C nd_Md_can_0 rfl ?_
  refine vr_ic C nd_Md_can_1 ?_
  refine vr_puti (hp' := (rp_Md (ms_asked m (0 : Int32)))) C nd_Md_can_2 rfl fl_Md_55 (at_Md_0 m) rfl (st_Md_0_7 m (0 : Int32)) ?_
  refine vr_ic C nd_Md_can_5 ?_
  refine vr_is (ls' := [some (.ref 0), some (.int (0 : Int32))]) C nd_Md_can_6 rfl rfl ?_
  obtain ⟨x5, hX6, h⟩ := no_b h
  refine lw_Md_can_7 C  nj_fu _ _ x5 hX6 ?_
  refine vr_al C nd_Md_can_45 rfl ?_
  refine vr_al C nd_Md_can_46 rfl ?_
  refine vr_get (v := .ref 1) C nd_Md_can_47 rfl fl_Md_7 (at_Md_0 x5) rfl ?_
  refine vr_ic C nd_Md_can_50 ?_
  refine vr_ialk (j := 1) (f := (md_row x5)) C nd_Md_can_51 rfl (at_Md_1 x5) (nj_inc rfl) rfl ?_
  obtain ⟨w7, hV8, h⟩ := no_b h
  refine vr_sVi (hp' := (rp_Md x5)) [.int ((md_row x5) 1)] [] C nd_Md_can_52 rfl ml_Md_190 my_Md_outs (co_Md_outs x5 ((md_row x5) 1) w7 hV8) ⟨_, _, _, rfl, rfl, rfl⟩ rfl rfl ⟨rfl, rfl, rfl, rfl⟩ (Nat.zero_le _) (Nat.zero_le _) rfl ?_
  have h := no_s h
  subst h
  exact vr_iret C hq nd_Md_can_55 rfl
abbrev nr_Md_swing : Room := { frames := 6, cells := 0, slots := 0, locals := 141 }
theorem lw_Md_swing_45 {G : nj_G} {ad : Nat → Nat} (C : nj_C G nb_Md_swing 5 "NobodyJoinsModel" nr_Md_swing) (f1 : Int32) (f2 : Int32) : ∀ (n : Nat) (m : MdS) (v3 : Int32) (v4 : Int32) (x : MdS × Int32), lo_Md_swing_45 f1 f2 n m v3 v4 = some x → nj_V G ad 0 0 140 [none, none, none, some (.int (x.2)), none] [] (rp_Md (x.1)) → nj_V G ad 0 0 45 [some (.ref 0), some (.int f1), some (.int f2), some (.int v3), some (.int v4)] [] (rp_Md m) := by
  intro n
  induction n with
  | zero => intro m v3 v4 x h; rw [lo_Md_swing_45] at h; cases h
  | succ n ih =>
    intro m v3 v4 x h hk
    rw [lo_Md_swing_45] at h
    refine vr_il C nd_Md_swing_45 rfl ?_
    refine vr_al C nd_Md_swing_47 rfl ?_
    refine vr_get (v := .int (md_children m)) C nd_Md_swing_48 rfl fl_Md_142 (at_Md_0 m) rfl ?_
    refine vr_cm_ge C nd_Md_swing_51 (fun hc => ?_) (fun hc => ?_)
    · have h := no_t hc h
      have h := no_s h
      subst h
      exact vr_wk [0, 1, 2, 4] rfl hk
    · have h := no_f hc h
      refine vr_il C nd_Md_swing_54 rfl ?_
      refine vr_il C nd_Md_swing_56 rfl ?_
      obtain ⟨p7, hP18, h⟩ := no_b h
      have hj : nj_V G ad 0 0 134 [some (.ref 0), some (.int f1), some (.int f2), some (.int (p7.1)), some (.int v4)] [] (rp_Md (p7.2)) := by
        refine vr_inc (v := (v4 + (1 : Int32))) (ls' := [some (.ref 0), some (.int f1), some (.int f2), some (.int (p7.1)), some (.int (v4 + (1 : Int32)))]) C nd_Md_swing_134 rfl rfl rfl rfl rfl ?_
        refine vr_go C nd_Md_swing_137 ?_
        exact (ih _ _ _ _ h hk)
      clear h
      have h := hP18
      clear hP18
      refine vr_cm_eq C nd_Md_swing_57 (fun hc => ?_) (fun hc => ?_)
      · have h := no_t hc h
        have h := no_s h
        subst h
        exact hj
      · have h := no_f hc h
        refine vr_al C nd_Md_swing_60 rfl ?_
        refine vr_il C nd_Md_swing_61 rfl ?_
        obtain ⟨w8, hV9, h⟩ := no_b h
        refine vr_sVi (hp' := (rp_Md m)) [.int v4] [] C nd_Md_swing_63 rfl ml_Md_169 my_Md_isIn (co_Md_isIn m v4 w8 hV9) ⟨_, _, _, rfl, rfl, rfl⟩ rfl rfl ⟨rfl, rfl, rfl, rfl⟩ (Nat.zero_le _) (Nat.zero_le _) rfl ?_
        refine vr_ifb_eq C nd_Md_swing_66 (fun hc => ?_) (fun hc => ?_)
        · have h := no_bf hc h
          have h := no_s h
          subst h
          exact hj
        · have h := no_bt hc h
          refine vr_al C nd_Md_swing_69 rfl ?_
          refine vr_get (v := .ref 1) C nd_Md_swing_70 rfl fl_Md_7 (at_Md_0 m) rfl ?_
          refine vr_ic C nd_Md_swing_73 ?_
          refine vr_il C nd_Md_swing_75 rfl ?_
          refine vr_iadd C nd_Md_swing_77 rfl ?_
          refine vr_dup2 C nd_Md_swing_78 rfl rfl rfl ?_
          obtain ⟨hN10, h⟩ := no_i h
          refine vr_ialk (j := (nj_n ((9 : Int32) + v4))) (f := (md_row m)) C nd_Md_swing_79 rfl (at_Md_1 m) hN10 rfl ?_
          refine vr_ic C nd_Md_swing_80 ?_
          refine vr_il C nd_Md_swing_81 rfl ?_
          refine vr_ishl C nd_Md_swing_82 rfl ?_
          refine vr_ixor C nd_Md_swing_83 rfl ?_
          obtain ⟨hN11, h⟩ := no_i h
          refine vr_iask (j := (nj_n ((9 : Int32) + v4))) (f := (md_row m)) (hp' := (rp_Md (ms_row m (upd (md_row m) (nj_n ((9 : Int32) + v4)) (((md_row m) (nj_n ((9 : Int32) + v4))) ^^^ ((1 : Int32) <<< (f1 &&& 31))))))) C nd_Md_swing_84 rfl (at_Md_1 m) hN11 rfl (st_Md_1 m (upd (md_row m) (nj_n ((9 : Int32) + v4)) (((md_row m) (nj_n ((9 : Int32) + v4))) ^^^ ((1 : Int32) <<< (f1 &&& 31))))) ?_
          refine vr_il C nd_Md_swing_85 rfl ?_
          refine vr_al C nd_Md_swing_86 rfl ?_
          refine vr_al C nd_Md_swing_87 rfl ?_
          refine vr_get (v := .ref 1) C nd_Md_swing_88 rfl fl_Md_7 (at_Md_0 (ms_row m (upd (md_row m) (nj_n ((9 : Int32) + v4)) (((md_row m) (nj_n ((9 : Int32) + v4))) ^^^ ((1 : Int32) <<< (f1 &&& 31)))))) rfl ?_
          refine vr_ic C nd_Md_swing_91 ?_
          refine vr_ialk (j := 15) (f := (upd (md_row m) (nj_n ((9 : Int32) + v4)) (((md_row m) (nj_n ((9 : Int32) + v4))) ^^^ ((1 : Int32) <<< (f1 &&& 31))))) C nd_Md_swing_93 rfl (at_Md_1 (ms_row m (upd (md_row m) (nj_n ((9 : Int32) + v4)) (((md_row m) (nj_n ((9 : Int32) + v4))) ^^^ ((1 : Int32) <<< (f1 &&& 31)))))) (nj_inc rfl) rfl ?_
          refine vr_il C nd_Md_swing_94 rfl ?_
          refine vr_al C nd_Md_swing_95 rfl ?_
          refine vr_get (v := .ref 1) C nd_Md_swing_96 rfl fl_Md_7 (at_Md_0 (ms_row m (upd (md_row m) (nj_n ((9 : Int32) + v4)) (((md_row m) (nj_n ((9 : Int32) + v4))) ^^^ ((1 : Int32) <<< (f1 &&& 31)))))) rfl ?_
          refine vr_ic C nd_Md_swing_99 ?_
          refine vr_ialk (j := 1) (f := (upd (md_row m) (nj_n ((9 : Int32) + v4)) (((md_row m) (nj_n ((9 : Int32) + v4))) ^^^ ((1 : Int32) <<< (f1 &&& 31))))) C nd_Md_swing_100 rfl (at_Md_1 (ms_row m (upd (md_row m) (nj_n ((9 : Int32) + v4)) (((md_row m) (nj_n ((9 : Int32) + v4))) ^^^ ((1 : Int32) <<< (f1 &&& 31)))))) (nj_inc rfl) rfl ?_
          obtain ⟨w12, hV13, h⟩ := no_b h
          refine vr_sVi (hp' := (rp_Md (ms_row m (upd (md_row m) (nj_n ((9 : Int32) + v4)) (((md_row m) (nj_n ((9 : Int32) + v4))) ^^^ ((1 : Int32) <<< (f1 &&& 31))))))) [.int ((upd (md_row m) (nj_n ((9 : Int32) + v4)) (((md_row m) (nj_n ((9 : Int32) + v4))) ^^^ ((1 : Int32) <<< (f1 &&& 31)))) 15), .int f1, .int ((upd (md_row m) (nj_n ((9 : Int32) + v4)) (((md_row m) (nj_n ((9 : Int32) + v4))) ^^^ ((1 : Int32) <<< (f1 &&& 31)))) 1)] [.int v3] C nd_Md_swing_101 rfl ml_Md_166 my_Md_isOut (co_Md_isOut (ms_row m (upd (md_row m) (nj_n ((9 : Int32) + v4)) (((md_row m) (nj_n ((9 : Int32) + v4))) ^^^ ((1 : Int32) <<< (f1 &&& 31))))) ((upd (md_row m) (nj_n ((9 : Int32) + v4)) (((md_row m) (nj_n ((9 : Int32) + v4))) ^^^ ((1 : Int32) <<< (f1 &&& 31)))) 15) f1 ((upd (md_row m) (nj_n ((9 : Int32) + v4)) (((md_row m) (nj_n ((9 : Int32) + v4))) ^^^ ((1 : Int32) <<< (f1 &&& 31)))) 1) w12 hV13) ⟨_, _, _, rfl, rfl, rfl⟩ rfl rfl ⟨rfl, rfl, rfl, rfl⟩ (Nat.zero_le _) (Nat.zero_le _) rfl ?_
          refine vr_il C nd_Md_swing_104 rfl ?_
          obtain ⟨p14, hP17, h⟩ := no_b h
          have hj : nj_V G ad 0 0 116 [some (.ref 0), some (.int f1), some (.int f2), none, some (.int v4)] [.int p14, .int v3] (rp_Md (ms_row m (upd (md_row m) (nj_n ((9 : Int32) + v4)) (((md_row m) (nj_n ((9 : Int32) + v4))) ^^^ ((1 : Int32) <<< (f1 &&& 31)))))) := by
            refine vr_ior C nd_Md_swing_116 rfl ?_
            refine vr_is (ls' := [some (.ref 0), some (.int f1), some (.int f2), some (.int (v3 ||| p14)), some (.int v4)]) C nd_Md_swing_117 rfl rfl ?_
            refine vr_al C nd_Md_swing_118 rfl ?_
            refine vr_get (v := .ref 1) C nd_Md_swing_119 rfl fl_Md_7 (at_Md_0 (ms_row m (upd (md_row m) (nj_n ((9 : Int32) + v4)) (((md_row m) (nj_n ((9 : Int32) + v4))) ^^^ ((1 : Int32) <<< (f1 &&& 31)))))) rfl ?_
            refine vr_ic C nd_Md_swing_122 ?_
            refine vr_il C nd_Md_swing_124 rfl ?_
            refine vr_iadd C nd_Md_swing_126 rfl ?_
            refine vr_dup2 C nd_Md_swing_127 rfl rfl rfl ?_
            obtain ⟨hN15, h⟩ := no_i h
            refine vr_ialk (j := (nj_n ((9 : Int32) + v4))) (f := (upd (md_row m) (nj_n ((9 : Int32) + v4)) (((md_row m) (nj_n ((9 : Int32) + v4))) ^^^ ((1 : Int32) <<< (f1 &&& 31))))) C nd_Md_swing_128 rfl (at_Md_1 (ms_row m (upd (md_row m) (nj_n ((9 : Int32) + v4)) (((md_row m) (nj_n ((9 : Int32) + v4))) ^^^ ((1 : Int32) <<< (f1 &&& 31)))))) hN15 rfl ?_
            refine vr_ic C nd_Md_swing_129 ?_
            refine vr_il C nd_Md_swing_130 rfl ?_
            refine vr_ishl C nd_Md_swing_131 rfl ?_
            refine vr_ixor C nd_Md_swing_132 rfl ?_
            obtain ⟨hN16, h⟩ := no_i h
            refine vr_iask (j := (nj_n ((9 : Int32) + v4))) (f := (upd (md_row m) (nj_n ((9 : Int32) + v4)) (((md_row m) (nj_n ((9 : Int32) + v4))) ^^^ ((1 : Int32) <<< (f1 &&& 31))))) (hp' := (rp_Md (ms_row m (upd (upd (md_row m) (nj_n ((9 : Int32) + v4)) (((md_row m) (nj_n ((9 : Int32) + v4))) ^^^ ((1 : Int32) <<< (f1 &&& 31)))) (nj_n ((9 : Int32) + v4)) (((upd (md_row m) (nj_n ((9 : Int32) + v4)) (((md_row m) (nj_n ((9 : Int32) + v4))) ^^^ ((1 : Int32) <<< (f1 &&& 31)))) (nj_n ((9 : Int32) + v4))) ^^^ ((1 : Int32) <<< (f1 &&& 31))))))) C nd_Md_swing_133 rfl (at_Md_1 (ms_row m (upd (md_row m) (nj_n ((9 : Int32) + v4)) (((md_row m) (nj_n ((9 : Int32) + v4))) ^^^ ((1 : Int32) <<< (f1 &&& 31)))))) hN16 rfl (st_Md_1 (ms_row m (upd (md_row m) (nj_n ((9 : Int32) + v4)) (((md_row m) (nj_n ((9 : Int32) + v4))) ^^^ ((1 : Int32) <<< (f1 &&& 31))))) (upd (upd (md_row m) (nj_n ((9 : Int32) + v4)) (((md_row m) (nj_n ((9 : Int32) + v4))) ^^^ ((1 : Int32) <<< (f1 &&& 31)))) (nj_n ((9 : Int32) + v4)) (((upd (md_row m) (nj_n ((9 : Int32) + v4)) (((md_row m) (nj_n ((9 : Int32) + v4))) ^^^ ((1 : Int32) <<< (f1 &&& 31)))) (nj_n ((9 : Int32) + v4))) ^^^ ((1 : Int32) <<< (f1 &&& 31))))) ?_
            have h := no_s h
            subst h
            exact hj
          clear h
          have h := hP17
          clear hP17
          refine vr_cm_eq C nd_Md_swing_105 (fun hc => ?_) (fun hc => ?_)
          · have h := no_t hc h
            refine vr_ic C nd_Md_swing_115 ?_
            have h := no_s h
            subst h
            exact vr_wk [3] rfl hj
          · have h := no_f hc h
            refine vr_ic C nd_Md_swing_108 ?_
            refine vr_il C nd_Md_swing_109 rfl ?_
            refine vr_ishl C nd_Md_swing_111 rfl ?_
            refine vr_go C nd_Md_swing_112 ?_
            have h := no_s h
            subst h
            exact vr_wk [3] rfl hj
theorem co_Md_swing (m : MdS) (a1 : Int32) (x : Int32 × MdS) (h : mo_Md_swing m a1 = some x) : nj_Con ny_Md_swing nb_Md_swing 5 (some .int) nr_Md_swing (rp_Md m) [.ref 0, .int a1] (some (.int (x.1))) (rp_Md (x.2)) := by
  rw [mo_Md_swing] at h
  refine nj_con (by decide) rfl 3 rfl (fun G ad C hq => ?_)
  have C : nj_C G nb_Md_swing 5 "NobodyJoinsModel" nr_Md_swing := C
  show nj_V G ad 0 0 0 [some (.ref 0), some (.int a1), none, none, none] [] (rp_Md m)
  refine vr_al C nd_Md_swing_0 rfl ?_
  refine vr_il C nd_Md_swing_1 rfl ?_
  obtain ⟨w1, hV2, h⟩ := no_b h
  refine vr_sVi (hp' := (rp_Md m)) [.int a1] [] C nd_Md_swing_2 rfl ml_Md_175 my_Md_isChild (co_Md_isChild m a1 w1 hV2) ⟨_, _, _, rfl, rfl, rfl⟩ rfl rfl ⟨rfl, rfl, rfl, rfl⟩ (Nat.zero_le _) (Nat.zero_le _) rfl ?_
  refine vr_ifb_ne C nd_Md_swing_5 (fun hc => ?_) (fun hc => ?_)
  · have h := no_bt hc h
    refine vr_al C nd_Md_swing_10 rfl ?_
    refine vr_il C nd_Md_swing_11 rfl ?_
    obtain ⟨w3, hV4, h⟩ := no_b h
    refine vr_sVi (hp' := (rp_Md m)) [.int a1] [] C nd_Md_swing_12 rfl ml_Md_169 my_Md_isIn (co_Md_isIn m a1 w3 hV4) ⟨_, _, _, rfl, rfl, rfl⟩ rfl rfl ⟨rfl, rfl, rfl, rfl⟩ (Nat.zero_le _) (Nat.zero_le _) rfl ?_
    refine vr_ifb_ne C nd_Md_swing_15 (fun hc => ?_) (fun hc => ?_)
    · have h := no_bt hc h
      refine vr_al C nd_Md_swing_21 rfl ?_
      refine vr_al C nd_Md_swing_22 rfl ?_
      refine vr_get (v := .ref 1) C nd_Md_swing_23 rfl fl_Md_7 (at_Md_0 m) rfl ?_
      refine vr_ic C nd_Md_swing_26 ?_
      refine vr_ialk (j := 15) (f := (md_row m)) C nd_Md_swing_28 rfl (at_Md_1 m) (nj_inc rfl) rfl ?_
      refine vr_il C nd_Md_swing_29 rfl ?_
      refine vr_al C nd_Md_swing_30 rfl ?_
      refine vr_get (v := .ref 1) C nd_Md_swing_31 rfl fl_Md_7 (at_Md_0 m) rfl ?_
      refine vr_ic C nd_Md_swing_34 ?_
      refine vr_ialk (j := 1) (f := (md_row m)) C nd_Md_swing_35 rfl (at_Md_1 m) (nj_inc rfl) rfl ?_
      obtain ⟨w5, hV6, h⟩ := no_b h
      refine vr_sVi (hp' := (rp_Md m)) [.int ((md_row m) 15), .int a1, .int ((md_row m) 1)] [] C nd_Md_swing_36 rfl ml_Md_166 my_Md_isOut (co_Md_isOut m ((md_row m) 15) a1 ((md_row m) 1) w5 hV6) ⟨_, _, _, rfl, rfl, rfl⟩ rfl rfl ⟨rfl, rfl, rfl, rfl⟩ (Nat.zero_le _) (Nat.zero_le _) rfl ?_
      refine vr_is (ls' := [some (.ref 0), some (.int a1), some (.int (nj_b w5)), none, none]) C nd_Md_swing_39 rfl rfl ?_
      refine vr_ic C nd_Md_swing_40 ?_
      refine vr_is (ls' := [some (.ref 0), some (.int a1), some (.int (nj_b w5)), some (.int (0 : Int32)), none]) C nd_Md_swing_41 rfl rfl ?_
      refine vr_ic C nd_Md_swing_42 ?_
      refine vr_is (ls' := [some (.ref 0), some (.int a1), some (.int (nj_b w5)), some (.int (0 : Int32)), some (.int (0 : Int32))]) C nd_Md_swing_43 rfl rfl ?_
      obtain ⟨x19, hX20, h⟩ := no_b h
      refine lw_Md_swing_45 C a1 (nj_b w5) nj_fu _ _ _ x19 hX20 ?_
      refine vr_il C nd_Md_swing_140 rfl ?_
      have h := no_s h
      subst h
      exact vr_iret C hq nd_Md_swing_141 rfl
    · have h := no_bf hc h
      refine vr_ic C nd_Md_swing_18 ?_
      have h := no_s h
      subst h
      exact vr_iret C hq nd_Md_swing_20 rfl
  · have h := no_bf hc h
    refine vr_ic C nd_Md_swing_8 ?_
    have h := no_s h
    subst h
    exact vr_iret C hq nd_Md_swing_9 rfl
abbrev nr_Md_rules : Room := { frames := 6, cells := 0, slots := 0, locals := 141 }
theorem lw_Md_rules_25 {G : nj_G} {ad : Nat → Nat} (C : nj_C G nb_Md_rules 4 "NobodyJoinsModel" nr_Md_rules) (m : MdS) (f1 : Int32) : ∀ (n : Nat) (v2 : Int32) (v3 : Int32) (x : Int32), lo_Md_rules_25 m f1 n v2 v3 = some x → nj_V G ad 0 0 61 [none, none, some (.int x), none] [] (rp_Md m) → nj_V G ad 0 0 25 [some (.ref 0), some (.int f1), some (.int v2), some (.int v3)] [] (rp_Md m) := by
  intro n
  induction n with
  | zero => intro v2 v3 x h; rw [lo_Md_rules_25] at h; cases h
  | succ n ih =>
    intro v2 v3 x h hk
    rw [lo_Md_rules_25] at h
    refine vr_il C nd_Md_rules_25 rfl ?_
    refine vr_ic C nd_Md_rules_26 ?_
    refine vr_cm_ge C nd_Md_rules_27 (fun hc => ?_) (fun hc => ?_)
    · have h := no_t hc h
      have h := no_s h
      subst h
      exact vr_wk [0, 1, 3] rfl hk
    · have h := no_f hc h
      refine vr_il C nd_Md_rules_30 rfl ?_
      refine vr_al C nd_Md_rules_31 rfl ?_
      refine vr_il C nd_Md_rules_32 rfl ?_
      refine vr_il C nd_Md_rules_33 rfl ?_
      refine vr_al C nd_Md_rules_34 rfl ?_
      refine vr_get (v := .ref 1) C nd_Md_rules_35 rfl fl_Md_7 (at_Md_0 m) rfl ?_
      refine vr_ic C nd_Md_rules_38 ?_
      refine vr_ialk (j := 1) (f := (md_row m)) C nd_Md_rules_39 rfl (at_Md_1 m) (nj_inc rfl) rfl ?_
      obtain ⟨w5, hV6, h⟩ := no_b h
      refine vr_sVi (hp' := (rp_Md m)) [.int v3, .int f1, .int ((md_row m) 1)] [.int v2] C nd_Md_rules_40 rfl ml_Md_166 my_Md_isOut (co_Md_isOut m v3 f1 ((md_row m) 1) w5 hV6) ⟨_, _, _, rfl, rfl, rfl⟩ rfl rfl ⟨rfl, rfl, rfl, rfl⟩ (Nat.zero_le _) (Nat.zero_le _) rfl ?_
      obtain ⟨p7, hP8, h⟩ := no_b h
      have hj : nj_V G ad 0 0 53 [some (.ref 0), some (.int f1), none, some (.int v3)] [.int p7, .int v2] (rp_Md m) := by
        refine vr_ior C nd_Md_rules_53 rfl ?_
        refine vr_is (ls' := [some (.ref 0), some (.int f1), some (.int (v2 ||| p7)), some (.int v3)]) C nd_Md_rules_54 rfl rfl ?_
        refine vr_inc (v := (v3 + (1 : Int32))) (ls' := [some (.ref 0), some (.int f1), some (.int (v2 ||| p7)), some (.int (v3 + (1 : Int32)))]) C nd_Md_rules_55 rfl rfl rfl rfl rfl ?_
        refine vr_go C nd_Md_rules_58 ?_
        exact (ih _ _ _ h hk)
      clear h
      have h := hP8
      clear hP8
      refine vr_ifb_eq C nd_Md_rules_43 (fun hc => ?_) (fun hc => ?_)
      · have h := no_bf hc h
        refine vr_ic C nd_Md_rules_52 ?_
        have h := no_s h
        subst h
        exact vr_wk [2] rfl hj
      · have h := no_bt hc h
        refine vr_ic C nd_Md_rules_46 ?_
        refine vr_il C nd_Md_rules_47 rfl ?_
        refine vr_ishl C nd_Md_rules_48 rfl ?_
        refine vr_go C nd_Md_rules_49 ?_
        have h := no_s h
        subst h
        exact vr_wk [2] rfl hj
theorem co_Md_rules (m : MdS) (a1 : Int32) (x : Int32) (h : mo_Md_rules m a1 = some x) : nj_Con ny_Md_rules nb_Md_rules 4 (some .int) nr_Md_rules (rp_Md m) [.ref 0, .int a1] (some (.int x)) (rp_Md m) := by
  rw [mo_Md_rules] at h
  refine nj_con (by decide) rfl 2 rfl (fun G ad C hq => ?_)
  have C : nj_C G nb_Md_rules 4 "NobodyJoinsModel" nr_Md_rules := C
  show nj_V G ad 0 0 0 [some (.ref 0), some (.int a1), none, none] [] (rp_Md m)
  refine vr_al C nd_Md_rules_0 rfl ?_
  refine vr_il C nd_Md_rules_1 rfl ?_
  obtain ⟨w1, hV2, h⟩ := no_b h
  refine vr_sVi (hp' := (rp_Md m)) [.int a1] [] C nd_Md_rules_2 rfl ml_Md_175 my_Md_isChild (co_Md_isChild m a1 w1 hV2) ⟨_, _, _, rfl, rfl, rfl⟩ rfl rfl ⟨rfl, rfl, rfl, rfl⟩ (Nat.zero_le _) (Nat.zero_le _) rfl ?_
  refine vr_ifb_ne C nd_Md_rules_5 (fun hc => ?_) (fun hc => ?_)
  · have h := no_bt hc h
    refine vr_al C nd_Md_rules_10 rfl ?_
    refine vr_il C nd_Md_rules_11 rfl ?_
    obtain ⟨w3, hV4, h⟩ := no_b h
    refine vr_sVi (hp' := (rp_Md m)) [.int a1] [] C nd_Md_rules_12 rfl ml_Md_169 my_Md_isIn (co_Md_isIn m a1 w3 hV4) ⟨_, _, _, rfl, rfl, rfl⟩ rfl rfl ⟨rfl, rfl, rfl, rfl⟩ (Nat.zero_le _) (Nat.zero_le _) rfl ?_
    refine vr_ifb_ne C nd_Md_rules_15 (fun hc => ?_) (fun hc => ?_)
    · have h := no_bt hc h
      refine vr_ic C nd_Md_rules_21 ?_
      refine vr_is (ls' := [some (.ref 0), some (.int a1), some (.int (0 : Int32)), none]) C nd_Md_rules_22 rfl rfl ?_
      refine vr_ic C nd_Md_rules_23 ?_
      refine vr_is (ls' := [some (.ref 0), some (.int a1), some (.int (0 : Int32)), some (.int (0 : Int32))]) C nd_Md_rules_24 rfl rfl ?_
      obtain ⟨x9, hX10, h⟩ := no_b h
      refine lw_Md_rules_25 C m a1 nj_fu _ _ x9 hX10 ?_
      refine vr_il C nd_Md_rules_61 rfl ?_
      have h := no_s h
      subst h
      exact vr_iret C hq nd_Md_rules_62 rfl
    · have h := no_bf hc h
      refine vr_ic C nd_Md_rules_18 ?_
      have h := no_s h
      subst h
      exact vr_iret C hq nd_Md_rules_20 rfl
  · have h := no_bf hc h
    refine vr_ic C nd_Md_rules_8 ?_
    have h := no_s h
    subst h
    exact vr_iret C hq nd_Md_rules_9 rfl
abbrev nr_Md_layOuts : Room := { frames := 7, cells := 0, slots := 0, locals := 164 }
theorem lw_Md_layOuts_32 {G : nj_G} {ad : Nat → Nat} (C : nj_C G nb_Md_layOuts 4 "NobodyJoinsModel" nr_Md_layOuts) (f1 : Int32) : ∀ (n : Nat) (m : MdS) (v2 : Int32) (x : MdS), lo_Md_layOuts_32 f1 n m v2 = some x → nj_V G ad 0 0 104 [some (.ref 0), some (.int f1), none, none] [] (rp_Md x) → nj_V G ad 0 0 32 [some (.ref 0), some (.int f1), some (.int v2), none] [] (rp_Md m) := by
  intro n
  induction n with
  | zero => intro m v2 x h; rw [lo_Md_layOuts_32] at h; cases h
  | succ n ih =>
    intro m v2 x h hk
    rw [lo_Md_layOuts_32] at h
    refine vr_il C nd_Md_layOuts_32 rfl ?_
    refine vr_al C nd_Md_layOuts_33 rfl ?_
    refine vr_get (v := .int (md_children m)) C nd_Md_layOuts_34 rfl fl_Md_142 (at_Md_0 m) rfl ?_
    refine vr_cm_ge C nd_Md_layOuts_37 (fun hc => ?_) (fun hc => ?_)
    · have h := no_t hc h
      have h := no_s h
      subst h
      exact vr_wk [2] rfl hk
    · have h := no_f hc h
      refine vr_al C nd_Md_layOuts_40 rfl ?_
      refine vr_get (v := .ref 10) C nd_Md_layOuts_41 rfl fl_Md_41 (at_Md_0 m) rfl ?_
      refine vr_il C nd_Md_layOuts_44 rfl ?_
      obtain ⟨hN5, h⟩ := no_i h
      refine vr_ialk (j := (nj_n f1)) (f := (md_outOf m)) C nd_Md_layOuts_45 rfl (at_Md_10 m) hN5 rfl ?_
      refine vr_il C nd_Md_layOuts_46 rfl ?_
      obtain ⟨w6, hV7, h⟩ := no_b h
      refine vr_cSip [] [.int ((md_outOf m) (nj_n f1)), .int v2] [] C nd_Md_layOuts_47 rfl ml_Md_125 my_Md_has (co_Md_has ((md_outOf m) (nj_n f1)) v2 w6 hV7) (em_E _) rfl rfl ⟨rfl, rfl, rfl, rfl⟩ (Nat.zero_le _) (Nat.zero_le _) rfl ?_
      obtain ⟨p8, hP15, h⟩ := no_b h
      have hj : nj_V G ad 0 0 71 [some (.ref 0), some (.int f1), some (.int v2), none] [.int p8] (rp_Md m) := by
        refine vr_is (ls' := [some (.ref 0), some (.int f1), some (.int v2), some (.int p8)]) C nd_Md_layOuts_71 rfl rfl ?_
        refine vr_al C nd_Md_layOuts_72 rfl ?_
        refine vr_get (v := .ref 11) C nd_Md_layOuts_73 rfl fl_Md_44 (at_Md_0 m) rfl ?_
        refine vr_il C nd_Md_layOuts_76 rfl ?_
        refine vr_il C nd_Md_layOuts_77 rfl ?_
        refine vr_al C nd_Md_layOuts_78 rfl ?_
        refine vr_get (v := .ref 11) C nd_Md_layOuts_79 rfl fl_Md_44 (at_Md_0 m) rfl ?_
        refine vr_il C nd_Md_layOuts_82 rfl ?_
        obtain ⟨hN10, h⟩ := no_i h
        refine vr_ialk (j := (nj_n f1)) (f := (md_longer m)) C nd_Md_layOuts_83 rfl (at_Md_11 m) hN10 rfl ?_
        obtain ⟨p11, hP14, h⟩ := no_b h
        have hj : nj_V G ad 0 0 97 [some (.ref 0), some (.int f1), some (.int v2), none] [.int p11, .int f1, .ref 11] (rp_Md m) := by
          obtain ⟨hN13, h⟩ := no_i h
          refine vr_iask (j := (nj_n f1)) (f := (md_longer m)) (hp' := (rp_Md (ms_longer m (upd (md_longer m) (nj_n f1) p11)))) C nd_Md_layOuts_97 rfl (at_Md_11 m) hN13 rfl (st_Md_11 m (upd (md_longer m) (nj_n f1) p11)) ?_
          refine vr_inc (v := (v2 + (1 : Int32))) (ls' := [some (.ref 0), some (.int f1), some (.int (v2 + (1 : Int32))), none]) C nd_Md_layOuts_98 rfl rfl rfl rfl rfl ?_
          refine vr_go C nd_Md_layOuts_101 ?_
          exact (ih _ _ _ h hk)
        clear h
        have h := hP14
        clear hP14
        refine vr_cm_le C nd_Md_layOuts_84 (fun hc => ?_) (fun hc => ?_)
        · have h := no_t hc h
          refine vr_al C nd_Md_layOuts_91 rfl ?_
          refine vr_get (v := .ref 11) C nd_Md_layOuts_92 rfl fl_Md_44 (at_Md_0 m) rfl ?_
          refine vr_il C nd_Md_layOuts_95 rfl ?_
          obtain ⟨hN12, h⟩ := no_i h
          refine vr_ialk (j := (nj_n f1)) (f := (md_longer m)) C nd_Md_layOuts_96 rfl (at_Md_11 m) hN12 rfl ?_
          have h := no_s h
          subst h
          exact vr_wk [3] rfl hj
        · have h := no_f hc h
          refine vr_il C nd_Md_layOuts_87 rfl ?_
          refine vr_go C nd_Md_layOuts_88 ?_
          have h := no_s h
          subst h
          exact vr_wk [3] rfl hj
      clear h
      have h := hP15
      clear hP15
      refine vr_ifb_eq C nd_Md_layOuts_50 (fun hc => ?_) (fun hc => ?_)
      · have h := no_bf hc h
        refine vr_ic C nd_Md_layOuts_70 ?_
        have h := no_s h
        subst h
        exact hj
      · have h := no_bt hc h
        refine vr_ic C nd_Md_layOuts_53 ?_
        refine vr_al C nd_Md_layOuts_54 rfl ?_
        refine vr_get (v := .ref 11) C nd_Md_layOuts_55 rfl fl_Md_44 (at_Md_0 m) rfl ?_
        refine vr_il C nd_Md_layOuts_58 rfl ?_
        refine vr_ic C nd_Md_layOuts_59 ?_
        refine vr_il C nd_Md_layOuts_60 rfl ?_
        refine vr_ishl C nd_Md_layOuts_61 rfl ?_
        refine vr_ic C nd_Md_layOuts_62 ?_
        refine vr_ixor C nd_Md_layOuts_63 rfl ?_
        refine vr_iand C nd_Md_layOuts_64 rfl ?_
        obtain ⟨hN9, h⟩ := no_i h
        refine vr_ialk (j := (nj_n (f1 &&& (((1 : Int32) <<< (v2 &&& 31)) ^^^ (-1 : Int32))))) (f := (md_longer m)) C nd_Md_layOuts_65 rfl (at_Md_11 m) hN9 rfl ?_
        refine vr_iadd C nd_Md_layOuts_66 rfl ?_
        refine vr_go C nd_Md_layOuts_67 ?_
        have h := no_s h
        subst h
        exact hj
theorem lw_Md_layOuts_2 {G : nj_G} {ad : Nat → Nat} (C : nj_C G nb_Md_layOuts 4 "NobodyJoinsModel" nr_Md_layOuts)  : ∀ (n : Nat) (m : MdS) (v1 : Int32) (x : MdS), lo_Md_layOuts_2  n m v1 = some x → nj_V G ad 0 0 110 [some (.ref 0), none, none, none] [] (rp_Md x) → nj_V G ad 0 0 2 [some (.ref 0), some (.int v1), none, none] [] (rp_Md m) := by
  intro n
  induction n with
  | zero => intro m v1 x h; rw [lo_Md_layOuts_2] at h; cases h
  | succ n ih =>
    intro m v1 x h hk
    rw [lo_Md_layOuts_2] at h
    refine vr_il C nd_Md_layOuts_2 rfl ?_
    refine vr_ic C nd_Md_layOuts_3 ?_
    refine vr_al C nd_Md_layOuts_4 rfl ?_
    refine vr_get (v := .int (md_children m)) C nd_Md_layOuts_5 rfl fl_Md_142 (at_Md_0 m) rfl ?_
    refine vr_ishl C nd_Md_layOuts_8 rfl ?_
    refine vr_cm_ge C nd_Md_layOuts_9 (fun hc => ?_) (fun hc => ?_)
    · have h := no_t hc h
      have h := no_s h
      subst h
      exact vr_wk [1] rfl hk
    · have h := no_f hc h
      refine vr_al C nd_Md_layOuts_12 rfl ?_
      refine vr_get (v := .ref 10) C nd_Md_layOuts_13 rfl fl_Md_41 (at_Md_0 m) rfl ?_
      refine vr_il C nd_Md_layOuts_16 rfl ?_
      refine vr_al C nd_Md_layOuts_17 rfl ?_
      refine vr_il C nd_Md_layOuts_18 rfl ?_
      obtain ⟨w1, hV2, h⟩ := no_b h
      refine vr_sVi (hp' := (rp_Md m)) [.int v1] [.int v1, .ref 10] C nd_Md_layOuts_19 rfl ml_Md_190 my_Md_outs (co_Md_outs m v1 w1 hV2) ⟨_, _, _, rfl, rfl, rfl⟩ rfl rfl ⟨rfl, rfl, rfl, rfl⟩ (Nat.zero_le _) (Nat.zero_le _) rfl ?_
      obtain ⟨hN3, h⟩ := no_i h
      refine vr_iask (j := (nj_n v1)) (f := (md_outOf m)) (hp' := (rp_Md (ms_outOf m (upd (md_outOf m) (nj_n v1) w1)))) C nd_Md_layOuts_22 rfl (at_Md_10 m) hN3 rfl (st_Md_10 m (upd (md_outOf m) (nj_n v1) w1)) ?_
      refine vr_al C nd_Md_layOuts_23 rfl ?_
      refine vr_get (v := .ref 11) C nd_Md_layOuts_24 rfl fl_Md_44 (at_Md_0 (ms_outOf m (upd (md_outOf m) (nj_n v1) w1))) rfl ?_
      refine vr_il C nd_Md_layOuts_27 rfl ?_
      refine vr_ic C nd_Md_layOuts_28 ?_
      obtain ⟨hN4, h⟩ := no_i h
      refine vr_iask (j := (nj_n v1)) (f := (md_longer m)) (hp' := (rp_Md (ms_longer (ms_outOf m (upd (md_outOf m) (nj_n v1) w1)) (upd (md_longer m) (nj_n v1) (0 : Int32))))) C nd_Md_layOuts_29 rfl (at_Md_11 (ms_outOf m (upd (md_outOf m) (nj_n v1) w1))) hN4 rfl (st_Md_11 (ms_outOf m (upd (md_outOf m) (nj_n v1) w1)) (upd (md_longer m) (nj_n v1) (0 : Int32))) ?_
      refine vr_ic C nd_Md_layOuts_30 ?_
      refine vr_is (ls' := [some (.ref 0), some (.int v1), some (.int (0 : Int32)), none]) C nd_Md_layOuts_31 rfl rfl ?_
      obtain ⟨x16, hX17, h⟩ := no_b h
      refine lw_Md_layOuts_32 C v1 nj_fu _ _ x16 hX17 ?_
      refine vr_inc (v := (v1 + (1 : Int32))) (ls' := [some (.ref 0), some (.int (v1 + (1 : Int32))), none, none]) C nd_Md_layOuts_104 rfl rfl rfl rfl rfl ?_
      refine vr_go C nd_Md_layOuts_107 ?_
      exact (ih _ _ _ h hk)
theorem lw_Md_layOuts_146 {G : nj_G} {ad : Nat → Nat} (C : nj_C G nb_Md_layOuts 4 "NobodyJoinsModel" nr_Md_layOuts) (f1 : Int32) : ∀ (n : Nat) (m : MdS) (v2 : Int32) (x : MdS), lo_Md_layOuts_146 f1 n m v2 = some x → nj_V G ad 0 0 208 [some (.ref 0), some (.int f1), none, none] [] (rp_Md x) → nj_V G ad 0 0 146 [some (.ref 0), some (.int f1), some (.int v2), none] [] (rp_Md m) := by
  intro n
  induction n with
  | zero => intro m v2 x h; rw [lo_Md_layOuts_146] at h; cases h
  | succ n ih =>
    intro m v2 x h hk
    rw [lo_Md_layOuts_146] at h
    refine vr_il C nd_Md_layOuts_146 rfl ?_
    refine vr_al C nd_Md_layOuts_147 rfl ?_
    refine vr_get (v := .int (md_children m)) C nd_Md_layOuts_148 rfl fl_Md_142 (at_Md_0 m) rfl ?_
    refine vr_cm_ge C nd_Md_layOuts_151 (fun hc => ?_) (fun hc => ?_)
    · have h := no_t hc h
      have h := no_s h
      subst h
      exact vr_wk [2] rfl hk
    · have h := no_f hc h
      refine vr_al C nd_Md_layOuts_154 rfl ?_
      refine vr_get (v := .ref 12) C nd_Md_layOuts_155 rfl fl_Md_47 (at_Md_0 m) rfl ?_
      refine vr_il C nd_Md_layOuts_158 rfl ?_
      refine vr_dup2 C nd_Md_layOuts_159 rfl rfl rfl ?_
      obtain ⟨hN22, h⟩ := no_i h
      refine vr_lalk (j := (nj_n f1)) (f := (md_ways m)) C nd_Md_layOuts_160 rfl (at_Md_12 m) hN22 rfl ?_
      refine vr_il C nd_Md_layOuts_161 rfl ?_
      refine vr_il C nd_Md_layOuts_162 rfl ?_
      obtain ⟨w23, hV24, h⟩ := no_b h
      refine vr_cSip [] [.int f1, .int v2] [.long ((md_ways m) (nj_n f1)), .int f1, .ref 12] C nd_Md_layOuts_163 rfl ml_Md_125 my_Md_has (co_Md_has f1 v2 w23 hV24) (em_E _) rfl rfl ⟨rfl, rfl, rfl, rfl⟩ (Nat.zero_le _) (Nat.zero_le _) rfl ?_
      obtain ⟨p25, hP31, h⟩ := no_b h
      have hj : nj_V G ad 0 0 200 [some (.ref 0), some (.int f1), some (.int v2), none] [.long p25, .long ((md_ways m) (nj_n f1)), .int f1, .ref 12] (rp_Md m) := by
        refine vr_ladd C nd_Md_layOuts_200 rfl ?_
        obtain ⟨hN30, h⟩ := no_i h
        refine vr_lask (j := (nj_n f1)) (f := (md_ways m)) (hp' := (rp_Md (ms_ways m (vp_updL (md_ways m) (nj_n f1) (((md_ways m) (nj_n f1)) + p25))))) C nd_Md_layOuts_201 rfl (at_Md_12 m) hN30 rfl (st_Md_12 m (vp_updL (md_ways m) (nj_n f1) (((md_ways m) (nj_n f1)) + p25))) ?_
        refine vr_inc (v := (v2 + (1 : Int32))) (ls' := [some (.ref 0), some (.int f1), some (.int (v2 + (1 : Int32))), none]) C nd_Md_layOuts_202 rfl rfl rfl rfl rfl ?_
        refine vr_go C nd_Md_layOuts_205 ?_
        exact (ih _ _ _ h hk)
      clear h
      have h := hP31
      clear hP31
      refine vr_ifb_ne C nd_Md_layOuts_166 (fun hc => ?_) (fun hc => ?_)
      · have h := no_bt hc h
        refine vr_lc (v := (0 : Int64)) C nd_Md_layOuts_199 rfl (by decide) ?_
        have h := no_s h
        subst h
        exact hj
      · have h := no_bf hc h
        refine vr_al C nd_Md_layOuts_169 rfl ?_
        refine vr_get (v := .ref 10) C nd_Md_layOuts_170 rfl fl_Md_41 (at_Md_0 m) rfl ?_
        refine vr_il C nd_Md_layOuts_173 rfl ?_
        refine vr_ic C nd_Md_layOuts_174 ?_
        refine vr_il C nd_Md_layOuts_175 rfl ?_
        refine vr_ishl C nd_Md_layOuts_176 rfl ?_
        refine vr_ior C nd_Md_layOuts_177 rfl ?_
        obtain ⟨hN26, h⟩ := no_i h
        refine vr_ialk (j := (nj_n (f1 ||| ((1 : Int32) <<< (v2 &&& 31))))) (f := (md_outOf m)) C nd_Md_layOuts_178 rfl (at_Md_10 m) hN26 rfl ?_
        refine vr_il C nd_Md_layOuts_179 rfl ?_
        obtain ⟨w27, hV28, h⟩ := no_b h
        refine vr_cSip [] [.int ((md_outOf m) (nj_n (f1 ||| ((1 : Int32) <<< (v2 &&& 31))))), .int v2] [.long ((md_ways m) (nj_n f1)), .int f1, .ref 12] C nd_Md_layOuts_180 rfl ml_Md_125 my_Md_has (co_Md_has ((md_outOf m) (nj_n (f1 ||| ((1 : Int32) <<< (v2 &&& 31))))) v2 w27 hV28) (em_E _) rfl rfl ⟨rfl, rfl, rfl, rfl⟩ (Nat.zero_le _) (Nat.zero_le _) rfl ?_
        refine vr_ifb_eq C nd_Md_layOuts_183 (fun hc => ?_) (fun hc => ?_)
        · have h := no_bf hc h
          refine vr_lc (v := (0 : Int64)) C nd_Md_layOuts_199 rfl (by decide) ?_
          have h := no_s h
          subst h
          exact hj
        · have h := no_bt hc h
          refine vr_al C nd_Md_layOuts_186 rfl ?_
          refine vr_get (v := .ref 12) C nd_Md_layOuts_187 rfl fl_Md_47 (at_Md_0 m) rfl ?_
          refine vr_il C nd_Md_layOuts_190 rfl ?_
          refine vr_ic C nd_Md_layOuts_191 ?_
          refine vr_il C nd_Md_layOuts_192 rfl ?_
          refine vr_ishl C nd_Md_layOuts_193 rfl ?_
          refine vr_ior C nd_Md_layOuts_194 rfl ?_
          obtain ⟨hN29, h⟩ := no_i h
          refine vr_lalk (j := (nj_n (f1 ||| ((1 : Int32) <<< (v2 &&& 31))))) (f := (md_ways m)) C nd_Md_layOuts_195 rfl (at_Md_12 m) hN29 rfl ?_
          refine vr_go C nd_Md_layOuts_196 ?_
          have h := no_s h
          subst h
          exact hj
theorem lw_Md_layOuts_119 {G : nj_G} {ad : Nat → Nat} (C : nj_C G nb_Md_layOuts 4 "NobodyJoinsModel" nr_Md_layOuts)  : ∀ (n : Nat) (m : MdS) (v1 : Int32) (x : MdS), lo_Md_layOuts_119  n m v1 = some x → nj_V G ad 0 0 214 [none, none, none, none] [] (rp_Md x) → nj_V G ad 0 0 119 [some (.ref 0), some (.int v1), none, none] [] (rp_Md m) := by
  intro n
  induction n with
  | zero => intro m v1 x h; rw [lo_Md_layOuts_119] at h; cases h
  | succ n ih =>
    intro m v1 x h hk
    rw [lo_Md_layOuts_119] at h
    refine vr_il C nd_Md_layOuts_119 rfl ?_
    refine vr_if_lt C nd_Md_layOuts_120 (fun hc => ?_) (fun hc => ?_)
    · have h := no_t hc h
      have h := no_s h
      subst h
      exact vr_wk [0, 1] rfl hk
    · have h := no_f hc h
      refine vr_al C nd_Md_layOuts_123 rfl ?_
      refine vr_get (v := .ref 12) C nd_Md_layOuts_124 rfl fl_Md_47 (at_Md_0 m) rfl ?_
      refine vr_il C nd_Md_layOuts_127 rfl ?_
      refine vr_il C nd_Md_layOuts_128 rfl ?_
      refine vr_al C nd_Md_layOuts_129 rfl ?_
      refine vr_get (v := .ref 1) C nd_Md_layOuts_130 rfl fl_Md_7 (at_Md_0 m) rfl ?_
      refine vr_ic C nd_Md_layOuts_133 ?_
      refine vr_ialk (j := 1) (f := (md_row m)) C nd_Md_layOuts_134 rfl (at_Md_1 m) (nj_inc rfl) rfl ?_
      obtain ⟨p20, hP34, h⟩ := no_b h
      have hj : nj_V G ad 0 0 143 [some (.ref 0), some (.int v1), none, none] [.long p20, .int v1, .ref 12] (rp_Md m) := by
        obtain ⟨hN21, h⟩ := no_i h
        refine vr_lask (j := (nj_n v1)) (f := (md_ways m)) (hp' := (rp_Md (ms_ways m (vp_updL (md_ways m) (nj_n v1) p20)))) C nd_Md_layOuts_143 rfl (at_Md_12 m) hN21 rfl (st_Md_12 m (vp_updL (md_ways m) (nj_n v1) p20)) ?_
        refine vr_ic C nd_Md_layOuts_144 ?_
        refine vr_is (ls' := [some (.ref 0), some (.int v1), some (.int (0 : Int32)), none]) C nd_Md_layOuts_145 rfl rfl ?_
        obtain ⟨x32, hX33, h⟩ := no_b h
        refine lw_Md_layOuts_146 C v1 nj_fu _ _ x32 hX33 ?_
        refine vr_inc (v := (v1 + (-1 : Int32))) (ls' := [some (.ref 0), some (.int (v1 + (-1 : Int32))), none, none]) C nd_Md_layOuts_208 rfl rfl rfl rfl rfl ?_
        refine vr_go C nd_Md_layOuts_211 ?_
        exact (ih _ _ _ h hk)
      clear h
      have h := hP34
      clear hP34
      refine vr_cm_ne C nd_Md_layOuts_135 (fun hc => ?_) (fun hc => ?_)
      · have h := no_f hc h
        refine vr_lc (v := (0 : Int64)) C nd_Md_layOuts_142 rfl (by decide) ?_
        have h := no_s h
        subst h
        exact hj
      · have h := no_t hc h
        refine vr_lc (v := (1 : Int64)) C nd_Md_layOuts_138 rfl (by decide) ?_
        refine vr_go C nd_Md_layOuts_139 ?_
        have h := no_s h
        subst h
        exact hj
theorem co_Md_layOuts (m : MdS) (x : MdS) (h : mo_Md_layOuts m = some x) : nj_Con ny_Md_layOuts nb_Md_layOuts 4 none nr_Md_layOuts (rp_Md m) [.ref 0] none (rp_Md x) := by
  rw [mo_Md_layOuts] at h
  refine nj_con (by decide) rfl 3 rfl (fun G ad C hq => ?_)
  have C : nj_C G nb_Md_layOuts 4 "NobodyJoinsModel" nr_Md_layOuts := C
  show nj_V G ad 0 0 0 [some (.ref 0), none, none, none] [] (rp_Md m)
  refine vr_ic C nd_Md_layOuts_0 ?_
  refine vr_is (ls' := [some (.ref 0), some (.int (0 : Int32)), none, none]) C nd_Md_layOuts_1 rfl rfl ?_
  obtain ⟨x18, hX19, h⟩ := no_b h
  refine lw_Md_layOuts_2 C  nj_fu _ _ x18 hX19 ?_
  refine vr_ic C nd_Md_layOuts_110 ?_
  refine vr_al C nd_Md_layOuts_111 rfl ?_
  refine vr_get (v := .int (md_children x18)) C nd_Md_layOuts_112 rfl fl_Md_142 (at_Md_0 x18) rfl ?_
  refine vr_ishl C nd_Md_layOuts_115 rfl ?_
  refine vr_ic C nd_Md_layOuts_116 ?_
  refine vr_isub C nd_Md_layOuts_117 rfl ?_
  refine vr_is (ls' := [some (.ref 0), some (.int (((1 : Int32) <<< ((md_children x18) &&& 31)) - (1 : Int32))), none, none]) C nd_Md_layOuts_118 rfl rfl ?_
  obtain ⟨x35, hX36, h⟩ := no_b h
  refine lw_Md_layOuts_119 C  nj_fu _ _ x35 hX36 ?_
  have h := no_s h
  subst h
  exact vr_vret C hq nd_Md_layOuts_214 rfl
abbrev nr_Md_longest : Room := { frames := 8, cells := 0, slots := 0, locals := 187 }
theorem lw_Md_longest_55 {G : nj_G} {ad : Nat → Nat} (C : nj_C G nb_Md_longest 6 "NobodyJoinsModel" nr_Md_longest) (m : MdS) (f1 : Int32) (f2 : Int32) (f3 : Int32) (f4 : Int32) : ∀ (n : Nat) (v5 : Int32) (x : Int32), lo_Md_longest_55 m f1 f2 f3 f4 n v5 = some x → nj_V G ad 0 0 97 [some (.ref 0), some (.int f1), some (.int f2), some (.int f3), some (.int f4), some (.int x)] [] (rp_Md m) → nj_V G ad 0 0 55 [some (.ref 0), some (.int f1), some (.int f2), some (.int f3), some (.int f4), some (.int v5)] [] (rp_Md m) := by
  intro n
  induction n with
  | zero => intro v5 x h; rw [lo_Md_longest_55] at h; cases h
  | succ n ih =>
    intro v5 x h hk
    rw [lo_Md_longest_55] at h
    refine vr_al C nd_Md_longest_55 rfl ?_
    refine vr_get (v := .ref 10) C nd_Md_longest_56 rfl fl_Md_41 (at_Md_0 m) rfl ?_
    refine vr_il C nd_Md_longest_59 rfl ?_
    obtain ⟨hN8, h⟩ := no_i h
    refine vr_ialk (j := (nj_n f2)) (f := (md_outOf m)) C nd_Md_longest_60 rfl (at_Md_10 m) hN8 rfl ?_
    refine vr_il C nd_Md_longest_61 rfl ?_
    obtain ⟨w9, hV10, h⟩ := no_b h
    refine vr_cSip [] [.int ((md_outOf m) (nj_n f2)), .int v5] [] C nd_Md_longest_63 rfl ml_Md_125 my_Md_has (co_Md_has ((md_outOf m) (nj_n f2)) v5 w9 hV10) (em_E _) rfl rfl ⟨rfl, rfl, rfl, rfl⟩ (Nat.zero_le _) (Nat.zero_le _) rfl ?_
    refine vr_ifb_eq C nd_Md_longest_66 (fun hc => ?_) (fun hc => ?_)
    · have h := no_bf hc h
      refine vr_inc (v := (v5 + (1 : Int32))) (ls' := [some (.ref 0), some (.int f1), some (.int f2), some (.int f3), some (.int f4), some (.int (v5 + (1 : Int32)))]) C nd_Md_longest_91 rfl rfl rfl rfl rfl ?_
      refine vr_go C nd_Md_longest_94 ?_
      exact (ih _ _ h hk)
    · have h := no_bt hc h
      refine vr_al C nd_Md_longest_69 rfl ?_
      refine vr_get (v := .ref 11) C nd_Md_longest_70 rfl fl_Md_44 (at_Md_0 m) rfl ?_
      refine vr_il C nd_Md_longest_73 rfl ?_
      refine vr_ic C nd_Md_longest_74 ?_
      refine vr_il C nd_Md_longest_75 rfl ?_
      refine vr_ishl C nd_Md_longest_77 rfl ?_
      refine vr_ic C nd_Md_longest_78 ?_
      refine vr_ixor C nd_Md_longest_79 rfl ?_
      refine vr_iand C nd_Md_longest_80 rfl ?_
      obtain ⟨hN11, h⟩ := no_i h
      refine vr_ialk (j := (nj_n (f2 &&& (((1 : Int32) <<< (v5 &&& 31)) ^^^ (-1 : Int32))))) (f := (md_longer m)) C nd_Md_longest_81 rfl (at_Md_11 m) hN11 rfl ?_
      refine vr_il C nd_Md_longest_82 rfl ?_
      refine vr_il C nd_Md_longest_83 rfl ?_
      refine vr_isub C nd_Md_longest_85 rfl ?_
      refine vr_ic C nd_Md_longest_86 ?_
      refine vr_isub C nd_Md_longest_87 rfl ?_
      refine vr_cm_eq C nd_Md_longest_88 (fun hc => ?_) (fun hc => ?_)
      · have h := no_t hc h
        have h := no_s h
        subst h
        exact hk
      · have h := no_f hc h
        refine vr_inc (v := (v5 + (1 : Int32))) (ls' := [some (.ref 0), some (.int f1), some (.int f2), some (.int f3), some (.int f4), some (.int (v5 + (1 : Int32)))]) C nd_Md_longest_91 rfl rfl rfl rfl rfl ?_
        refine vr_go C nd_Md_longest_94 ?_
        exact (ih _ _ h hk)
theorem lw_Md_longest_46 {G : nj_G} {ad : Nat → Nat} (C : nj_C G nb_Md_longest 6 "NobodyJoinsModel" nr_Md_longest) (f1 : Int32) (f3 : Int32) : ∀ (n : Nat) (m : MdS) (v2 : Int32) (v4 : Int32) (x : MdS), lo_Md_longest_46 f1 f3 n m v2 v4 = some x → nj_V G ad 0 0 126 [none, none, none, some (.int f3), none, none] [] (rp_Md x) → nj_V G ad 0 0 46 [some (.ref 0), some (.int f1), some (.int v2), some (.int f3), some (.int v4), none] [] (rp_Md m) := by
  intro n
  induction n with
  | zero => intro m v2 v4 x h; rw [lo_Md_longest_46] at h; cases h
  | succ n ih =>
    intro m v2 v4 x h hk
    rw [lo_Md_longest_46] at h
    refine vr_il C nd_Md_longest_46 rfl ?_
    refine vr_il C nd_Md_longest_48 rfl ?_
    refine vr_cm_ge C nd_Md_longest_49 (fun hc => ?_) (fun hc => ?_)
    · have h := no_t hc h
      have h := no_s h
      subst h
      exact vr_wk [0, 1, 2, 4] rfl hk
    · have h := no_f hc h
      refine vr_ic C nd_Md_longest_52 ?_
      refine vr_is (ls' := [some (.ref 0), some (.int f1), some (.int v2), some (.int f3), some (.int v4), some (.int (0 : Int32))]) C nd_Md_longest_53 rfl rfl ?_
      obtain ⟨x12, hX13, h⟩ := no_b h
      refine lw_Md_longest_55 C m f1 v2 f3 v4 nj_fu _ x12 hX13 ?_
      refine vr_al C nd_Md_longest_97 rfl ?_
      refine vr_get (v := .ref 4) C nd_Md_longest_98 rfl fl_Md_19 (at_Md_0 m) rfl ?_
      refine vr_ic C nd_Md_longest_101 ?_
      refine vr_il C nd_Md_longest_103 rfl ?_
      refine vr_imul C nd_Md_longest_104 rfl ?_
      refine vr_il C nd_Md_longest_105 rfl ?_
      refine vr_iadd C nd_Md_longest_107 rfl ?_
      refine vr_il C nd_Md_longest_108 rfl ?_
      obtain ⟨hN14, h⟩ := no_i h
      refine vr_iask (j := (nj_n (((40 : Int32) * f1) + v4))) (f := (md_items m)) (hp' := (rp_Md (ms_items m (upd (md_items m) (nj_n (((40 : Int32) * f1) + v4)) x12)))) C nd_Md_longest_110 rfl (at_Md_4 m) hN14 rfl (st_Md_4 m (upd (md_items m) (nj_n (((40 : Int32) * f1) + v4)) x12)) ?_
      refine vr_il C nd_Md_longest_111 rfl ?_
      refine vr_ic C nd_Md_longest_112 ?_
      refine vr_il C nd_Md_longest_113 rfl ?_
      refine vr_ishl C nd_Md_longest_115 rfl ?_
      refine vr_ic C nd_Md_longest_116 ?_
      refine vr_ixor C nd_Md_longest_117 rfl ?_
      refine vr_iand C nd_Md_longest_118 rfl ?_
      refine vr_is (ls' := [some (.ref 0), some (.int f1), some (.int (v2 &&& (((1 : Int32) <<< (x12 &&& 31)) ^^^ (-1 : Int32)))), some (.int f3), some (.int v4), some (.int x12)]) C nd_Md_longest_119 rfl rfl ?_
      refine vr_inc (v := (v4 + (1 : Int32))) (ls' := [some (.ref 0), some (.int f1), some (.int (v2 &&& (((1 : Int32) <<< (x12 &&& 31)) ^^^ (-1 : Int32)))), some (.int f3), some (.int (v4 + (1 : Int32))), some (.int x12)]) C nd_Md_longest_120 rfl rfl rfl rfl rfl ?_
      refine vr_go C nd_Md_longest_123 ?_
      exact vr_wk [5] rfl (ih _ _ _ _ h hk)
theorem co_Md_longest (m : MdS) (a1 : Int32) (x : Int32 × MdS) (h : mo_Md_longest m a1 = some x) : nj_Con ny_Md_longest nb_Md_longest 6 (some .int) nr_Md_longest (rp_Md m) [.ref 0, .int a1] (some (.int (x.1))) (rp_Md (x.2)) := by
  rw [mo_Md_longest] at h
  refine nj_con (by decide) rfl 4 rfl (fun G ad C hq => ?_)
  have C : nj_C G nb_Md_longest 6 "NobodyJoinsModel" nr_Md_longest := C
  show nj_V G ad 0 0 0 [some (.ref 0), some (.int a1), none, none, none, none] [] (rp_Md m)
  refine vr_il C nd_Md_longest_0 rfl ?_
  obtain ⟨w1, hV2, h⟩ := no_b h
  refine vr_cSip [] [.int a1] [] C nd_Md_longest_1 rfl ml_Md_66 my_Md_isRow (co_Md_isRow a1 w1 hV2) (em_E _) rfl rfl ⟨rfl, rfl, rfl, rfl⟩ (Nat.zero_le _) (Nat.zero_le _) rfl ?_
  refine vr_ifb_ne C nd_Md_longest_4 (fun hc => ?_) (fun hc => ?_)
  · have h := no_bt hc h
    refine vr_al C nd_Md_longest_9 rfl ?_
    refine vr_get (v := .int (md_children m)) C nd_Md_longest_10 rfl fl_Md_142 (at_Md_0 m) rfl ?_
    refine vr_if_ne C nd_Md_longest_13 (fun hc => ?_) (fun hc => ?_)
    · have h := no_f hc h
      refine vr_al C nd_Md_longest_19 rfl ?_
      obtain ⟨w3, hV4, h⟩ := no_b h
      refine vr_sVv (hp' := (rp_Md w3)) [] [] C nd_Md_longest_20 rfl ml_Md_213 my_Md_layOuts (co_Md_layOuts m w3 hV4) ⟨_, _, _, rfl, rfl, rfl⟩ rfl rfl ⟨rfl, rfl, rfl, rfl⟩ (Nat.zero_le _) (Nat.zero_le _) rfl ?_
      refine vr_al C nd_Md_longest_23 rfl ?_
      refine vr_get (v := .ref 1) C nd_Md_longest_24 rfl fl_Md_7 (at_Md_0 w3) rfl ?_
      refine vr_ic C nd_Md_longest_27 ?_
      refine vr_ialk (j := 1) (f := (md_row w3)) C nd_Md_longest_28 rfl (at_Md_1 w3) (nj_inc rfl) rfl ?_
      refine vr_is (ls' := [some (.ref 0), some (.int a1), some (.int ((md_row w3) 1)), none, none, none]) C nd_Md_longest_29 rfl rfl ?_
      refine vr_al C nd_Md_longest_30 rfl ?_
      refine vr_get (v := .ref 11) C nd_Md_longest_31 rfl fl_Md_44 (at_Md_0 w3) rfl ?_
      refine vr_il C nd_Md_longest_34 rfl ?_
      obtain ⟨hN5, h⟩ := no_i h
      refine vr_ialk (j := (nj_n ((md_row w3) 1))) (f := (md_longer w3)) C nd_Md_longest_35 rfl (at_Md_11 w3) hN5 rfl ?_
      refine vr_is (ls' := [some (.ref 0), some (.int a1), some (.int ((md_row w3) 1)), some (.int ((md_longer w3) (nj_n ((md_row w3) 1)))), none, none]) C nd_Md_longest_36 rfl rfl ?_
      refine vr_al C nd_Md_longest_37 rfl ?_
      refine vr_il C nd_Md_longest_38 rfl ?_
      refine vr_il C nd_Md_longest_39 rfl ?_
      obtain ⟨w6, hV7, h⟩ := no_b h
      refine vr_sVv (hp' := (rp_Md w6)) [.int a1, .int ((md_longer w3) (nj_n ((md_row w3) 1)))] [] C nd_Md_longest_40 rfl ml_Md_74 my_Md_makeRow (co_Md_makeRow w3 a1 ((md_longer w3) (nj_n ((md_row w3) 1))) w6 hV7) ⟨_, _, _, rfl, rfl, rfl⟩ rfl rfl ⟨rfl, rfl, rfl, rfl⟩ (Nat.zero_le _) (Nat.zero_le _) rfl ?_
      refine vr_ic C nd_Md_longest_43 ?_
      refine vr_is (ls' := [some (.ref 0), some (.int a1), some (.int ((md_row w3) 1)), some (.int ((md_longer w3) (nj_n ((md_row w3) 1)))), some (.int (0 : Int32)), none]) C nd_Md_longest_44 rfl rfl ?_
      obtain ⟨x15, hX16, h⟩ := no_b h
      refine lw_Md_longest_46 C a1 ((md_longer w3) (nj_n ((md_row w3) 1))) nj_fu _ _ _ x15 hX16 ?_
      refine vr_il C nd_Md_longest_126 rfl ?_
      have h := no_s h
      subst h
      exact vr_iret C hq nd_Md_longest_127 rfl
    · have h := no_t hc h
      refine vr_ic C nd_Md_longest_16 ?_
      have h := no_s h
      subst h
      exact vr_iret C hq nd_Md_longest_18 rfl
  · have h := no_bf hc h
    refine vr_ic C nd_Md_longest_7 ?_
    have h := no_s h
    subst h
    exact vr_iret C hq nd_Md_longest_8 rfl
abbrev nr_Md_tellMany : Room := { frames := 0, cells := 0, slots := 0, locals := 0 }
theorem co_Md_tellMany (m : MdS) (a1 : Int64) (x : Int32 × MdS) (h : mo_Md_tellMany m a1 = some x) : nj_Con ny_Md_tellMany nb_Md_tellMany 3 (some .int) nr_Md_tellMany (rp_Md m) [.ref 0, .long a1] (some (.int (x.1))) (rp_Md (x.2)) := by
  rw [mo_Md_tellMany] at h
  refine nj_con (by decide) rfl 0 rfl (fun G ad C hq => ?_)
  have C : nj_C G nb_Md_tellMany 3 "NobodyJoinsModel" nr_Md_tellMany := C
  show nj_V G ad 0 0 0 [some (.ref 0), some (.long a1), none] [] (rp_Md m)
  refine vr_al C nd_Md_tellMany_0 rfl ?_
  refine vr_ll C nd_Md_tellMany_1 rfl ?_
  refine vr_putl (hp' := (rp_Md (ms_upper m a1))) C nd_Md_tellMany_2 rfl fl_Md_216 (at_Md_0 m) rfl (st_Md_0_8 m a1) ?_
  refine vr_al C nd_Md_tellMany_5 rfl ?_
  refine vr_lc (v := (1 : Int64)) C nd_Md_tellMany_6 rfl (by decide) ?_
  refine vr_putl (hp' := (rp_Md (ms_lower (ms_upper m a1) (1 : Int64)))) C nd_Md_tellMany_7 rfl fl_Md_28 (at_Md_0 (ms_upper m a1)) rfl (st_Md_0_9 (ms_upper m a1) (1 : Int64)) ?_
  refine vr_ic C nd_Md_tellMany_10 ?_
  have h := no_s h
  subst h
  exact vr_iret C hq nd_Md_tellMany_11 rfl
abbrev nr_Md_ways : Room := { frames := 8, cells := 0, slots := 0, locals := 187 }
theorem lw_Md_ways_24 {G : nj_G} {ad : Nat → Nat} (C : nj_C G nb_Md_ways 5 "NobodyJoinsModel" nr_Md_ways) (f1 : Int32) : ∀ (n : Nat) (m : MdS) (v2 : Int64) (v4 : Int32) (x : MdS × Int64), lo_Md_ways_24 f1 n m v2 v4 = some x → nj_V G ad 0 0 105 [some (.ref 0), none, some (.long (x.2)), none, none] [] (rp_Md (x.1)) → nj_V G ad 0 0 24 [some (.ref 0), some (.int f1), some (.long v2), none, some (.int v4)] [] (rp_Md m) := by
  intro n
  induction n with
  | zero => intro m v2 v4 x h; rw [lo_Md_ways_24] at h; cases h
  | succ n ih =>
    intro m v2 v4 x h hk
    rw [lo_Md_ways_24] at h
    refine vr_il C nd_Md_ways_24 rfl ?_
    refine vr_ic C nd_Md_ways_26 ?_
    refine vr_al C nd_Md_ways_27 rfl ?_
    refine vr_get (v := .int (md_children m)) C nd_Md_ways_28 rfl fl_Md_142 (at_Md_0 m) rfl ?_
    refine vr_ishl C nd_Md_ways_31 rfl ?_
    refine vr_cm_ge C nd_Md_ways_32 (fun hc => ?_) (fun hc => ?_)
    · have h := no_t hc h
      have h := no_s h
      subst h
      exact vr_wk [1, 4] rfl hk
    · have h := no_f hc h
      refine vr_ll C nd_Md_ways_35 rfl ?_
      refine vr_al C nd_Md_ways_36 rfl ?_
      refine vr_get (v := .ref 10) C nd_Md_ways_37 rfl fl_Md_41 (at_Md_0 m) rfl ?_
      refine vr_il C nd_Md_ways_40 rfl ?_
      obtain ⟨hN5, h⟩ := no_i h
      refine vr_ialk (j := (nj_n v4)) (f := (md_outOf m)) C nd_Md_ways_42 rfl (at_Md_10 m) hN5 rfl ?_
      obtain ⟨p6, hP14, h⟩ := no_b h
      have hj : nj_V G ad 0 0 57 [some (.ref 0), some (.int f1), none, none, some (.int v4)] [.long p6, .long v2] (rp_Md m) := by
        refine vr_ladd C nd_Md_ways_57 rfl ?_
        refine vr_lst (ls' := [some (.ref 0), some (.int f1), some (.long (v2 + p6)), none, some (.int v4)]) C nd_Md_ways_58 rfl rfl ?_
        refine vr_al C nd_Md_ways_59 rfl ?_
        refine vr_dup C nd_Md_ways_60 rfl rfl ?_
        refine vr_get (v := .int (md_asked m)) C nd_Md_ways_61 rfl fl_Md_55 (at_Md_0 m) rfl ?_
        refine vr_al C nd_Md_ways_64 rfl ?_
        refine vr_get (v := .ref 10) C nd_Md_ways_65 rfl fl_Md_41 (at_Md_0 m) rfl ?_
        refine vr_il C nd_Md_ways_68 rfl ?_
        obtain ⟨hN8, h⟩ := no_i h
        refine vr_ialk (j := (nj_n v4)) (f := (md_outOf m)) C nd_Md_ways_70 rfl (at_Md_10 m) hN8 rfl ?_
        obtain ⟨p9, hP13, h⟩ := no_b h
        have hj : nj_V G ad 0 0 95 [some (.ref 0), some (.int f1), some (.long (v2 + p6)), none, some (.int v4)] [.int p9, .int (md_asked m), .ref 0] (rp_Md m) := by
          refine vr_iadd C nd_Md_ways_95 rfl ?_
          refine vr_puti (hp' := (rp_Md (ms_asked m ((md_asked m) + p9)))) C nd_Md_ways_96 rfl fl_Md_55 (at_Md_0 m) rfl (st_Md_0_7 m ((md_asked m) + p9)) ?_
          refine vr_inc (v := (v4 + (1 : Int32))) (ls' := [some (.ref 0), some (.int f1), some (.long (v2 + p6)), none, some (.int (v4 + (1 : Int32)))]) C nd_Md_ways_99 rfl rfl rfl rfl rfl ?_
          refine vr_go C nd_Md_ways_102 ?_
          exact (ih _ _ _ _ h hk)
        clear h
        have h := hP13
        clear hP13
        refine vr_if_ne C nd_Md_ways_71 (fun hc => ?_) (fun hc => ?_)
        · have h := no_f hc h
          refine vr_ic C nd_Md_ways_94 ?_
          have h := no_s h
          subst h
          exact hj
        · have h := no_t hc h
          refine vr_il C nd_Md_ways_74 rfl ?_
          refine vr_il C nd_Md_ways_76 rfl ?_
          obtain ⟨w10, hV11, h⟩ := no_b h
          refine vr_cSip [] [.int v4, .int f1] [.int (md_asked m), .ref 0] C nd_Md_ways_77 rfl ml_Md_125 my_Md_has (co_Md_has v4 f1 w10 hV11) (em_E _) rfl rfl ⟨rfl, rfl, rfl, rfl⟩ (Nat.zero_le _) (Nat.zero_le _) rfl ?_
          refine vr_ifb_eq C nd_Md_ways_80 (fun hc => ?_) (fun hc => ?_)
          · have h := no_bf hc h
            refine vr_ic C nd_Md_ways_94 ?_
            have h := no_s h
            subst h
            exact hj
          · have h := no_bt hc h
            refine vr_al C nd_Md_ways_83 rfl ?_
            refine vr_get (v := .ref 12) C nd_Md_ways_84 rfl fl_Md_47 (at_Md_0 m) rfl ?_
            refine vr_il C nd_Md_ways_87 rfl ?_
            obtain ⟨hN12, h⟩ := no_i h
            refine vr_lalk (j := (nj_n v4)) (f := (md_ways m)) C nd_Md_ways_89 rfl (at_Md_12 m) hN12 rfl ?_
            refine vr_l2i C nd_Md_ways_90 rfl ?_
            refine vr_go C nd_Md_ways_91 ?_
            have h := no_s h
            subst h
            exact hj
      clear h
      have h := hP14
      clear hP14
      refine vr_if_ne C nd_Md_ways_43 (fun hc => ?_) (fun hc => ?_)
      · have h := no_f hc h
        refine vr_lc (v := (0 : Int64)) C nd_Md_ways_56 rfl (by decide) ?_
        have h := no_s h
        subst h
        exact vr_wk [2] rfl hj
      · have h := no_t hc h
        refine vr_al C nd_Md_ways_46 rfl ?_
        refine vr_get (v := .ref 12) C nd_Md_ways_47 rfl fl_Md_47 (at_Md_0 m) rfl ?_
        refine vr_il C nd_Md_ways_50 rfl ?_
        obtain ⟨hN7, h⟩ := no_i h
        refine vr_lalk (j := (nj_n v4)) (f := (md_ways m)) C nd_Md_ways_52 rfl (at_Md_12 m) hN7 rfl ?_
        refine vr_go C nd_Md_ways_53 ?_
        have h := no_s h
        subst h
        exact vr_wk [2] rfl hj
theorem co_Md_ways (m : MdS) (a1 : Int32) (x : Int32 × MdS) (h : mo_Md_ways m a1 = some x) : nj_Con ny_Md_ways nb_Md_ways 5 (some .int) nr_Md_ways (rp_Md m) [.ref 0, .int a1] (some (.int (x.1))) (rp_Md (x.2)) := by
  rw [mo_Md_ways] at h
  refine nj_con (by decide) rfl 3 rfl (fun G ad C hq => ?_)
  have C : nj_C G nb_Md_ways 5 "NobodyJoinsModel" nr_Md_ways := C
  show nj_V G ad 0 0 0 [some (.ref 0), some (.int a1), none, none, none] [] (rp_Md m)
  refine vr_al C nd_Md_ways_0 rfl ?_
  refine vr_il C nd_Md_ways_1 rfl ?_
  obtain ⟨w1, hV2, h⟩ := no_b h
  refine vr_sVi (hp' := (rp_Md m)) [.int a1] [] C nd_Md_ways_2 rfl ml_Md_175 my_Md_isChild (co_Md_isChild m a1 w1 hV2) ⟨_, _, _, rfl, rfl, rfl⟩ rfl rfl ⟨rfl, rfl, rfl, rfl⟩ (Nat.zero_le _) (Nat.zero_le _) rfl ?_
  refine vr_ifb_ne C nd_Md_ways_5 (fun hc => ?_) (fun hc => ?_)
  · have h := no_bt hc h
    refine vr_al C nd_Md_ways_10 rfl ?_
    obtain ⟨w3, hV4, h⟩ := no_b h
    refine vr_sVv (hp' := (rp_Md w3)) [] [] C nd_Md_ways_11 rfl ml_Md_213 my_Md_layOuts (co_Md_layOuts m w3 hV4) ⟨_, _, _, rfl, rfl, rfl⟩ rfl rfl ⟨rfl, rfl, rfl, rfl⟩ (Nat.zero_le _) (Nat.zero_le _) rfl ?_
    refine vr_lc (v := (0 : Int64)) C nd_Md_ways_14 rfl (by decide) ?_
    refine vr_lst (ls' := [some (.ref 0), some (.int a1), some (.long (0 : Int64)), none, none]) C nd_Md_ways_15 rfl rfl ?_
    refine vr_al C nd_Md_ways_16 rfl ?_
    refine vr_ic C nd_Md_ways_17 ?_
    refine vr_puti (hp' := (rp_Md (ms_asked w3 (0 : Int32)))) C nd_Md_ways_18 rfl fl_Md_55 (at_Md_0 w3) rfl (st_Md_0_7 w3 (0 : Int32)) ?_
    refine vr_ic C nd_Md_ways_21 ?_
    refine vr_is (ls' := [some (.ref 0), some (.int a1), some (.long (0 : Int64)), none, some (.int (0 : Int32))]) C nd_Md_ways_22 rfl rfl ?_
    obtain ⟨x15, hX16, h⟩ := no_b h
    refine lw_Md_ways_24 C a1 nj_fu _ _ _ x15 hX16 ?_
    refine vr_al C nd_Md_ways_105 rfl ?_
    refine vr_ll C nd_Md_ways_106 rfl ?_
    obtain ⟨w17, hV18, h⟩ := no_b h
    refine vr_sVi (hp' := (rp_Md (w17.2))) [.long (x15.2)] [] C nd_Md_ways_107 rfl ml_Md_219 my_Md_tellMany (co_Md_tellMany (x15.1) (x15.2) w17 hV18) ⟨_, _, _, rfl, rfl, rfl⟩ rfl rfl ⟨rfl, rfl, rfl, rfl⟩ (Nat.zero_le _) (Nat.zero_le _) rfl ?_
    have h := no_s h
    subst h
    exact vr_iret C hq nd_Md_ways_110 rfl
  · have h := no_bf hc h
    refine vr_ic C nd_Md_ways_8 ?_
    have h := no_s h
    subst h
    exact vr_iret C hq nd_Md_ways_9 rfl
abbrev nr_Md_alone : Room := { frames := 8, cells := 0, slots := 0, locals := 187 }
theorem lw_Md_alone_8 {G : nj_G} {ad : Nat → Nat} (C : nj_C G nb_Md_alone 3 "NobodyJoinsModel" nr_Md_alone) (m : MdS) : ∀ (n : Nat) (v1 : Int32) (v2 : Int32) (x : Int32), lo_Md_alone_8 m n v1 v2 = some x → nj_V G ad 0 0 45 [none, some (.int x), none] [] (rp_Md m) → nj_V G ad 0 0 8 [some (.ref 0), some (.int v1), some (.int v2)] [] (rp_Md m) := by
  intro n
  induction n with
  | zero => intro v1 v2 x h; rw [lo_Md_alone_8] at h; cases h
  | succ n ih =>
    intro v1 v2 x h hk
    rw [lo_Md_alone_8] at h
    refine vr_il C nd_Md_alone_8 rfl ?_
    refine vr_al C nd_Md_alone_9 rfl ?_
    refine vr_get (v := .int (md_children m)) C nd_Md_alone_10 rfl fl_Md_142 (at_Md_0 m) rfl ?_
    refine vr_cm_ge C nd_Md_alone_13 (fun hc => ?_) (fun hc => ?_)
    · have h := no_t hc h
      have h := no_s h
      subst h
      exact vr_wk [0, 2] rfl hk
    · have h := no_f hc h
      refine vr_il C nd_Md_alone_16 rfl ?_
      refine vr_al C nd_Md_alone_17 rfl ?_
      refine vr_get (v := .ref 12) C nd_Md_alone_18 rfl fl_Md_47 (at_Md_0 m) rfl ?_
      refine vr_ic C nd_Md_alone_21 ?_
      refine vr_il C nd_Md_alone_22 rfl ?_
      refine vr_ishl C nd_Md_alone_23 rfl ?_
      obtain ⟨hN3, h⟩ := no_i h
      refine vr_lalk (j := (nj_n ((1 : Int32) <<< (v2 &&& 31)))) (f := (md_ways m)) C nd_Md_alone_24 rfl (at_Md_12 m) hN3 rfl ?_
      refine vr_lc (v := (0 : Int64)) C nd_Md_alone_25 rfl (by decide) ?_
      obtain ⟨p4, hP5, h⟩ := no_b h
      have hj : nj_V G ad 0 0 37 [some (.ref 0), none, some (.int v2)] [.int p4, .int v1] (rp_Md m) := by
        refine vr_ior C nd_Md_alone_37 rfl ?_
        refine vr_is (ls' := [some (.ref 0), some (.int (v1 ||| p4)), some (.int v2)]) C nd_Md_alone_38 rfl rfl ?_
        refine vr_inc (v := (v2 + (1 : Int32))) (ls' := [some (.ref 0), some (.int (v1 ||| p4)), some (.int (v2 + (1 : Int32)))]) C nd_Md_alone_39 rfl rfl rfl rfl rfl ?_
        refine vr_go C nd_Md_alone_42 ?_
        exact (ih _ _ _ h hk)
      clear h
      have h := hP5
      clear hP5
      refine vr_lif_le C nd_Md_alone_26 rfl nd_Md_alone_27 (fun hc => ?_) (fun hc => ?_)
      · have h := no_t hc h
        refine vr_ic C nd_Md_alone_36 ?_
        have h := no_s h
        subst h
        exact vr_wk [1] rfl hj
      · have h := no_f hc h
        refine vr_ic C nd_Md_alone_30 ?_
        refine vr_il C nd_Md_alone_31 rfl ?_
        refine vr_ishl C nd_Md_alone_32 rfl ?_
        refine vr_go C nd_Md_alone_33 ?_
        have h := no_s h
        subst h
        exact vr_wk [1] rfl hj
theorem co_Md_alone (m : MdS) (x : Int32 × MdS) (h : mo_Md_alone m = some x) : nj_Con ny_Md_alone nb_Md_alone 3 (some .int) nr_Md_alone (rp_Md m) [.ref 0] (some (.int (x.1))) (rp_Md (x.2)) := by
  rw [mo_Md_alone] at h
  refine nj_con (by decide) rfl 2 rfl (fun G ad C hq => ?_)
  have C : nj_C G nb_Md_alone 3 "NobodyJoinsModel" nr_Md_alone := C
  show nj_V G ad 0 0 0 [some (.ref 0), none, none] [] (rp_Md m)
  refine vr_al C nd_Md_alone_0 rfl ?_
  obtain ⟨w1, hV2, h⟩ := no_b h
  refine vr_sVv (hp' := (rp_Md w1)) [] [] C nd_Md_alone_1 rfl ml_Md_213 my_Md_layOuts (co_Md_layOuts m w1 hV2) ⟨_, _, _, rfl, rfl, rfl⟩ rfl rfl ⟨rfl, rfl, rfl, rfl⟩ (Nat.zero_le _) (Nat.zero_le _) rfl ?_
  refine vr_ic C nd_Md_alone_4 ?_
  refine vr_is (ls' := [some (.ref 0), some (.int (0 : Int32)), none]) C nd_Md_alone_5 rfl rfl ?_
  refine vr_ic C nd_Md_alone_6 ?_
  refine vr_is (ls' := [some (.ref 0), some (.int (0 : Int32)), some (.int (0 : Int32))]) C nd_Md_alone_7 rfl rfl ?_
  obtain ⟨x6, hX7, h⟩ := no_b h
  refine lw_Md_alone_8 C w1 nj_fu _ _ x6 hX7 ?_
  refine vr_il C nd_Md_alone_45 rfl ?_
  have h := no_s h
  subst h
  exact vr_iret C hq nd_Md_alone_46 rfl
abbrev nr_Md_stands : Room := { frames := 7, cells := 0, slots := 0, locals := 164 }
theorem lw_Md_stands_9 {G : nj_G} {ad : Nat → Nat} (C : nj_C G nb_Md_stands 4 "NobodyJoinsModel" nr_Md_stands)  : ∀ (n : Nat) (m : MdS) (v1 : Int32) (v2 : Int32) (x : MdS × Int32), lo_Md_stands_9  n m v1 v2 = some x → nj_V G ad 0 0 81 [none, some (.int (x.2)), none, none] [] (rp_Md (x.1)) → nj_V G ad 0 0 9 [some (.ref 0), some (.int v1), some (.int v2), none] [] (rp_Md m) := by
  intro n
  induction n with
  | zero => intro m v1 v2 x h; rw [lo_Md_stands_9] at h; cases h
  | succ n ih =>
    intro m v1 v2 x h hk
    rw [lo_Md_stands_9] at h
    refine vr_il C nd_Md_stands_9 rfl ?_
    refine vr_ic C nd_Md_stands_10 ?_
    refine vr_al C nd_Md_stands_11 rfl ?_
    refine vr_get (v := .int (md_children m)) C nd_Md_stands_12 rfl fl_Md_142 (at_Md_0 m) rfl ?_
    refine vr_ishl C nd_Md_stands_15 rfl ?_
    refine vr_cm_ge C nd_Md_stands_16 (fun hc => ?_) (fun hc => ?_)
    · have h := no_t hc h
      have h := no_s h
      subst h
      exact vr_wk [0, 2] rfl hk
    · have h := no_f hc h
      refine vr_al C nd_Md_stands_19 rfl ?_
      refine vr_il C nd_Md_stands_20 rfl ?_
      obtain ⟨w1, hV2, h⟩ := no_b h
      refine vr_sVi (hp' := (rp_Md m)) [.int v2] [] C nd_Md_stands_21 rfl ml_Md_190 my_Md_outs (co_Md_outs m v2 w1 hV2) ⟨_, _, _, rfl, rfl, rfl⟩ rfl rfl ⟨rfl, rfl, rfl, rfl⟩ (Nat.zero_le _) (Nat.zero_le _) rfl ?_
      obtain ⟨p3, hP12, h⟩ := no_b h
      have hj : nj_V G ad 0 0 32 [some (.ref 0), some (.int v1), some (.int v2), none] [.int p3] (rp_Md m) := by
        refine vr_is (ls' := [some (.ref 0), some (.int v1), some (.int v2), some (.int p3)]) C nd_Md_stands_32 rfl rfl ?_
        refine vr_il C nd_Md_stands_33 rfl ?_
        refine vr_il C nd_Md_stands_34 rfl ?_
        obtain ⟨p4, hP11, h⟩ := no_b h
        have hj : nj_V G ad 0 0 43 [some (.ref 0), none, some (.int v2), some (.int p3)] [.int p4, .int v1] (rp_Md m) := by
          refine vr_iadd C nd_Md_stands_43 rfl ?_
          refine vr_is (ls' := [some (.ref 0), some (.int (v1 + p4)), some (.int v2), some (.int p3)]) C nd_Md_stands_44 rfl rfl ?_
          refine vr_al C nd_Md_stands_45 rfl ?_
          refine vr_il C nd_Md_stands_46 rfl ?_
          obtain ⟨p5, hP10, h⟩ := no_b h
          have hj : nj_V G ad 0 0 72 [some (.ref 0), some (.int (v1 + p4)), some (.int v2), none] [.int p5, .ref 0] (rp_Md m) := by
            refine vr_puti (hp' := (rp_Md (ms_asked m p5))) C nd_Md_stands_72 rfl fl_Md_55 (at_Md_0 m) rfl (st_Md_0_7 m p5) ?_
            refine vr_inc (v := (v2 + (1 : Int32))) (ls' := [some (.ref 0), some (.int (v1 + p4)), some (.int (v2 + (1 : Int32))), none]) C nd_Md_stands_75 rfl rfl rfl rfl rfl ?_
            refine vr_go C nd_Md_stands_78 ?_
            exact (ih _ _ _ _ h hk)
          clear h
          have h := hP10
          clear hP10
          refine vr_if_eq C nd_Md_stands_47 (fun hc => ?_) (fun hc => ?_)
          · have h := no_t hc h
            refine vr_al C nd_Md_stands_68 rfl ?_
            refine vr_get (v := .int (md_asked m)) C nd_Md_stands_69 rfl fl_Md_55 (at_Md_0 m) rfl ?_
            have h := no_s h
            subst h
            exact vr_wk [3] rfl hj
          · have h := no_f hc h
            refine vr_il C nd_Md_stands_50 rfl ?_
            obtain ⟨w6, hV7, h⟩ := no_b h
            refine vr_cSip [] [.int v2] [.ref 0] C nd_Md_stands_51 rfl ml_Md_184 my_Md_bits (co_Md_bits v2 w6 hV7) (em_E _) rfl rfl ⟨rfl, rfl, rfl, rfl⟩ (Nat.zero_le _) (Nat.zero_le _) rfl ?_
            refine vr_al C nd_Md_stands_54 rfl ?_
            refine vr_get (v := .int (md_asked m)) C nd_Md_stands_55 rfl fl_Md_55 (at_Md_0 m) rfl ?_
            obtain ⟨w8, hV9, h⟩ := no_b h
            refine vr_cSip [] [.int (md_asked m)] [.int w6, .ref 0] C nd_Md_stands_58 rfl ml_Md_184 my_Md_bits (co_Md_bits (md_asked m) w8 hV9) (em_E _) rfl rfl ⟨rfl, rfl, rfl, rfl⟩ (Nat.zero_le _) (Nat.zero_le _) rfl ?_
            refine vr_cm_le C nd_Md_stands_61 (fun hc => ?_) (fun hc => ?_)
            · have h := no_t hc h
              refine vr_al C nd_Md_stands_68 rfl ?_
              refine vr_get (v := .int (md_asked m)) C nd_Md_stands_69 rfl fl_Md_55 (at_Md_0 m) rfl ?_
              have h := no_s h
              subst h
              exact vr_wk [3] rfl hj
            · have h := no_f hc h
              refine vr_il C nd_Md_stands_64 rfl ?_
              refine vr_go C nd_Md_stands_65 ?_
              have h := no_s h
              subst h
              exact vr_wk [3] rfl hj
        clear h
        have h := hP11
        clear hP11
        refine vr_if_eq C nd_Md_stands_35 (fun hc => ?_) (fun hc => ?_)
        · have h := no_t hc h
          refine vr_ic C nd_Md_stands_42 ?_
          have h := no_s h
          subst h
          exact vr_wk [1] rfl hj
        · have h := no_f hc h
          refine vr_ic C nd_Md_stands_38 ?_
          refine vr_go C nd_Md_stands_39 ?_
          have h := no_s h
          subst h
          exact vr_wk [1] rfl hj
      clear h
      have h := hP12
      clear hP12
      refine vr_if_ne C nd_Md_stands_24 (fun hc => ?_) (fun hc => ?_)
      · have h := no_f hc h
        refine vr_ic C nd_Md_stands_31 ?_
        have h := no_s h
        subst h
        exact hj
      · have h := no_t hc h
        refine vr_ic C nd_Md_stands_27 ?_
        refine vr_go C nd_Md_stands_28 ?_
        have h := no_s h
        subst h
        exact hj
theorem co_Md_stands (m : MdS) (x : Int32 × MdS) (h : mo_Md_stands m = some x) : nj_Con ny_Md_stands nb_Md_stands 4 (some .int) nr_Md_stands (rp_Md m) [.ref 0] (some (.int (x.1))) (rp_Md (x.2)) := by
  rw [mo_Md_stands] at h
  refine nj_con (by decide) rfl 3 rfl (fun G ad C hq => ?_)
  have C : nj_C G nb_Md_stands 4 "NobodyJoinsModel" nr_Md_stands := C
  show nj_V G ad 0 0 0 [some (.ref 0), none, none, none] [] (rp_Md m)
  refine vr_ic C nd_Md_stands_0 ?_
  refine vr_is (ls' := [some (.ref 0), some (.int (0 : Int32)), none, none]) C nd_Md_stands_1 rfl rfl ?_
  refine vr_al C nd_Md_stands_2 rfl ?_
  refine vr_ic C nd_Md_stands_3 ?_
  refine vr_puti (hp' := (rp_Md (ms_asked m (0 : Int32)))) C nd_Md_stands_4 rfl fl_Md_55 (at_Md_0 m) rfl (st_Md_0_7 m (0 : Int32)) ?_
  refine vr_ic C nd_Md_stands_7 ?_
  refine vr_is (ls' := [some (.ref 0), some (.int (0 : Int32)), some (.int (1 : Int32)), none]) C nd_Md_stands_8 rfl rfl ?_
  obtain ⟨x13, hX14, h⟩ := no_b h
  refine lw_Md_stands_9 C  nj_fu _ _ _ x13 hX14 ?_
  refine vr_il C nd_Md_stands_81 rfl ?_
  have h := no_s h
  subst h
  exact vr_iret C hq nd_Md_stands_82 rfl
abbrev nr_Md_noRow : Room := { frames := 1, cells := 0, slots := 0, locals := 21 }
theorem co_Md_noRow (m : MdS) (a1 : Int32) (a2 : Int32) (x : Int32 × MdS) (h : mo_Md_noRow m a1 a2 = some x) : nj_Con ny_Md_noRow nb_Md_noRow 3 (some .int) nr_Md_noRow (rp_Md m) [.ref 0, .int a1, .int a2] (some (.int (x.1))) (rp_Md (x.2)) := by
  rw [mo_Md_noRow] at h
  refine nj_con (by decide) rfl 0 rfl (fun G ad C hq => ?_)
  have C : nj_C G nb_Md_noRow 3 "NobodyJoinsModel" nr_Md_noRow := C
  show nj_V G ad 0 0 0 [some (.ref 0), some (.int a1), some (.int a2)] [] (rp_Md m)
  refine vr_al C nd_Md_noRow_0 rfl ?_
  refine vr_get (v := .int (md_children m)) C nd_Md_noRow_1 rfl fl_Md_142 (at_Md_0 m) rfl ?_
  refine vr_if_ne C nd_Md_noRow_4 (fun hc => ?_) (fun hc => ?_)
  · have h := no_f hc h
    refine vr_al C nd_Md_noRow_12 rfl ?_
    refine vr_get (v := .ref 3) C nd_Md_noRow_13 rfl fl_Md_16 (at_Md_0 m) rfl ?_
    refine vr_il C nd_Md_noRow_16 rfl ?_
    obtain ⟨hN1, h⟩ := no_i h
    refine vr_ialk (j := (nj_n a1)) (f := (md_sizes m)) C nd_Md_noRow_17 rfl (at_Md_3 m) hN1 rfl ?_
    refine vr_if_ge C nd_Md_noRow_18 (fun hc => ?_) (fun hc => ?_)
    · have h := no_t hc h
      refine vr_al C nd_Md_noRow_29 rfl ?_
      refine vr_get (v := .ref 3) C nd_Md_noRow_30 rfl fl_Md_16 (at_Md_0 m) rfl ?_
      refine vr_il C nd_Md_noRow_33 rfl ?_
      obtain ⟨hN2, h⟩ := no_i h
      refine vr_ialk (j := (nj_n a1)) (f := (md_sizes m)) C nd_Md_noRow_34 rfl (at_Md_3 m) hN2 rfl ?_
      refine vr_il C nd_Md_noRow_35 rfl ?_
      refine vr_cm_le C nd_Md_noRow_36 (fun hc => ?_) (fun hc => ?_)
      · have h := no_t hc h
        refine vr_ic C nd_Md_noRow_47 ?_
        have h := no_s h
        subst h
        exact vr_iret C hq nd_Md_noRow_48 rfl
      · have h := no_f hc h
        refine vr_al C nd_Md_noRow_39 rfl ?_
        refine vr_ic C nd_Md_noRow_40 ?_
        obtain ⟨w3, hV4, h⟩ := no_b h
        refine vr_sVi (hp' := (rp_Md (w3.2))) [.int (5 : Int32)] [] C nd_Md_noRow_41 rfl ml_Md_70 my_Md_find (co_Md_find m (5 : Int32) w3 hV4) ⟨_, _, _, rfl, rfl, rfl⟩ rfl rfl ⟨rfl, rfl, rfl, rfl⟩ (Nat.zero_le _) (Nat.zero_le _) rfl ?_
        refine vr_go C nd_Md_noRow_44 ?_
        have h := no_s h
        subst h
        exact vr_iret C hq nd_Md_noRow_48 rfl
    · have h := no_f hc h
      refine vr_al C nd_Md_noRow_21 rfl ?_
      refine vr_ic C nd_Md_noRow_22 ?_
      obtain ⟨w5, hV6, h⟩ := no_b h
      refine vr_sVi (hp' := (rp_Md (w5.2))) [.int (1 : Int32)] [] C nd_Md_noRow_23 rfl ml_Md_70 my_Md_find (co_Md_find m (1 : Int32) w5 hV6) ⟨_, _, _, rfl, rfl, rfl⟩ rfl rfl ⟨rfl, rfl, rfl, rfl⟩ (Nat.zero_le _) (Nat.zero_le _) rfl ?_
      refine vr_go C nd_Md_noRow_26 ?_
      have h := no_s h
      subst h
      exact vr_iret C hq nd_Md_noRow_48 rfl
  · have h := no_t hc h
    refine vr_ic C nd_Md_noRow_7 ?_
    refine vr_go C nd_Md_noRow_9 ?_
    have h := no_s h
    subst h
    exact vr_iret C hq nd_Md_noRow_48 rfl
abbrev nr_Md_run : Room := { frames := 7, cells := 0, slots := 0, locals := 164 }
theorem lw_Md_run_28 {G : nj_G} {ad : Nat → Nat} (C : nj_C G nb_Md_run 6 "NobodyJoinsModel" nr_Md_run) (m : MdS) (f1 : Int32) : ∀ (n : Nat) (v3 : Int32) (v4 : Int32) (x : Int32), lo_Md_run_28 m f1 n v3 v4 = some x → nj_V G ad 0 0 74 [some (.ref 0), some (.int f1), none, some (.int x), none, none] [] (rp_Md m) → nj_V G ad 0 0 28 [some (.ref 0), some (.int f1), none, some (.int v3), some (.int v4), none] [] (rp_Md m) := by
  intro n
  induction n with
  | zero => intro v3 v4 x h; rw [lo_Md_run_28] at h; cases h
  | succ n ih =>
    intro v3 v4 x h hk
    rw [lo_Md_run_28] at h
    refine vr_il C nd_Md_run_28 rfl ?_
    refine vr_al C nd_Md_run_30 rfl ?_
    refine vr_get (v := .ref 3) C nd_Md_run_31 rfl fl_Md_16 (at_Md_0 m) rfl ?_
    refine vr_il C nd_Md_run_34 rfl ?_
    obtain ⟨hN5, h⟩ := no_i h
    refine vr_ialk (j := (nj_n f1)) (f := (md_sizes m)) C nd_Md_run_35 rfl (at_Md_3 m) hN5 rfl ?_
    refine vr_cm_ge C nd_Md_run_36 (fun hc => ?_) (fun hc => ?_)
    · have h := no_t hc h
      have h := no_s h
      subst h
      exact vr_wk [4] rfl hk
    · have h := no_f hc h
      refine vr_il C nd_Md_run_39 rfl ?_
      obtain ⟨p6, hP10, h⟩ := no_b h
      have hj : nj_V G ad 0 0 67 [some (.ref 0), some (.int f1), none, none, some (.int v4), none] [.int p6] (rp_Md m) := by
        refine vr_is (ls' := [some (.ref 0), some (.int f1), none, some (.int p6), some (.int v4), none]) C nd_Md_run_67 rfl rfl ?_
        refine vr_inc (v := (v4 + (1 : Int32))) (ls' := [some (.ref 0), some (.int f1), none, some (.int p6), some (.int (v4 + (1 : Int32))), none]) C nd_Md_run_68 rfl rfl rfl rfl rfl ?_
        refine vr_go C nd_Md_run_71 ?_
        exact (ih _ _ _ h hk)
      clear h
      have h := hP10
      clear hP10
      refine vr_if_eq C nd_Md_run_40 (fun hc => ?_) (fun hc => ?_)
      · have h := no_t hc h
        refine vr_ic C nd_Md_run_66 ?_
        have h := no_s h
        subst h
        exact vr_wk [3] rfl hj
      · have h := no_f hc h
        refine vr_al C nd_Md_run_43 rfl ?_
        refine vr_al C nd_Md_run_44 rfl ?_
        refine vr_get (v := .ref 4) C nd_Md_run_45 rfl fl_Md_19 (at_Md_0 m) rfl ?_
        refine vr_ic C nd_Md_run_48 ?_
        refine vr_il C nd_Md_run_50 rfl ?_
        refine vr_imul C nd_Md_run_51 rfl ?_
        refine vr_il C nd_Md_run_52 rfl ?_
        refine vr_iadd C nd_Md_run_54 rfl ?_
        obtain ⟨hN7, h⟩ := no_i h
        refine vr_ialk (j := (nj_n (((40 : Int32) * f1) + v4))) (f := (md_items m)) C nd_Md_run_55 rfl (at_Md_4 m) hN7 rfl ?_
        obtain ⟨w8, hV9, h⟩ := no_b h
        refine vr_sVi (hp' := (rp_Md m)) [.int ((md_items m) (nj_n (((40 : Int32) * f1) + v4)))] [] C nd_Md_run_56 rfl ml_Md_175 my_Md_isChild (co_Md_isChild m ((md_items m) (nj_n (((40 : Int32) * f1) + v4))) w8 hV9) ⟨_, _, _, rfl, rfl, rfl⟩ rfl rfl ⟨rfl, rfl, rfl, rfl⟩ (Nat.zero_le _) (Nat.zero_le _) rfl ?_
        refine vr_ifb_eq C nd_Md_run_59 (fun hc => ?_) (fun hc => ?_)
        · have h := no_bf hc h
          refine vr_ic C nd_Md_run_66 ?_
          have h := no_s h
          subst h
          exact vr_wk [3] rfl hj
        · have h := no_bt hc h
          refine vr_ic C nd_Md_run_62 ?_
          refine vr_go C nd_Md_run_63 ?_
          have h := no_s h
          subst h
          exact vr_wk [3] rfl hj
theorem lw_Md_run_95 {G : nj_G} {ad : Nat → Nat} (C : nj_C G nb_Md_run 6 "NobodyJoinsModel" nr_Md_run) (m : MdS) (f1 : Int32) : ∀ (n : Nat) (v4 : Int32) (v5 : Int32) (x : Int32 × Int32), lo_Md_run_95 m f1 n v4 v5 = some x → nj_V G ad 0 0 157 [some (.ref 0), none, none, none, some (.int (x.1)), some (.int (x.2))] [] (rp_Md m) → nj_V G ad 0 0 95 [some (.ref 0), some (.int f1), none, none, some (.int v4), some (.int v5)] [] (rp_Md m) := by
  intro n
  induction n with
  | zero => intro v4 v5 x h; rw [lo_Md_run_95] at h; cases h
  | succ n ih =>
    intro v4 v5 x h hk
    rw [lo_Md_run_95] at h
    refine vr_il C nd_Md_run_95 rfl ?_
    refine vr_al C nd_Md_run_97 rfl ?_
    refine vr_get (v := .ref 3) C nd_Md_run_98 rfl fl_Md_16 (at_Md_0 m) rfl ?_
    refine vr_il C nd_Md_run_101 rfl ?_
    obtain ⟨hN13, h⟩ := no_i h
    refine vr_ialk (j := (nj_n f1)) (f := (md_sizes m)) C nd_Md_run_102 rfl (at_Md_3 m) hN13 rfl ?_
    refine vr_cm_ge C nd_Md_run_103 (fun hc => ?_) (fun hc => ?_)
    · have h := no_t hc h
      have h := no_s h
      subst h
      exact vr_wk [1] rfl hk
    · have h := no_f hc h
      refine vr_al C nd_Md_run_106 rfl ?_
      refine vr_il C nd_Md_run_107 rfl ?_
      obtain ⟨w14, hV15, h⟩ := no_b h
      refine vr_sVi (hp' := (rp_Md m)) [.int v4] [] C nd_Md_run_109 rfl ml_Md_190 my_Md_outs (co_Md_outs m v4 w14 hV15) ⟨_, _, _, rfl, rfl, rfl⟩ rfl rfl ⟨rfl, rfl, rfl, rfl⟩ (Nat.zero_le _) (Nat.zero_le _) rfl ?_
      refine vr_al C nd_Md_run_112 rfl ?_
      refine vr_get (v := .ref 4) C nd_Md_run_113 rfl fl_Md_19 (at_Md_0 m) rfl ?_
      refine vr_ic C nd_Md_run_116 ?_
      refine vr_il C nd_Md_run_118 rfl ?_
      refine vr_imul C nd_Md_run_119 rfl ?_
      refine vr_il C nd_Md_run_120 rfl ?_
      refine vr_iadd C nd_Md_run_122 rfl ?_
      obtain ⟨hN16, h⟩ := no_i h
      refine vr_ialk (j := (nj_n (((40 : Int32) * f1) + v5))) (f := (md_items m)) C nd_Md_run_123 rfl (at_Md_4 m) hN16 rfl ?_
      obtain ⟨w17, hV18, h⟩ := no_b h
      refine vr_cSip [] [.int w14, .int ((md_items m) (nj_n (((40 : Int32) * f1) + v5)))] [] C nd_Md_run_124 rfl ml_Md_125 my_Md_has (co_Md_has w14 ((md_items m) (nj_n (((40 : Int32) * f1) + v5))) w17 hV18) (em_E _) rfl rfl ⟨rfl, rfl, rfl, rfl⟩ (Nat.zero_le _) (Nat.zero_le _) rfl ?_
      refine vr_ifb_eq C nd_Md_run_127 (fun hc => ?_) (fun hc => ?_)
      · have h := no_bf hc h
        have h := no_s h
        subst h
        exact vr_wk [1] rfl hk
      · have h := no_bt hc h
        refine vr_il C nd_Md_run_130 rfl ?_
        refine vr_ic C nd_Md_run_132 ?_
        refine vr_al C nd_Md_run_133 rfl ?_
        refine vr_get (v := .ref 4) C nd_Md_run_134 rfl fl_Md_19 (at_Md_0 m) rfl ?_
        refine vr_ic C nd_Md_run_137 ?_
        refine vr_il C nd_Md_run_139 rfl ?_
        refine vr_imul C nd_Md_run_140 rfl ?_
        refine vr_il C nd_Md_run_141 rfl ?_
        refine vr_iadd C nd_Md_run_143 rfl ?_
        obtain ⟨hN19, h⟩ := no_i h
        refine vr_ialk (j := (nj_n (((40 : Int32) * f1) + v5))) (f := (md_items m)) C nd_Md_run_144 rfl (at_Md_4 m) hN19 rfl ?_
        refine vr_ishl C nd_Md_run_145 rfl ?_
        refine vr_ic C nd_Md_run_146 ?_
        refine vr_ixor C nd_Md_run_147 rfl ?_
        refine vr_iand C nd_Md_run_148 rfl ?_
        refine vr_is (ls' := [some (.ref 0), some (.int f1), none, none, some (.int (v4 &&& (((1 : Int32) <<< (((md_items m) (nj_n (((40 : Int32) * f1) + v5))) &&& 31)) ^^^ (-1 : Int32)))), some (.int v5)]) C nd_Md_run_149 rfl rfl ?_
        refine vr_inc (v := (v5 + (1 : Int32))) (ls' := [some (.ref 0), some (.int f1), none, none, some (.int (v4 &&& (((1 : Int32) <<< (((md_items m) (nj_n (((40 : Int32) * f1) + v5))) &&& 31)) ^^^ (-1 : Int32)))), some (.int (v5 + (1 : Int32)))]) C nd_Md_run_151 rfl rfl rfl rfl rfl ?_
        refine vr_go C nd_Md_run_154 ?_
        exact (ih _ _ _ h hk)
theorem co_Md_run (m : MdS) (a1 : Int32) (x : Int32 × MdS) (h : mo_Md_run m a1 = some x) : nj_Con ny_Md_run nb_Md_run 6 (some .int) nr_Md_run (rp_Md m) [.ref 0, .int a1] (some (.int (x.1))) (rp_Md (x.2)) := by
  rw [mo_Md_run] at h
  refine nj_con (by decide) rfl 4 rfl (fun G ad C hq => ?_)
  have C : nj_C G nb_Md_run 6 "NobodyJoinsModel" nr_Md_run := C
  show nj_V G ad 0 0 0 [some (.ref 0), some (.int a1), none, none, none, none] [] (rp_Md m)
  refine vr_il C nd_Md_run_0 rfl ?_
  obtain ⟨w1, hV2, h⟩ := no_b h
  refine vr_cSip [] [.int a1] [] C nd_Md_run_1 rfl ml_Md_66 my_Md_isRow (co_Md_isRow a1 w1 hV2) (em_E _) rfl rfl ⟨rfl, rfl, rfl, rfl⟩ (Nat.zero_le _) (Nat.zero_le _) rfl ?_
  refine vr_ifb_ne C nd_Md_run_4 (fun hc => ?_) (fun hc => ?_)
  · have h := no_bt hc h
    refine vr_al C nd_Md_run_9 rfl ?_
    refine vr_il C nd_Md_run_10 rfl ?_
    refine vr_ic C nd_Md_run_11 ?_
    obtain ⟨w3, hV4, h⟩ := no_b h
    refine vr_sVi (hp' := (rp_Md (w3.2))) [.int a1, .int (6 : Int32)] [] C nd_Md_run_13 rfl ml_Md_223 my_Md_noRow (co_Md_noRow m a1 (6 : Int32) w3 hV4) ⟨_, _, _, rfl, rfl, rfl⟩ rfl rfl ⟨rfl, rfl, rfl, rfl⟩ (Nat.zero_le _) (Nat.zero_le _) rfl ?_
    refine vr_is (ls' := [some (.ref 0), some (.int a1), some (.int (w3.1)), none, none, none]) C nd_Md_run_16 rfl rfl ?_
    refine vr_il C nd_Md_run_17 rfl ?_
    refine vr_if_eq C nd_Md_run_18 (fun hc => ?_) (fun hc => ?_)
    · have h := no_t hc h
      refine vr_ic C nd_Md_run_23 ?_
      refine vr_is (ls' := [some (.ref 0), some (.int a1), some (.int (w3.1)), some (.int (1 : Int32)), none, none]) C nd_Md_run_24 rfl rfl ?_
      refine vr_ic C nd_Md_run_25 ?_
      refine vr_is (ls' := [some (.ref 0), some (.int a1), some (.int (w3.1)), some (.int (1 : Int32)), some (.int (0 : Int32)), none]) C nd_Md_run_26 rfl rfl ?_
      refine vr_wk (ls' := [some (.ref 0), some (.int a1), none, some (.int (1 : Int32)), some (.int (0 : Int32)), none]) [2] rfl ?_
      obtain ⟨x11, hX12, h⟩ := no_b h
      refine lw_Md_run_28 C (w3.2) a1 nj_fu _ _ x11 hX12 ?_
      refine vr_il C nd_Md_run_74 rfl ?_
      refine vr_if_ne C nd_Md_run_75 (fun hc => ?_) (fun hc => ?_)
      · have h := no_f hc h
        refine vr_al C nd_Md_run_84 rfl ?_
        refine vr_get (v := .ref 1) C nd_Md_run_85 rfl fl_Md_7 (at_Md_0 (w3.2)) rfl ?_
        refine vr_ic C nd_Md_run_88 ?_
        refine vr_ialk (j := 1) (f := (md_row (w3.2))) C nd_Md_run_89 rfl (at_Md_1 (w3.2)) (nj_inc rfl) rfl ?_
        refine vr_is (ls' := [some (.ref 0), some (.int a1), none, some (.int x11), some (.int ((md_row (w3.2)) 1)), none]) C nd_Md_run_90 rfl rfl ?_
        refine vr_ic C nd_Md_run_92 ?_
        refine vr_is (ls' := [some (.ref 0), some (.int a1), none, some (.int x11), some (.int ((md_row (w3.2)) 1)), some (.int (0 : Int32))]) C nd_Md_run_93 rfl rfl ?_
        refine vr_wk (ls' := [some (.ref 0), some (.int a1), none, none, some (.int ((md_row (w3.2)) 1)), some (.int (0 : Int32))]) [3] rfl ?_
        obtain ⟨x20, hX21, h⟩ := no_b h
        refine lw_Md_run_95 C (w3.2) a1 nj_fu _ _ x20 hX21 ?_
        refine vr_al C nd_Md_run_157 rfl ?_
        refine vr_il C nd_Md_run_158 rfl ?_
        refine vr_puti (hp' := (rp_Md (ms_asked (w3.2) (x20.1)))) C nd_Md_run_160 rfl fl_Md_55 (at_Md_0 (w3.2)) rfl (st_Md_0_7 (w3.2) (x20.1)) ?_
        refine vr_il C nd_Md_run_163 rfl ?_
        have h := no_s h
        subst h
        exact vr_iret C hq nd_Md_run_165 rfl
      · have h := no_t hc h
        refine vr_al C nd_Md_run_78 rfl ?_
        refine vr_ic C nd_Md_run_79 ?_
        obtain ⟨w22, hV23, h⟩ := no_b h
        refine vr_sVi (hp' := (rp_Md (w22.2))) [.int (3 : Int32)] [] C nd_Md_run_80 rfl ml_Md_70 my_Md_find (co_Md_find (w3.2) (3 : Int32) w22 hV23) ⟨_, _, _, rfl, rfl, rfl⟩ rfl rfl ⟨rfl, rfl, rfl, rfl⟩ (Nat.zero_le _) (Nat.zero_le _) rfl ?_
        have h := no_s h
        subst h
        exact vr_iret C hq nd_Md_run_83 rfl
    · have h := no_f hc h
      refine vr_il C nd_Md_run_21 rfl ?_
      have h := no_s h
      subst h
      exact vr_iret C hq nd_Md_run_22 rfl
  · have h := no_bf hc h
    refine vr_ic C nd_Md_run_7 ?_
    have h := no_s h
    subst h
    exact vr_iret C hq nd_Md_run_8 rfl
abbrev nr_Md_splits : Room := { frames := 7, cells := 0, slots := 0, locals := 164 }
theorem lw_Md_splits_17 {G : nj_G} {ad : Nat → Nat} (C : nj_C G nb_Md_splits 5 "NobodyJoinsModel" nr_Md_splits) (f1 : Int32) : ∀ (n : Nat) (m : MdS) (v2 : Int32) (v3 : Int32) (x : MdS × Int32), lo_Md_splits_17 f1 n m v2 v3 = some x → nj_V G ad 0 0 124 [none, none, some (.int (x.2)), none, none] [] (rp_Md (x.1)) → nj_V G ad 0 0 17 [some (.ref 0), some (.int f1), some (.int v2), some (.int v3), none] [] (rp_Md m) := by
  intro n
  induction n with
  | zero => intro m v2 v3 x h; rw [lo_Md_splits_17] at h; cases h
  | succ n ih =>
    intro m v2 v3 x h hk
    rw [lo_Md_splits_17] at h
    refine vr_il C nd_Md_splits_17 rfl ?_
    refine vr_ic C nd_Md_splits_18 ?_
    refine vr_cm_ge C nd_Md_splits_20 (fun hc => ?_) (fun hc => ?_)
    · have h := no_t hc h
      have h := no_s h
      subst h
      exact vr_wk [0, 1, 3] rfl hk
    · have h := no_f hc h
      refine vr_il C nd_Md_splits_23 rfl ?_
      refine vr_il C nd_Md_splits_24 rfl ?_
      refine vr_ic C nd_Md_splits_25 ?_
      refine vr_ixor C nd_Md_splits_26 rfl ?_
      refine vr_iand C nd_Md_splits_27 rfl ?_
      obtain ⟨p1, hP12, h⟩ := no_b h
      have hj : nj_V G ad 0 0 50 [some (.ref 0), some (.int f1), some (.int v2), some (.int v3), none] [.int p1] (rp_Md m) := by
        refine vr_is (ls' := [some (.ref 0), some (.int f1), some (.int v2), some (.int v3), some (.int p1)]) C nd_Md_splits_50 rfl rfl ?_
        refine vr_il C nd_Md_splits_52 rfl ?_
        obtain ⟨p2, hP11, h⟩ := no_b h
        have hj : nj_V G ad 0 0 82 [some (.ref 0), some (.int f1), some (.int v2), some (.int v3), none] [.int p2] (rp_Md m) := by
          refine vr_is (ls' := [some (.ref 0), some (.int f1), some (.int v2), some (.int v3), some (.int p2)]) C nd_Md_splits_82 rfl rfl ?_
          refine vr_al C nd_Md_splits_84 rfl ?_
          refine vr_il C nd_Md_splits_85 rfl ?_
          obtain ⟨p7, hP10, h⟩ := no_b h
          have hj : nj_V G ad 0 0 102 [some (.ref 0), some (.int f1), some (.int v2), some (.int v3), some (.int p2)] [.int p7, .ref 0] (rp_Md m) := by
            refine vr_puti (hp' := (rp_Md (ms_asked m p7))) C nd_Md_splits_102 rfl fl_Md_55 (at_Md_0 m) rfl (st_Md_0_7 m p7) ?_
            refine vr_il C nd_Md_splits_105 rfl ?_
            refine vr_il C nd_Md_splits_106 rfl ?_
            obtain ⟨p8, hP9, h⟩ := no_b h
            have hj : nj_V G ad 0 0 116 [some (.ref 0), some (.int f1), none, some (.int v3), none] [.int p8, .int v2] (rp_Md (ms_asked m p7)) := by
              refine vr_iadd C nd_Md_splits_116 rfl ?_
              refine vr_is (ls' := [some (.ref 0), some (.int f1), some (.int (v2 + p8)), some (.int v3), none]) C nd_Md_splits_117 rfl rfl ?_
              refine vr_inc (v := (v3 + (1 : Int32))) (ls' := [some (.ref 0), some (.int f1), some (.int (v2 + p8)), some (.int (v3 + (1 : Int32))), none]) C nd_Md_splits_118 rfl rfl rfl rfl rfl ?_
              refine vr_go C nd_Md_splits_121 ?_
              exact (ih _ _ _ _ h hk)
            clear h
            have h := hP9
            clear hP9
            refine vr_if_eq C nd_Md_splits_108 (fun hc => ?_) (fun hc => ?_)
            · have h := no_t hc h
              refine vr_ic C nd_Md_splits_115 ?_
              have h := no_s h
              subst h
              exact vr_wk [2, 4] rfl hj
            · have h := no_f hc h
              refine vr_ic C nd_Md_splits_111 ?_
              refine vr_go C nd_Md_splits_112 ?_
              have h := no_s h
              subst h
              exact vr_wk [2, 4] rfl hj
          clear h
          have h := hP10
          clear hP10
          refine vr_if_eq C nd_Md_splits_87 (fun hc => ?_) (fun hc => ?_)
          · have h := no_t hc h
            refine vr_al C nd_Md_splits_98 rfl ?_
            refine vr_get (v := .int (md_asked m)) C nd_Md_splits_99 rfl fl_Md_55 (at_Md_0 m) rfl ?_
            have h := no_s h
            subst h
            exact hj
          · have h := no_f hc h
            refine vr_il C nd_Md_splits_90 rfl ?_
            refine vr_if_ne C nd_Md_splits_91 (fun hc => ?_) (fun hc => ?_)
            · have h := no_f hc h
              refine vr_al C nd_Md_splits_98 rfl ?_
              refine vr_get (v := .int (md_asked m)) C nd_Md_splits_99 rfl fl_Md_55 (at_Md_0 m) rfl ?_
              have h := no_s h
              subst h
              exact hj
            · have h := no_t hc h
              refine vr_il C nd_Md_splits_94 rfl ?_
              refine vr_go C nd_Md_splits_95 ?_
              have h := no_s h
              subst h
              exact hj
        clear h
        have h := hP11
        clear hP11
        refine vr_if_eq C nd_Md_splits_54 (fun hc => ?_) (fun hc => ?_)
        · have h := no_t hc h
          refine vr_ic C nd_Md_splits_81 ?_
          have h := no_s h
          subst h
          exact vr_wk [4] rfl hj
        · have h := no_f hc h
          refine vr_al C nd_Md_splits_57 rfl ?_
          refine vr_il C nd_Md_splits_58 rfl ?_
          obtain ⟨w3, hV4, h⟩ := no_b h
          refine vr_sVi (hp' := (rp_Md m)) [.int v3] [] C nd_Md_splits_59 rfl ml_Md_190 my_Md_outs (co_Md_outs m v3 w3 hV4) ⟨_, _, _, rfl, rfl, rfl⟩ rfl rfl ⟨rfl, rfl, rfl, rfl⟩ (Nat.zero_le _) (Nat.zero_le _) rfl ?_
          refine vr_if_ne C nd_Md_splits_62 (fun hc => ?_) (fun hc => ?_)
          · have h := no_f hc h
            refine vr_ic C nd_Md_splits_81 ?_
            have h := no_s h
            subst h
            exact vr_wk [4] rfl hj
          · have h := no_t hc h
            refine vr_al C nd_Md_splits_65 rfl ?_
            refine vr_il C nd_Md_splits_66 rfl ?_
            refine vr_il C nd_Md_splits_67 rfl ?_
            refine vr_ic C nd_Md_splits_68 ?_
            refine vr_ixor C nd_Md_splits_69 rfl ?_
            refine vr_iand C nd_Md_splits_70 rfl ?_
            obtain ⟨w5, hV6, h⟩ := no_b h
            refine vr_sVi (hp' := (rp_Md m)) [.int (f1 &&& (v3 ^^^ (-1 : Int32)))] [] C nd_Md_splits_71 rfl ml_Md_190 my_Md_outs (co_Md_outs m (f1 &&& (v3 ^^^ (-1 : Int32))) w5 hV6) ⟨_, _, _, rfl, rfl, rfl⟩ rfl rfl ⟨rfl, rfl, rfl, rfl⟩ (Nat.zero_le _) (Nat.zero_le _) rfl ?_
            refine vr_if_ne C nd_Md_splits_74 (fun hc => ?_) (fun hc => ?_)
            · have h := no_f hc h
              refine vr_ic C nd_Md_splits_81 ?_
              have h := no_s h
              subst h
              exact vr_wk [4] rfl hj
            · have h := no_t hc h
              refine vr_ic C nd_Md_splits_77 ?_
              refine vr_go C nd_Md_splits_78 ?_
              have h := no_s h
              subst h
              exact vr_wk [4] rfl hj
      clear h
      have h := hP12
      clear hP12
      refine vr_if_ne C nd_Md_splits_28 (fun hc => ?_) (fun hc => ?_)
      · have h := no_f hc h
        refine vr_ic C nd_Md_splits_49 ?_
        have h := no_s h
        subst h
        exact hj
      · have h := no_t hc h
        refine vr_il C nd_Md_splits_31 rfl ?_
        refine vr_il C nd_Md_splits_32 rfl ?_
        refine vr_cm_eq C nd_Md_splits_33 (fun hc => ?_) (fun hc => ?_)
        · have h := no_t hc h
          refine vr_ic C nd_Md_splits_49 ?_
          have h := no_s h
          subst h
          exact hj
        · have h := no_f hc h
          refine vr_il C nd_Md_splits_36 rfl ?_
          refine vr_il C nd_Md_splits_37 rfl ?_
          refine vr_iand C nd_Md_splits_38 rfl ?_
          refine vr_il C nd_Md_splits_39 rfl ?_
          refine vr_ineg C nd_Md_splits_40 rfl ?_
          refine vr_iand C nd_Md_splits_41 rfl ?_
          refine vr_if_eq C nd_Md_splits_42 (fun hc => ?_) (fun hc => ?_)
          · have h := no_t hc h
            refine vr_ic C nd_Md_splits_49 ?_
            have h := no_s h
            subst h
            exact hj
          · have h := no_f hc h
            refine vr_ic C nd_Md_splits_45 ?_
            refine vr_go C nd_Md_splits_46 ?_
            have h := no_s h
            subst h
            exact hj
theorem co_Md_splits (m : MdS) (x : Int32 × MdS) (h : mo_Md_splits m = some x) : nj_Con ny_Md_splits nb_Md_splits 5 (some .int) nr_Md_splits (rp_Md m) [.ref 0] (some (.int (x.1))) (rp_Md (x.2)) := by
  rw [mo_Md_splits] at h
  refine nj_con (by decide) rfl 4 rfl (fun G ad C hq => ?_)
  have C : nj_C G nb_Md_splits 5 "NobodyJoinsModel" nr_Md_splits := C
  show nj_V G ad 0 0 0 [some (.ref 0), none, none, none, none] [] (rp_Md m)
  refine vr_al C nd_Md_splits_0 rfl ?_
  refine vr_get (v := .ref 1) C nd_Md_splits_1 rfl fl_Md_7 (at_Md_0 m) rfl ?_
  refine vr_ic C nd_Md_splits_4 ?_
  refine vr_ialk (j := 1) (f := (md_row m)) C nd_Md_splits_5 rfl (at_Md_1 m) (nj_inc rfl) rfl ?_
  refine vr_is (ls' := [some (.ref 0), some (.int ((md_row m) 1)), none, none, none]) C nd_Md_splits_6 rfl rfl ?_
  refine vr_ic C nd_Md_splits_7 ?_
  refine vr_is (ls' := [some (.ref 0), some (.int ((md_row m) 1)), some (.int (0 : Int32)), none, none]) C nd_Md_splits_8 rfl rfl ?_
  refine vr_al C nd_Md_splits_9 rfl ?_
  refine vr_ic C nd_Md_splits_10 ?_
  refine vr_puti (hp' := (rp_Md (ms_asked m (-9 : Int32)))) C nd_Md_splits_12 rfl fl_Md_55 (at_Md_0 m) rfl (st_Md_0_7 m (-9 : Int32)) ?_
  refine vr_ic C nd_Md_splits_15 ?_
  refine vr_is (ls' := [some (.ref 0), some (.int ((md_row m) 1)), some (.int (0 : Int32)), some (.int (1 : Int32)), none]) C nd_Md_splits_16 rfl rfl ?_
  obtain ⟨x13, hX14, h⟩ := no_b h
  refine lw_Md_splits_17 C ((md_row m) 1) nj_fu _ _ _ x13 hX14 ?_
  refine vr_il C nd_Md_splits_124 rfl ?_
  have h := no_s h
  subst h
  exact vr_iret C hq nd_Md_splits_125 rfl
abbrev nr_Md_isGrudge : Room := { frames := 3, cells := 0, slots := 0, locals := 68 }
theorem co_Md_isGrudge (m : MdS) (a1 : Int32) (x : Bool) (h : mo_Md_isGrudge m a1 = some x) : nj_Con ny_Md_isGrudge nb_Md_isGrudge 2 (some .boolean) nr_Md_isGrudge (rp_Md m) [.ref 0, .int a1] (some (.int (nj_b x))) (rp_Md m) := by
  rw [mo_Md_isGrudge] at h
  refine nj_con (by decide) rfl 0 rfl (fun G ad C hq => ?_)
  have C : nj_C G nb_Md_isGrudge 2 "NobodyJoinsModel" nr_Md_isGrudge := C
  show nj_V G ad 0 0 0 [some (.ref 0), some (.int a1)] [] (rp_Md m)
  refine vr_al C nd_Md_isGrudge_0 rfl ?_
  refine vr_il C nd_Md_isGrudge_1 rfl ?_
  refine vr_ic C nd_Md_isGrudge_2 ?_
  refine vr_idiv C nd_Md_isGrudge_4 rfl (by decide) ?_
  refine vr_il C nd_Md_isGrudge_5 rfl ?_
  refine vr_ic C nd_Md_isGrudge_6 ?_
  refine vr_irem C nd_Md_isGrudge_8 rfl (by decide) ?_
  obtain ⟨w1, hV2, h⟩ := no_b h
  refine vr_sVi (hp' := (rp_Md m)) [.int (a1 / (6 : Int32)), .int (nj_rem a1 (6 : Int32))] [] C nd_Md_isGrudge_9 rfl ml_Md_202 my_Md_areTwo (co_Md_areTwo m (a1 / (6 : Int32)) (nj_rem a1 (6 : Int32)) w1 hV2) ⟨_, _, _, rfl, rfl, rfl⟩ rfl rfl ⟨rfl, rfl, rfl, rfl⟩ (Nat.zero_le _) (Nat.zero_le _) rfl ?_
  have h := no_s h
  subst h
  exact vr_zret _ C hq nd_Md_isGrudge_12 rfl
abbrev nr_Md_turnLike : Room := { frames := 0, cells := 0, slots := 0, locals := 0 }
theorem co_Md_turnLike (m : MdS) (a1 : Int32) (x : MdS) (h : mo_Md_turnLike m a1 = some x) : nj_Con ny_Md_turnLike nb_Md_turnLike 2 none nr_Md_turnLike (rp_Md m) [.ref 0, .int a1] none (rp_Md x) := by
  rw [mo_Md_turnLike] at h
  refine nj_con (by decide) rfl 0 rfl (fun G ad C hq => ?_)
  have C : nj_C G nb_Md_turnLike 2 "NobodyJoinsModel" nr_Md_turnLike := C
  show nj_V G ad 0 0 0 [some (.ref 0), some (.int a1)] [] (rp_Md m)
  refine vr_al C nd_Md_turnLike_0 rfl ?_
  refine vr_get (v := .ref 1) C nd_Md_turnLike_1 rfl fl_Md_7 (at_Md_0 m) rfl ?_
  refine vr_ic C nd_Md_turnLike_4 ?_
  refine vr_il C nd_Md_turnLike_6 rfl ?_
  refine vr_ic C nd_Md_turnLike_7 ?_
  refine vr_idiv C nd_Md_turnLike_9 rfl (by decide) ?_
  refine vr_iadd C nd_Md_turnLike_10 rfl ?_
  refine vr_dup2 C nd_Md_turnLike_11 rfl rfl rfl ?_
  obtain ⟨hN1, h⟩ := no_i h
  refine vr_ialk (j := (nj_n ((9 : Int32) + (a1 / (6 : Int32))))) (f := (md_row m)) C nd_Md_turnLike_12 rfl (at_Md_1 m) hN1 rfl ?_
  refine vr_ic C nd_Md_turnLike_13 ?_
  refine vr_il C nd_Md_turnLike_14 rfl ?_
  refine vr_ic C nd_Md_turnLike_15 ?_
  refine vr_irem C nd_Md_turnLike_17 rfl (by decide) ?_
  refine vr_ishl C nd_Md_turnLike_18 rfl ?_
  refine vr_ixor C nd_Md_turnLike_19 rfl ?_
  obtain ⟨hN2, h⟩ := no_i h
  refine vr_iask (j := (nj_n ((9 : Int32) + (a1 / (6 : Int32))))) (f := (md_row m)) (hp' := (rp_Md (ms_row m (upd (md_row m) (nj_n ((9 : Int32) + (a1 / (6 : Int32)))) (((md_row m) (nj_n ((9 : Int32) + (a1 / (6 : Int32))))) ^^^ ((1 : Int32) <<< ((nj_rem a1 (6 : Int32)) &&& 31))))))) C nd_Md_turnLike_20 rfl (at_Md_1 m) hN2 rfl (st_Md_1 m (upd (md_row m) (nj_n ((9 : Int32) + (a1 / (6 : Int32)))) (((md_row m) (nj_n ((9 : Int32) + (a1 / (6 : Int32))))) ^^^ ((1 : Int32) <<< ((nj_rem a1 (6 : Int32)) &&& 31))))) ?_
  have h := no_s h
  subst h
  exact vr_vret C hq nd_Md_turnLike_21 rfl
abbrev nr_Md_peace : Room := { frames := 7, cells := 0, slots := 0, locals := 164 }
theorem lw_Md_peace_79 {G : nj_G} {ad : Nat → Nat} (C : nj_C G nb_Md_peace 5 "NobodyJoinsModel" nr_Md_peace) (f1 : Int32) (f3 : Int32) : ∀ (n : Nat) (m : MdS) (v2 : Int32) (v4 : Int32) (x : MdS × Int32), lo_Md_peace_79 f1 f3 n m v2 v4 = some x → nj_V G ad 0 0 137 [some (.ref 0), some (.int f1), some (.int (x.2)), some (.int f3), none] [] (rp_Md (x.1)) → nj_V G ad 0 0 79 [some (.ref 0), some (.int f1), some (.int v2), some (.int f3), some (.int v4)] [] (rp_Md m) := by
  intro n
  induction n with
  | zero => intro m v2 v4 x h; rw [lo_Md_peace_79] at h; cases h
  | succ n ih =>
    intro m v2 v4 x h hk
    rw [lo_Md_peace_79] at h
    refine vr_il C nd_Md_peace_79 rfl ?_
    refine vr_il C nd_Md_peace_81 rfl ?_
    refine vr_cm_le C nd_Md_peace_82 (fun hc => ?_) (fun hc => ?_)
    · have h := no_t hc h
      have h := no_s h
      subst h
      exact vr_wk [4] rfl hk
    · have h := no_f hc h
      refine vr_al C nd_Md_peace_85 rfl ?_
      refine vr_il C nd_Md_peace_86 rfl ?_
      obtain ⟨w11, hV12, h⟩ := no_b h
      refine vr_sVi (hp' := (rp_Md m)) [.int v4] [] C nd_Md_peace_88 rfl ml_Md_226 my_Md_isGrudge (co_Md_isGrudge m v4 w11 hV12) ⟨_, _, _, rfl, rfl, rfl⟩ rfl rfl ⟨rfl, rfl, rfl, rfl⟩ (Nat.zero_le _) (Nat.zero_le _) rfl ?_
      obtain ⟨p13, hP22, h⟩ := no_b h
      have hj : nj_V G ad 0 0 131 [some (.ref 0), some (.int f1), some (.int (p13.1)), some (.int f3), some (.int v4)] [] (rp_Md (p13.2)) := by
        refine vr_inc (v := (v4 + (-1 : Int32))) (ls' := [some (.ref 0), some (.int f1), some (.int (p13.1)), some (.int f3), some (.int (v4 + (-1 : Int32)))]) C nd_Md_peace_131 rfl rfl rfl rfl rfl ?_
        refine vr_go C nd_Md_peace_134 ?_
        exact (ih _ _ _ _ h hk)
      clear h
      have h := hP22
      clear hP22
      refine vr_ifb_eq C nd_Md_peace_91 (fun hc => ?_) (fun hc => ?_)
      · have h := no_bf hc h
        have h := no_s h
        subst h
        exact hj
      · have h := no_bt hc h
        refine vr_al C nd_Md_peace_94 rfl ?_
        refine vr_il C nd_Md_peace_95 rfl ?_
        obtain ⟨w14, hV15, h⟩ := no_b h
        refine vr_sVv (hp' := (rp_Md w14)) [.int v4] [] C nd_Md_peace_97 rfl ml_Md_229 my_Md_turnLike (co_Md_turnLike m v4 w14 hV15) ⟨_, _, _, rfl, rfl, rfl⟩ rfl rfl ⟨rfl, rfl, rfl, rfl⟩ (Nat.zero_le _) (Nat.zero_le _) rfl ?_
        refine vr_al C nd_Md_peace_100 rfl ?_
        refine vr_al C nd_Md_peace_101 rfl ?_
        refine vr_get (v := .ref 1) C nd_Md_peace_102 rfl fl_Md_7 (at_Md_0 w14) rfl ?_
        refine vr_ic C nd_Md_peace_105 ?_
        refine vr_ialk (j := 1) (f := (md_row w14)) C nd_Md_peace_106 rfl (at_Md_1 w14) (nj_inc rfl) rfl ?_
        obtain ⟨w16, hV17, h⟩ := no_b h
        refine vr_sVi (hp' := (rp_Md w14)) [.int ((md_row w14) 1)] [] C nd_Md_peace_107 rfl ml_Md_190 my_Md_outs (co_Md_outs w14 ((md_row w14) 1) w16 hV17) ⟨_, _, _, rfl, rfl, rfl⟩ rfl rfl ⟨rfl, rfl, rfl, rfl⟩ (Nat.zero_le _) (Nat.zero_le _) rfl ?_
        obtain ⟨p18, hP21, h⟩ := no_b h
        have hj : nj_V G ad 0 0 124 [some (.ref 0), some (.int f1), none, some (.int f3), some (.int v4)] [.int p18] (rp_Md w14) := by
          refine vr_is (ls' := [some (.ref 0), some (.int f1), some (.int p18), some (.int f3), some (.int v4)]) C nd_Md_peace_124 rfl rfl ?_
          refine vr_al C nd_Md_peace_125 rfl ?_
          refine vr_il C nd_Md_peace_126 rfl ?_
          obtain ⟨w19, hV20, h⟩ := no_b h
          refine vr_sVv (hp' := (rp_Md w19)) [.int v4] [] C nd_Md_peace_128 rfl ml_Md_229 my_Md_turnLike (co_Md_turnLike w14 v4 w19 hV20) ⟨_, _, _, rfl, rfl, rfl⟩ rfl rfl ⟨rfl, rfl, rfl, rfl⟩ (Nat.zero_le _) (Nat.zero_le _) rfl ?_
          have h := no_s h
          subst h
          exact hj
        clear h
        have h := hP21
        clear hP21
        refine vr_if_ne C nd_Md_peace_110 (fun hc => ?_) (fun hc => ?_)
        · have h := no_f hc h
          refine vr_il C nd_Md_peace_123 rfl ?_
          have h := no_s h
          subst h
          exact vr_wk [2] rfl hj
        · have h := no_t hc h
          refine vr_ic C nd_Md_peace_113 ?_
          refine vr_il C nd_Md_peace_115 rfl ?_
          refine vr_imul C nd_Md_peace_116 rfl ?_
          refine vr_il C nd_Md_peace_117 rfl ?_
          refine vr_iadd C nd_Md_peace_119 rfl ?_
          refine vr_go C nd_Md_peace_120 ?_
          have h := no_s h
          subst h
          exact vr_wk [2] rfl hj
theorem lw_Md_peace_39 {G : nj_G} {ad : Nat → Nat} (C : nj_C G nb_Md_peace 5 "NobodyJoinsModel" nr_Md_peace)  : ∀ (n : Nat) (m : MdS) (v1 : Int32) (v2 : Int32) (v3 : Int32) (x : MdS × Int32 × Int32), lo_Md_peace_39  n m v1 v2 v3 = some x → nj_V G ad 0 0 148 [some (.ref 0), some (.int (x.2.1)), some (.int (x.2.2)), none, none] [] (rp_Md (x.1)) → nj_V G ad 0 0 39 [some (.ref 0), some (.int v1), some (.int v2), some (.int v3), none] [] (rp_Md m) := by
  intro n
  induction n with
  | zero => intro m v1 v2 v3 x h; rw [lo_Md_peace_39] at h; cases h
  | succ n ih =>
    intro m v1 v2 v3 x h hk
    rw [lo_Md_peace_39] at h
    refine vr_il C nd_Md_peace_39 rfl ?_
    refine vr_if_lt C nd_Md_peace_40 (fun hc => ?_) (fun hc => ?_)
    · have h := no_t hc h
      have h := no_s h
      subst h
      exact vr_wk [3] rfl hk
    · have h := no_f hc h
      refine vr_al C nd_Md_peace_43 rfl ?_
      refine vr_il C nd_Md_peace_44 rfl ?_
      obtain ⟨w3, hV4, h⟩ := no_b h
      refine vr_sVi (hp' := (rp_Md m)) [.int v3] [] C nd_Md_peace_45 rfl ml_Md_226 my_Md_isGrudge (co_Md_isGrudge m v3 w3 hV4) ⟨_, _, _, rfl, rfl, rfl⟩ rfl rfl ⟨rfl, rfl, rfl, rfl⟩ (Nat.zero_le _) (Nat.zero_le _) rfl ?_
      obtain ⟨p5, hP28, h⟩ := no_b h
      have hj : nj_V G ad 0 0 142 [some (.ref 0), some (.int (p5.1)), some (.int (p5.2.1)), some (.int v3), none] [] (rp_Md (p5.2.2)) := by
        refine vr_inc (v := (v3 + (-1 : Int32))) (ls' := [some (.ref 0), some (.int (p5.1)), some (.int (p5.2.1)), some (.int (v3 + (-1 : Int32))), none]) C nd_Md_peace_142 rfl rfl rfl rfl rfl ?_
        refine vr_go C nd_Md_peace_145 ?_
        exact (ih _ _ _ _ _ h hk)
      clear h
      have h := hP28
      clear hP28
      refine vr_ifb_eq C nd_Md_peace_48 (fun hc => ?_) (fun hc => ?_)
      · have h := no_bf hc h
        have h := no_s h
        subst h
        exact hj
      · have h := no_bt hc h
        refine vr_al C nd_Md_peace_51 rfl ?_
        refine vr_il C nd_Md_peace_52 rfl ?_
        obtain ⟨w6, hV7, h⟩ := no_b h
        refine vr_sVv (hp' := (rp_Md w6)) [.int v3] [] C nd_Md_peace_53 rfl ml_Md_229 my_Md_turnLike (co_Md_turnLike m v3 w6 hV7) ⟨_, _, _, rfl, rfl, rfl⟩ rfl rfl ⟨rfl, rfl, rfl, rfl⟩ (Nat.zero_le _) (Nat.zero_le _) rfl ?_
        refine vr_al C nd_Md_peace_56 rfl ?_
        refine vr_al C nd_Md_peace_57 rfl ?_
        refine vr_get (v := .ref 1) C nd_Md_peace_58 rfl fl_Md_7 (at_Md_0 w6) rfl ?_
        refine vr_ic C nd_Md_peace_61 ?_
        refine vr_ialk (j := 1) (f := (md_row w6)) C nd_Md_peace_62 rfl (at_Md_1 w6) (nj_inc rfl) rfl ?_
        obtain ⟨w8, hV9, h⟩ := no_b h
        refine vr_sVi (hp' := (rp_Md w6)) [.int ((md_row w6) 1)] [] C nd_Md_peace_63 rfl ml_Md_190 my_Md_outs (co_Md_outs w6 ((md_row w6) 1) w8 hV9) ⟨_, _, _, rfl, rfl, rfl⟩ rfl rfl ⟨rfl, rfl, rfl, rfl⟩ (Nat.zero_le _) (Nat.zero_le _) rfl ?_
        obtain ⟨p10, hP27, h⟩ := no_b h
        have hj : nj_V G ad 0 0 74 [some (.ref 0), none, some (.int v2), some (.int v3), none] [.int p10] (rp_Md w6) := by
          refine vr_is (ls' := [some (.ref 0), some (.int p10), some (.int v2), some (.int v3), none]) C nd_Md_peace_74 rfl rfl ?_
          refine vr_ic C nd_Md_peace_75 ?_
          refine vr_is (ls' := [some (.ref 0), some (.int p10), some (.int v2), some (.int v3), some (.int (35 : Int32))]) C nd_Md_peace_77 rfl rfl ?_
          obtain ⟨x23, hX24, h⟩ := no_b h
          refine lw_Md_peace_79 C p10 v3 nj_fu _ _ _ x23 hX24 ?_
          refine vr_al C nd_Md_peace_137 rfl ?_
          refine vr_il C nd_Md_peace_138 rfl ?_
          obtain ⟨w25, hV26, h⟩ := no_b h
          refine vr_sVv (hp' := (rp_Md w25)) [.int v3] [] C nd_Md_peace_139 rfl ml_Md_229 my_Md_turnLike (co_Md_turnLike (x23.1) v3 w25 hV26) ⟨_, _, _, rfl, rfl, rfl⟩ rfl rfl ⟨rfl, rfl, rfl, rfl⟩ (Nat.zero_le _) (Nat.zero_le _) rfl ?_
          have h := no_s h
          subst h
          exact hj
        clear h
        have h := hP27
        clear hP27
        refine vr_if_ne C nd_Md_peace_66 (fun hc => ?_) (fun hc => ?_)
        · have h := no_f hc h
          refine vr_il C nd_Md_peace_73 rfl ?_
          have h := no_s h
          subst h
          exact vr_wk [1] rfl hj
        · have h := no_t hc h
          refine vr_il C nd_Md_peace_69 rfl ?_
          refine vr_go C nd_Md_peace_70 ?_
          have h := no_s h
          subst h
          exact vr_wk [1] rfl hj
theorem co_Md_peace (m : MdS) (x : Int32 × MdS) (h : mo_Md_peace m = some x) : nj_Con ny_Md_peace nb_Md_peace 5 (some .int) nr_Md_peace (rp_Md m) [.ref 0] (some (.int (x.1))) (rp_Md (x.2)) := by
  rw [mo_Md_peace] at h
  refine nj_con (by decide) rfl 4 rfl (fun G ad C hq => ?_)
  have C : nj_C G nb_Md_peace 5 "NobodyJoinsModel" nr_Md_peace := C
  show nj_V G ad 0 0 0 [some (.ref 0), none, none, none, none] [] (rp_Md m)
  refine vr_al C nd_Md_peace_0 rfl ?_
  refine vr_get (v := .int (md_children m)) C nd_Md_peace_1 rfl fl_Md_142 (at_Md_0 m) rfl ?_
  refine vr_if_ne C nd_Md_peace_4 (fun hc => ?_) (fun hc => ?_)
  · have h := no_f hc h
    refine vr_al C nd_Md_peace_10 rfl ?_
    refine vr_al C nd_Md_peace_11 rfl ?_
    refine vr_get (v := .ref 1) C nd_Md_peace_12 rfl fl_Md_7 (at_Md_0 m) rfl ?_
    refine vr_ic C nd_Md_peace_15 ?_
    refine vr_ialk (j := 1) (f := (md_row m)) C nd_Md_peace_16 rfl (at_Md_1 m) (nj_inc rfl) rfl ?_
    obtain ⟨w1, hV2, h⟩ := no_b h
    refine vr_sVi (hp' := (rp_Md m)) [.int ((md_row m) 1)] [] C nd_Md_peace_17 rfl ml_Md_190 my_Md_outs (co_Md_outs m ((md_row m) 1) w1 hV2) ⟨_, _, _, rfl, rfl, rfl⟩ rfl rfl ⟨rfl, rfl, rfl, rfl⟩ (Nat.zero_le _) (Nat.zero_le _) rfl ?_
    refine vr_if_ne C nd_Md_peace_20 (fun hc => ?_) (fun hc => ?_)
    · have h := no_f hc h
      refine vr_ic C nd_Md_peace_30 ?_
      refine vr_is (ls' := [some (.ref 0), some (.int (-9 : Int32)), none, none, none]) C nd_Md_peace_32 rfl rfl ?_
      refine vr_ic C nd_Md_peace_33 ?_
      refine vr_is (ls' := [some (.ref 0), some (.int (-9 : Int32)), some (.int (-9 : Int32)), none, none]) C nd_Md_peace_35 rfl rfl ?_
      refine vr_ic C nd_Md_peace_36 ?_
      refine vr_is (ls' := [some (.ref 0), some (.int (-9 : Int32)), some (.int (-9 : Int32)), some (.int (35 : Int32)), none]) C nd_Md_peace_38 rfl rfl ?_
      obtain ⟨x29, hX30, h⟩ := no_b h
      refine lw_Md_peace_39 C  nj_fu _ _ _ _ x29 hX30 ?_
      refine vr_al C nd_Md_peace_148 rfl ?_
      refine vr_il C nd_Md_peace_149 rfl ?_
      refine vr_ic C nd_Md_peace_150 ?_
      obtain ⟨p31, hP32, h⟩ := no_b h
      have hj : nj_V G ad 0 0 173 [none, some (.int (x29.2.1)), some (.int (x29.2.2)), none, none] [.int p31, .ref 0] (rp_Md (x29.1)) := by
        refine vr_puti (hp' := (rp_Md (ms_asked (x29.1) p31))) C nd_Md_peace_173 rfl fl_Md_55 (at_Md_0 (x29.1)) rfl (st_Md_0_7 (x29.1) p31) ?_
        refine vr_il C nd_Md_peace_176 rfl ?_
        refine vr_ic C nd_Md_peace_177 ?_
        refine vr_cm_eq C nd_Md_peace_179 (fun hc => ?_) (fun hc => ?_)
        · have h := no_t hc h
          refine vr_il C nd_Md_peace_186 rfl ?_
          refine vr_ic C nd_Md_peace_187 ?_
          refine vr_cm_eq C nd_Md_peace_189 (fun hc => ?_) (fun hc => ?_)
          · have h := no_t hc h
            refine vr_ic C nd_Md_peace_196 ?_
            have h := no_s h
            subst h
            exact vr_iret C hq nd_Md_peace_198 rfl
          · have h := no_f hc h
            refine vr_ic C nd_Md_peace_192 ?_
            refine vr_go C nd_Md_peace_193 ?_
            have h := no_s h
            subst h
            exact vr_iret C hq nd_Md_peace_198 rfl
        · have h := no_f hc h
          refine vr_ic C nd_Md_peace_182 ?_
          refine vr_go C nd_Md_peace_183 ?_
          have h := no_s h
          subst h
          exact vr_iret C hq nd_Md_peace_198 rfl
      clear h
      have h := hP32
      clear hP32
      refine vr_cm_eq C nd_Md_peace_152 (fun hc => ?_) (fun hc => ?_)
      · have h := no_t hc h
        refine vr_il C nd_Md_peace_159 rfl ?_
        refine vr_ic C nd_Md_peace_160 ?_
        refine vr_cm_eq C nd_Md_peace_162 (fun hc => ?_) (fun hc => ?_)
        · have h := no_t hc h
          refine vr_al C nd_Md_peace_169 rfl ?_
          refine vr_get (v := .int (md_asked (x29.1))) C nd_Md_peace_170 rfl fl_Md_55 (at_Md_0 (x29.1)) rfl ?_
          have h := no_s h
          subst h
          exact vr_wk [0] rfl hj
        · have h := no_f hc h
          refine vr_il C nd_Md_peace_165 rfl ?_
          refine vr_go C nd_Md_peace_166 ?_
          have h := no_s h
          subst h
          exact vr_wk [0] rfl hj
      · have h := no_f hc h
        refine vr_il C nd_Md_peace_155 rfl ?_
        refine vr_go C nd_Md_peace_156 ?_
        have h := no_s h
        subst h
        exact vr_wk [0] rfl hj
    · have h := no_t hc h
      refine vr_al C nd_Md_peace_23 rfl ?_
      refine vr_ic C nd_Md_peace_24 ?_
      refine vr_puti (hp' := (rp_Md (ms_asked m (0 : Int32)))) C nd_Md_peace_25 rfl fl_Md_55 (at_Md_0 m) rfl (st_Md_0_7 m (0 : Int32)) ?_
      refine vr_ic C nd_Md_peace_28 ?_
      have h := no_s h
      subst h
      exact vr_iret C hq nd_Md_peace_29 rfl
  · have h := no_t hc h
    refine vr_ic C nd_Md_peace_7 ?_
    have h := no_s h
    subst h
    exact vr_iret C hq nd_Md_peace_9 rfl
abbrev nr_Md_orders : Room := { frames := 0, cells := 0, slots := 0, locals := 0 }
theorem lw_Md_orders_4 {G : nj_G} {ad : Nat → Nat} (C : nj_C G nb_Md_orders 3 "NobodyJoinsModel" nr_Md_orders) (f0 : Int32) : ∀ (n : Nat) (v1 : Int32) (v2 : Int32) (x : Int32), lo_Md_orders_4 f0 n v1 v2 = some x → nj_V G ad 0 0 19 [none, some (.int x), none] [] [] → nj_V G ad 0 0 4 [some (.int f0), some (.int v1), some (.int v2)] [] [] := by
  intro n
  induction n with
  | zero => intro v1 v2 x h; rw [lo_Md_orders_4] at h; cases h
  | succ n ih =>
    intro v1 v2 x h hk
    rw [lo_Md_orders_4] at h
    refine vr_il C nd_Md_orders_4 rfl ?_
    refine vr_il C nd_Md_orders_5 rfl ?_
    refine vr_cm_gt C nd_Md_orders_6 (fun hc => ?_) (fun hc => ?_)
    · have h := no_t hc h
      have h := no_s h
      subst h
      exact vr_wk [0, 2] rfl hk
    · have h := no_f hc h
      refine vr_il C nd_Md_orders_9 rfl ?_
      refine vr_il C nd_Md_orders_10 rfl ?_
      refine vr_imul C nd_Md_orders_11 rfl ?_
      refine vr_is (ls' := [some (.int f0), some (.int (v1 * v2)), some (.int v2)]) C nd_Md_orders_12 rfl rfl ?_
      refine vr_inc (v := (v2 + (1 : Int32))) (ls' := [some (.int f0), some (.int (v1 * v2)), some (.int (v2 + (1 : Int32)))]) C nd_Md_orders_13 rfl rfl rfl rfl rfl ?_
      refine vr_go C nd_Md_orders_16 ?_
      exact (ih _ _ _ h hk)
theorem co_Md_orders  (a0 : Int32) (x : Int32) (h : mo_Md_orders a0 = some x) : nj_Con ny_Md_orders nb_Md_orders 3 (some .int) nr_Md_orders [] [.int a0] (some (.int x)) [] := by
  rw [mo_Md_orders] at h
  refine nj_con (by decide) rfl 2 rfl (fun G ad C hq => ?_)
  have C : nj_C G nb_Md_orders 3 "NobodyJoinsModel" nr_Md_orders := C
  show nj_V G ad 0 0 0 [some (.int a0), none, none] [] []
  refine vr_ic C nd_Md_orders_0 ?_
  refine vr_is (ls' := [some (.int a0), some (.int (1 : Int32)), none]) C nd_Md_orders_1 rfl rfl ?_
  refine vr_ic C nd_Md_orders_2 ?_
  refine vr_is (ls' := [some (.int a0), some (.int (1 : Int32)), some (.int (2 : Int32))]) C nd_Md_orders_3 rfl rfl ?_
  obtain ⟨x1, hX2, h⟩ := no_b h
  refine lw_Md_orders_4 C a0 nj_fu _ _ x1 hX2 ?_
  refine vr_il C nd_Md_orders_19 rfl ?_
  have h := no_s h
  subst h
  exact vr_iret C hq nd_Md_orders_20 rfl
abbrev nr_Md_tellParts : Room := { frames := 0, cells := 0, slots := 0, locals := 0 }
theorem lw_Md_tellParts_6 {G : nj_G} {ad : Nat → Nat} (C : nj_C G nb_Md_tellParts 11 "NobodyJoinsModel" nr_Md_tellParts) (m : MdS) (f1 : Int64) (f3 : Int64) : ∀ (n : Nat) (v5 : Int64) (v7 : Int64) (x : Int64), lo_Md_tellParts_6 m f1 f3 n v5 v7 = some x → nj_V G ad 0 0 31 [some (.ref 0), some (.long f1), none, some (.long f3), none, some (.long x), none, none, none, none, none] [] (rp_Md m) → nj_V G ad 0 0 6 [some (.ref 0), some (.long f1), none, some (.long f3), none, some (.long v5), none, some (.long v7), none, none, none] [] (rp_Md m) := by
  intro n
  induction n with
  | zero => intro v5 v7 x h; rw [lo_Md_tellParts_6] at h; cases h
  | succ n ih =>
    intro v5 v7 x h hk
    rw [lo_Md_tellParts_6] at h
    refine vr_ll C nd_Md_tellParts_6 rfl ?_
    refine vr_lc (v := (0 : Int64)) C nd_Md_tellParts_8 rfl (by decide) ?_
    refine vr_lif_eq C nd_Md_tellParts_9 rfl nd_Md_tellParts_10 (fun hc => ?_) (fun hc => ?_)
    · have h := no_t hc h
      have h := no_s h
      subst h
      exact vr_wk [7] rfl hk
    · have h := no_f hc h
      refine vr_ll C nd_Md_tellParts_13 rfl ?_
      refine vr_ll C nd_Md_tellParts_15 rfl ?_
      obtain ⟨hN1, h⟩ := no_if h
      refine vr_lrem C nd_Md_tellParts_17 rfl hN1 ?_
      refine vr_lst (ls' := [some (.ref 0), some (.long f1), none, some (.long f3), none, some (.long v5), none, some (.long v7), none, some (.long (nj_rml v5 v7)), none]) C nd_Md_tellParts_18 rfl rfl ?_
      refine vr_ll C nd_Md_tellParts_20 rfl ?_
      refine vr_lst (ls' := [some (.ref 0), some (.long f1), none, some (.long f3), none, some (.long v7), none, some (.long v7), none, some (.long (nj_rml v5 v7)), none]) C nd_Md_tellParts_22 rfl rfl ?_
      refine vr_ll C nd_Md_tellParts_24 rfl ?_
      refine vr_lst (ls' := [some (.ref 0), some (.long f1), none, some (.long f3), none, some (.long v7), none, some (.long (nj_rml v5 v7)), none, some (.long (nj_rml v5 v7)), none]) C nd_Md_tellParts_26 rfl rfl ?_
      refine vr_go C nd_Md_tellParts_28 ?_
      exact vr_wk [9] rfl (ih _ _ _ h hk)
theorem co_Md_tellParts (m : MdS) (a1 : Int64) (a3 : Int64) (x : Int32 × MdS) (h : mo_Md_tellParts m a1 a3 = some x) : nj_Con ny_Md_tellParts nb_Md_tellParts 11 (some .int) nr_Md_tellParts (rp_Md m) [.ref 0, .long a1, .long a3] (some (.int (x.1))) (rp_Md (x.2)) := by
  rw [mo_Md_tellParts] at h
  refine nj_con (by decide) rfl 6 rfl (fun G ad C hq => ?_)
  have C : nj_C G nb_Md_tellParts 11 "NobodyJoinsModel" nr_Md_tellParts := C
  show nj_V G ad 0 0 0 [some (.ref 0), some (.long a1), none, some (.long a3), none, none, none, none, none, none, none] [] (rp_Md m)
  refine vr_ll C nd_Md_tellParts_0 rfl ?_
  refine vr_lst (ls' := [some (.ref 0), some (.long a1), none, some (.long a3), none, some (.long a1), none, none, none, none, none]) C nd_Md_tellParts_1 rfl rfl ?_
  refine vr_ll C nd_Md_tellParts_3 rfl ?_
  refine vr_lst (ls' := [some (.ref 0), some (.long a1), none, some (.long a3), none, some (.long a1), none, some (.long a3), none, none, none]) C nd_Md_tellParts_4 rfl rfl ?_
  obtain ⟨x2, hX3, h⟩ := no_b h
  refine lw_Md_tellParts_6 C m a1 a3 nj_fu _ _ x2 hX3 ?_
  refine vr_al C nd_Md_tellParts_31 rfl ?_
  refine vr_ll C nd_Md_tellParts_32 rfl ?_
  refine vr_ll C nd_Md_tellParts_33 rfl ?_
  obtain ⟨hN4, h⟩ := no_if h
  refine vr_ldiv C nd_Md_tellParts_35 rfl hN4 ?_
  refine vr_putl (hp' := (rp_Md (ms_upper m (a1 / x2)))) C nd_Md_tellParts_36 rfl fl_Md_216 (at_Md_0 m) rfl (st_Md_0_8 m (a1 / x2)) ?_
  refine vr_al C nd_Md_tellParts_39 rfl ?_
  refine vr_ll C nd_Md_tellParts_40 rfl ?_
  refine vr_ll C nd_Md_tellParts_41 rfl ?_
  obtain ⟨hN5, h⟩ := no_if h
  refine vr_ldiv C nd_Md_tellParts_43 rfl hN5 ?_
  refine vr_putl (hp' := (rp_Md (ms_lower (ms_upper m (a1 / x2)) (a3 / x2)))) C nd_Md_tellParts_44 rfl fl_Md_28 (at_Md_0 (ms_upper m (a1 / x2))) rfl (st_Md_0_9 (ms_upper m (a1 / x2)) (a3 / x2)) ?_
  refine vr_ic C nd_Md_tellParts_47 ?_
  have h := no_s h
  subst h
  exact vr_iret C hq nd_Md_tellParts_48 rfl
abbrev nr_Md_power : Room := { frames := 2, cells := 0, slots := 0, locals := 46 }
theorem lw_Md_power_50 {G : nj_G} {ad : Nat → Nat} (C : nj_C G nb_Md_power 9 "NobodyJoinsModel" nr_Md_power) (m : MdS) (f1 : Int32) (f2 : Int32) (f3 : Int32) (f4 : Int32) : ∀ (n : Nat) (v5 : Int64) (v7 : Int32) (x : Int64), lo_Md_power_50 m f1 f2 f3 f4 n v5 v7 = some x → nj_V G ad 0 0 153 [some (.ref 0), none, none, none, some (.int f4), some (.long x), none, none, none] [] (rp_Md m) → nj_V G ad 0 0 50 [some (.ref 0), some (.int f1), some (.int f2), some (.int f3), some (.int f4), some (.long v5), none, some (.int v7), none] [] (rp_Md m) := by
  intro n
  induction n with
  | zero => intro v5 v7 x h; rw [lo_Md_power_50] at h; cases h
  | succ n ih =>
    intro v5 v7 x h hk
    rw [lo_Md_power_50] at h
    refine vr_il C nd_Md_power_50 rfl ?_
    refine vr_ic C nd_Md_power_52 ?_
    refine vr_cm_ge C nd_Md_power_54 (fun hc => ?_) (fun hc => ?_)
    · have h := no_t hc h
      have h := no_s h
      subst h
      exact vr_wk [1, 2, 3, 7] rfl hk
    · have h := no_f hc h
      refine vr_il C nd_Md_power_57 rfl ?_
      refine vr_il C nd_Md_power_59 rfl ?_
      refine vr_ic C nd_Md_power_60 ?_
      refine vr_il C nd_Md_power_61 rfl ?_
      refine vr_ishl C nd_Md_power_62 rfl ?_
      refine vr_ic C nd_Md_power_63 ?_
      refine vr_ixor C nd_Md_power_64 rfl ?_
      refine vr_iand C nd_Md_power_65 rfl ?_
      refine vr_ic C nd_Md_power_66 ?_
      refine vr_ixor C nd_Md_power_67 rfl ?_
      refine vr_iand C nd_Md_power_68 rfl ?_
      obtain ⟨p9, hP26, h⟩ := no_b h
      have hj : nj_V G ad 0 0 107 [some (.ref 0), some (.int f1), some (.int f2), some (.int f3), some (.int f4), some (.long v5), none, some (.int v7), none] [.int p9] (rp_Md m) := by
        refine vr_is (ls' := [some (.ref 0), some (.int f1), some (.int f2), some (.int f3), some (.int f4), some (.long v5), none, some (.int v7), some (.int p9)]) C nd_Md_power_107 rfl rfl ?_
        refine vr_ll C nd_Md_power_109 rfl ?_
        refine vr_il C nd_Md_power_111 rfl ?_
        obtain ⟨p16, hP25, h⟩ := no_b h
        have hj : nj_V G ad 0 0 144 [some (.ref 0), some (.int f1), some (.int f2), some (.int f3), some (.int f4), none, none, some (.int v7), none] [.long p16, .long v5] (rp_Md m) := by
          refine vr_ladd C nd_Md_power_144 rfl ?_
          refine vr_lst (ls' := [some (.ref 0), some (.int f1), some (.int f2), some (.int f3), some (.int f4), some (.long (v5 + p16)), none, some (.int v7), none]) C nd_Md_power_145 rfl rfl ?_
          refine vr_inc (v := (v7 + (1 : Int32))) (ls' := [some (.ref 0), some (.int f1), some (.int f2), some (.int f3), some (.int f4), some (.long (v5 + p16)), none, some (.int (v7 + (1 : Int32))), none]) C nd_Md_power_147 rfl rfl rfl rfl rfl ?_
          refine vr_go C nd_Md_power_150 ?_
          exact (ih _ _ _ h hk)
        clear h
        have h := hP25
        clear hP25
        refine vr_if_eq C nd_Md_power_113 (fun hc => ?_) (fun hc => ?_)
        · have h := no_t hc h
          refine vr_lc (v := (0 : Int64)) C nd_Md_power_143 rfl (by decide) ?_
          have h := no_s h
          subst h
          exact vr_wk [5, 8] rfl hj
        · have h := no_f hc h
          refine vr_il C nd_Md_power_116 rfl ?_
          obtain ⟨w17, hV18, h⟩ := no_b h
          refine vr_cSip [] [.int v7] [.long v5] C nd_Md_power_118 rfl ml_Md_184 my_Md_bits (co_Md_bits v7 w17 hV18) (em_E _) rfl rfl ⟨rfl, rfl, rfl, rfl⟩ (Nat.zero_le _) (Nat.zero_le _) rfl ?_
          obtain ⟨w19, hV20, h⟩ := no_b h
          refine vr_cSip [] [.int w17] [.long v5] C nd_Md_power_121 rfl ml_Md_233 my_Md_orders (co_Md_orders w17 w19 hV20) (em_E _) rfl rfl ⟨rfl, rfl, rfl, rfl⟩ (Nat.zero_le _) (Nat.zero_le _) rfl ?_
          refine vr_i2l C nd_Md_power_124 rfl ?_
          refine vr_il C nd_Md_power_125 rfl ?_
          refine vr_ic C nd_Md_power_127 ?_
          refine vr_isub C nd_Md_power_128 rfl ?_
          refine vr_il C nd_Md_power_129 rfl ?_
          obtain ⟨w21, hV22, h⟩ := no_b h
          refine vr_cSip [] [.int v7] [.int (f4 - (1 : Int32)), .long (Int32.toInt64 w19), .long v5] C nd_Md_power_131 rfl ml_Md_184 my_Md_bits (co_Md_bits v7 w21 hV22) (em_E _) rfl rfl ⟨rfl, rfl, rfl, rfl⟩ (Nat.zero_le _) (Nat.zero_le _) rfl ?_
          refine vr_isub C nd_Md_power_134 rfl ?_
          obtain ⟨w23, hV24, h⟩ := no_b h
          refine vr_cSip [] [.int ((f4 - (1 : Int32)) - w21)] [.long (Int32.toInt64 w19), .long v5] C nd_Md_power_135 rfl ml_Md_233 my_Md_orders (co_Md_orders ((f4 - (1 : Int32)) - w21) w23 hV24) (em_E _) rfl rfl ⟨rfl, rfl, rfl, rfl⟩ (Nat.zero_le _) (Nat.zero_le _) rfl ?_
          refine vr_i2l C nd_Md_power_138 rfl ?_
          refine vr_lmul C nd_Md_power_139 rfl ?_
          refine vr_go C nd_Md_power_140 ?_
          have h := no_s h
          subst h
          exact vr_wk [5, 8] rfl hj
      clear h
      have h := hP26
      clear hP26
      refine vr_if_ne C nd_Md_power_69 (fun hc => ?_) (fun hc => ?_)
      · have h := no_f hc h
        refine vr_ic C nd_Md_power_106 ?_
        have h := no_s h
        subst h
        exact hj
      · have h := no_t hc h
        refine vr_ic C nd_Md_power_72 ?_
        refine vr_al C nd_Md_power_73 rfl ?_
        refine vr_il C nd_Md_power_74 rfl ?_
        obtain ⟨w10, hV11, h⟩ := no_b h
        refine vr_sVi (hp' := (rp_Md m)) [.int v7] [.int (2 : Int32)] C nd_Md_power_76 rfl ml_Md_154 my_Md_votesOf (co_Md_votesOf m v7 w10 hV11) ⟨_, _, _, rfl, rfl, rfl⟩ rfl rfl ⟨rfl, rfl, rfl, rfl⟩ (Nat.zero_le _) (Nat.zero_le _) rfl ?_
        refine vr_imul C nd_Md_power_79 rfl ?_
        refine vr_il C nd_Md_power_80 rfl ?_
        refine vr_cm_gt C nd_Md_power_81 (fun hc => ?_) (fun hc => ?_)
        · have h := no_t hc h
          refine vr_ic C nd_Md_power_106 ?_
          have h := no_s h
          subst h
          exact hj
        · have h := no_f hc h
          refine vr_ic C nd_Md_power_84 ?_
          refine vr_al C nd_Md_power_85 rfl ?_
          refine vr_il C nd_Md_power_86 rfl ?_
          obtain ⟨w12, hV13, h⟩ := no_b h
          refine vr_sVi (hp' := (rp_Md m)) [.int v7] [.int (2 : Int32)] C nd_Md_power_88 rfl ml_Md_154 my_Md_votesOf (co_Md_votesOf m v7 w12 hV13) ⟨_, _, _, rfl, rfl, rfl⟩ rfl rfl ⟨rfl, rfl, rfl, rfl⟩ (Nat.zero_le _) (Nat.zero_le _) rfl ?_
          refine vr_al C nd_Md_power_91 rfl ?_
          refine vr_il C nd_Md_power_92 rfl ?_
          obtain ⟨w14, hV15, h⟩ := no_b h
          refine vr_sVi (hp' := (rp_Md m)) [.int f1] [.int w12, .int (2 : Int32)] C nd_Md_power_93 rfl ml_Md_145 my_Md_votes (co_Md_votes m f1 w14 hV15) ⟨_, _, _, rfl, rfl, rfl⟩ rfl rfl ⟨rfl, rfl, rfl, rfl⟩ (Nat.zero_le _) (Nat.zero_le _) rfl ?_
          refine vr_iadd C nd_Md_power_96 rfl ?_
          refine vr_imul C nd_Md_power_97 rfl ?_
          refine vr_il C nd_Md_power_98 rfl ?_
          refine vr_cm_le C nd_Md_power_99 (fun hc => ?_) (fun hc => ?_)
          · have h := no_t hc h
            refine vr_ic C nd_Md_power_106 ?_
            have h := no_s h
            subst h
            exact hj
          · have h := no_f hc h
            refine vr_ic C nd_Md_power_102 ?_
            refine vr_go C nd_Md_power_103 ?_
            have h := no_s h
            subst h
            exact hj
theorem co_Md_power (m : MdS) (a1 : Int32) (x : Int32 × MdS) (h : mo_Md_power m a1 = some x) : nj_Con ny_Md_power nb_Md_power 9 (some .int) nr_Md_power (rp_Md m) [.ref 0, .int a1] (some (.int (x.1))) (rp_Md (x.2)) := by
  rw [mo_Md_power] at h
  refine nj_con (by decide) rfl 7 rfl (fun G ad C hq => ?_)
  have C : nj_C G nb_Md_power 9 "NobodyJoinsModel" nr_Md_power := C
  show nj_V G ad 0 0 0 [some (.ref 0), some (.int a1), none, none, none, none, none, none, none] [] (rp_Md m)
  refine vr_al C nd_Md_power_0 rfl ?_
  refine vr_il C nd_Md_power_1 rfl ?_
  obtain ⟨w1, hV2, h⟩ := no_b h
  refine vr_sVi (hp' := (rp_Md m)) [.int a1] [] C nd_Md_power_2 rfl ml_Md_175 my_Md_isChild (co_Md_isChild m a1 w1 hV2) ⟨_, _, _, rfl, rfl, rfl⟩ rfl rfl ⟨rfl, rfl, rfl, rfl⟩ (Nat.zero_le _) (Nat.zero_le _) rfl ?_
  refine vr_ifb_ne C nd_Md_power_5 (fun hc => ?_) (fun hc => ?_)
  · have h := no_bt hc h
    refine vr_al C nd_Md_power_10 rfl ?_
    refine vr_get (v := .ref 1) C nd_Md_power_11 rfl fl_Md_7 (at_Md_0 m) rfl ?_
    refine vr_ic C nd_Md_power_14 ?_
    refine vr_ialk (j := 1) (f := (md_row m)) C nd_Md_power_15 rfl (at_Md_1 m) (nj_inc rfl) rfl ?_
    refine vr_is (ls' := [some (.ref 0), some (.int a1), some (.int ((md_row m) 1)), none, none, none, none, none, none]) C nd_Md_power_16 rfl rfl ?_
    refine vr_al C nd_Md_power_17 rfl ?_
    refine vr_il C nd_Md_power_18 rfl ?_
    obtain ⟨w3, hV4, h⟩ := no_b h
    refine vr_sVi (hp' := (rp_Md m)) [.int ((md_row m) 1)] [] C nd_Md_power_19 rfl ml_Md_154 my_Md_votesOf (co_Md_votesOf m ((md_row m) 1) w3 hV4) ⟨_, _, _, rfl, rfl, rfl⟩ rfl rfl ⟨rfl, rfl, rfl, rfl⟩ (Nat.zero_le _) (Nat.zero_le _) rfl ?_
    refine vr_is (ls' := [some (.ref 0), some (.int a1), some (.int ((md_row m) 1)), some (.int w3), none, none, none, none, none]) C nd_Md_power_22 rfl rfl ?_
    refine vr_al C nd_Md_power_23 rfl ?_
    refine vr_il C nd_Md_power_24 rfl ?_
    obtain ⟨w5, hV6, h⟩ := no_b h
    refine vr_sVi (hp' := (rp_Md m)) [.int a1] [] C nd_Md_power_25 rfl ml_Md_169 my_Md_isIn (co_Md_isIn m a1 w5 hV6) ⟨_, _, _, rfl, rfl, rfl⟩ rfl rfl ⟨rfl, rfl, rfl, rfl⟩ (Nat.zero_le _) (Nat.zero_le _) rfl ?_
    refine vr_ifb_eq C nd_Md_power_28 (fun hc => ?_) (fun hc => ?_)
    · have h := no_bf hc h
      refine vr_ic C nd_Md_power_35 ?_
      have h := no_s h
      subst h
      exact vr_iret C hq nd_Md_power_37 rfl
    · have h := no_bt hc h
      refine vr_il C nd_Md_power_31 rfl ?_
      refine vr_if_ne C nd_Md_power_32 (fun hc => ?_) (fun hc => ?_)
      · have h := no_f hc h
        refine vr_il C nd_Md_power_38 rfl ?_
        obtain ⟨w7, hV8, h⟩ := no_b h
        refine vr_cSip [] [.int ((md_row m) 1)] [] C nd_Md_power_39 rfl ml_Md_184 my_Md_bits (co_Md_bits ((md_row m) 1) w7 hV8) (em_E _) rfl rfl ⟨rfl, rfl, rfl, rfl⟩ (Nat.zero_le _) (Nat.zero_le _) rfl ?_
        refine vr_is (ls' := [some (.ref 0), some (.int a1), some (.int ((md_row m) 1)), some (.int w3), some (.int w7), none, none, none, none]) C nd_Md_power_42 rfl rfl ?_
        refine vr_lc (v := (0 : Int64)) C nd_Md_power_44 rfl (by decide) ?_
        refine vr_lst (ls' := [some (.ref 0), some (.int a1), some (.int ((md_row m) 1)), some (.int w3), some (.int w7), some (.long (0 : Int64)), none, none, none]) C nd_Md_power_45 rfl rfl ?_
        refine vr_ic C nd_Md_power_47 ?_
        refine vr_is (ls' := [some (.ref 0), some (.int a1), some (.int ((md_row m) 1)), some (.int w3), some (.int w7), some (.long (0 : Int64)), none, some (.int (0 : Int32)), none]) C nd_Md_power_48 rfl rfl ?_
        obtain ⟨x27, hX28, h⟩ := no_b h
        refine lw_Md_power_50 C m a1 ((md_row m) 1) w3 w7 nj_fu _ _ x27 hX28 ?_
        refine vr_al C nd_Md_power_153 rfl ?_
        refine vr_ll C nd_Md_power_154 rfl ?_
        refine vr_il C nd_Md_power_156 rfl ?_
        obtain ⟨w29, hV30, h⟩ := no_b h
        refine vr_cSip [] [.int w7] [.long x27, .ref 0] C nd_Md_power_158 rfl ml_Md_233 my_Md_orders (co_Md_orders w7 w29 hV30) (em_E _) rfl rfl ⟨rfl, rfl, rfl, rfl⟩ (Nat.zero_le _) (Nat.zero_le _) rfl ?_
        refine vr_i2l C nd_Md_power_161 rfl ?_
        obtain ⟨w31, hV32, h⟩ := no_b h
        refine vr_sVi (hp' := (rp_Md (w31.2))) [.long x27, .long (Int32.toInt64 w29)] [] C nd_Md_power_162 rfl ml_Md_236 my_Md_tellParts (co_Md_tellParts m x27 (Int32.toInt64 w29) w31 hV32) ⟨_, _, _, rfl, rfl, rfl⟩ rfl rfl ⟨rfl, rfl, rfl, rfl⟩ (Nat.zero_le _) (Nat.zero_le _) rfl ?_
        have h := no_s h
        subst h
        exact vr_iret C hq nd_Md_power_165 rfl
      · have h := no_t hc h
        refine vr_ic C nd_Md_power_35 ?_
        have h := no_s h
        subst h
        exact vr_iret C hq nd_Md_power_37 rfl
  · have h := no_bf hc h
    refine vr_ic C nd_Md_power_8 ?_
    have h := no_s h
    subst h
    exact vr_iret C hq nd_Md_power_9 rfl
abbrev nr_Md_shareOf : Room := { frames := 1, cells := 0, slots := 0, locals := 22 }
theorem co_Md_shareOf (m : MdS) (a1 : Int32) (x : Int32) (h : mo_Md_shareOf m a1 = some x) : nj_Con ny_Md_shareOf nb_Md_shareOf 4 (some .int) nr_Md_shareOf (rp_Md m) [.ref 0, .int a1] (some (.int x)) (rp_Md m) := by
  rw [mo_Md_shareOf] at h
  refine nj_con (by decide) rfl 2 rfl (fun G ad C hq => ?_)
  have C : nj_C G nb_Md_shareOf 4 "NobodyJoinsModel" nr_Md_shareOf := C
  show nj_V G ad 0 0 0 [some (.ref 0), some (.int a1), none, none] [] (rp_Md m)
  refine vr_al C nd_Md_shareOf_0 rfl ?_
  refine vr_get (v := .ref 1) C nd_Md_shareOf_1 rfl fl_Md_7 (at_Md_0 m) rfl ?_
  refine vr_ic C nd_Md_shareOf_4 ?_
  refine vr_ialk (j := 1) (f := (md_row m)) C nd_Md_shareOf_5 rfl (at_Md_1 m) (nj_inc rfl) rfl ?_
  obtain ⟨w1, hV2, h⟩ := no_b h
  refine vr_cSip [] [.int ((md_row m) 1)] [] C nd_Md_shareOf_6 rfl ml_Md_184 my_Md_bits (co_Md_bits ((md_row m) 1) w1 hV2) (em_E _) rfl rfl ⟨rfl, rfl, rfl, rfl⟩ (Nat.zero_le _) (Nat.zero_le _) rfl ?_
  refine vr_is (ls' := [some (.ref 0), some (.int a1), some (.int w1), none]) C nd_Md_shareOf_9 rfl rfl ?_
  refine vr_al C nd_Md_shareOf_10 rfl ?_
  refine vr_get (v := .ref 1) C nd_Md_shareOf_11 rfl fl_Md_7 (at_Md_0 m) rfl ?_
  refine vr_ic C nd_Md_shareOf_14 ?_
  refine vr_ialk (j := 1) (f := (md_row m)) C nd_Md_shareOf_15 rfl (at_Md_1 m) (nj_inc rfl) rfl ?_
  refine vr_ic C nd_Md_shareOf_16 ?_
  refine vr_il C nd_Md_shareOf_17 rfl ?_
  refine vr_ishl C nd_Md_shareOf_18 rfl ?_
  refine vr_ic C nd_Md_shareOf_19 ?_
  refine vr_isub C nd_Md_shareOf_20 rfl ?_
  refine vr_iand C nd_Md_shareOf_21 rfl ?_
  obtain ⟨w3, hV4, h⟩ := no_b h
  refine vr_cSip [] [.int (((md_row m) 1) &&& (((1 : Int32) <<< (a1 &&& 31)) - (1 : Int32)))] [] C nd_Md_shareOf_22 rfl ml_Md_184 my_Md_bits (co_Md_bits (((md_row m) 1) &&& (((1 : Int32) <<< (a1 &&& 31)) - (1 : Int32))) w3 hV4) (em_E _) rfl rfl ⟨rfl, rfl, rfl, rfl⟩ (Nat.zero_le _) (Nat.zero_le _) rfl ?_
  refine vr_is (ls' := [some (.ref 0), some (.int a1), some (.int w1), some (.int w3)]) C nd_Md_shareOf_25 rfl rfl ?_
  refine vr_al C nd_Md_shareOf_26 rfl ?_
  refine vr_get (v := .ref 1) C nd_Md_shareOf_27 rfl fl_Md_7 (at_Md_0 m) rfl ?_
  refine vr_ic C nd_Md_shareOf_30 ?_
  refine vr_ialk (j := 2) (f := (md_row m)) C nd_Md_shareOf_31 rfl (at_Md_1 m) (nj_inc rfl) rfl ?_
  refine vr_il C nd_Md_shareOf_32 rfl ?_
  obtain ⟨hN5, h⟩ := no_if h
  refine vr_idiv C nd_Md_shareOf_33 rfl hN5 ?_
  refine vr_il C nd_Md_shareOf_34 rfl ?_
  refine vr_al C nd_Md_shareOf_35 rfl ?_
  refine vr_get (v := .ref 1) C nd_Md_shareOf_36 rfl fl_Md_7 (at_Md_0 m) rfl ?_
  refine vr_ic C nd_Md_shareOf_39 ?_
  refine vr_ialk (j := 2) (f := (md_row m)) C nd_Md_shareOf_40 rfl (at_Md_1 m) (nj_inc rfl) rfl ?_
  refine vr_il C nd_Md_shareOf_41 rfl ?_
  obtain ⟨hN6, h⟩ := no_if h
  refine vr_irem C nd_Md_shareOf_42 rfl hN6 ?_
  obtain ⟨p7, hP8, h⟩ := no_b h
  have hj : nj_V G ad 0 0 51 [none, none, none, none] [.int p7, .int (((md_row m) 2) / w1)] (rp_Md m) := by
    refine vr_iadd C nd_Md_shareOf_51 rfl ?_
    have h := no_s h
    subst h
    exact vr_iret C hq nd_Md_shareOf_52 rfl
  clear h
  have h := hP8
  clear hP8
  refine vr_cm_ge C nd_Md_shareOf_43 (fun hc => ?_) (fun hc => ?_)
  · have h := no_t hc h
    refine vr_ic C nd_Md_shareOf_50 ?_
    have h := no_s h
    subst h
    exact vr_wk [0, 1, 2, 3] rfl hj
  · have h := no_f hc h
    refine vr_ic C nd_Md_shareOf_46 ?_
    refine vr_go C nd_Md_shareOf_47 ?_
    have h := no_s h
    subst h
    exact vr_wk [0, 1, 2, 3] rfl hj
abbrev nr_Md_share : Room := { frames := 3, cells := 0, slots := 0, locals := 67 }
theorem lw_Md_share_40 {G : nj_G} {ad : Nat → Nat} (C : nj_C G nb_Md_share 4 "NobodyJoinsModel" nr_Md_share) (f1 : Int32) (f2 : Int32) : ∀ (n : Nat) (m : MdS) (v3 : Int32) (x : MdS), lo_Md_share_40 f1 f2 n m v3 = some x → nj_V G ad 0 0 80 [some (.ref 0), some (.int f1), none, none] [] (rp_Md x) → nj_V G ad 0 0 40 [some (.ref 0), some (.int f1), some (.int f2), some (.int v3)] [] (rp_Md m) := by
  intro n
  induction n with
  | zero => intro m v3 x h; rw [lo_Md_share_40] at h; cases h
  | succ n ih =>
    intro m v3 x h hk
    rw [lo_Md_share_40] at h
    refine vr_il C nd_Md_share_40 rfl ?_
    refine vr_al C nd_Md_share_41 rfl ?_
    refine vr_get (v := .int (md_children m)) C nd_Md_share_42 rfl fl_Md_142 (at_Md_0 m) rfl ?_
    refine vr_cm_ge C nd_Md_share_45 (fun hc => ?_) (fun hc => ?_)
    · have h := no_t hc h
      have h := no_s h
      subst h
      exact vr_wk [2, 3] rfl hk
    · have h := no_f hc h
      refine vr_al C nd_Md_share_48 rfl ?_
      refine vr_dup C nd_Md_share_49 rfl rfl ?_
      refine vr_get (v := .int (md_asked m)) C nd_Md_share_50 rfl fl_Md_55 (at_Md_0 m) rfl ?_
      refine vr_il C nd_Md_share_53 rfl ?_
      refine vr_il C nd_Md_share_54 rfl ?_
      obtain ⟨w7, hV8, h⟩ := no_b h
      refine vr_cSip [] [.int f2, .int v3] [.int (md_asked m), .ref 0] C nd_Md_share_55 rfl ml_Md_125 my_Md_has (co_Md_has f2 v3 w7 hV8) (em_E _) rfl rfl ⟨rfl, rfl, rfl, rfl⟩ (Nat.zero_le _) (Nat.zero_le _) rfl ?_
      obtain ⟨p9, hP12, h⟩ := no_b h
      have hj : nj_V G ad 0 0 70 [some (.ref 0), some (.int f1), some (.int f2), some (.int v3)] [.int p9, .int (md_asked m), .ref 0] (rp_Md m) := by
        refine vr_iadd C nd_Md_share_70 rfl ?_
        refine vr_puti (hp' := (rp_Md (ms_asked m ((md_asked m) + p9)))) C nd_Md_share_71 rfl fl_Md_55 (at_Md_0 m) rfl (st_Md_0_7 m ((md_asked m) + p9)) ?_
        refine vr_inc (v := (v3 + (1 : Int32))) (ls' := [some (.ref 0), some (.int f1), some (.int f2), some (.int (v3 + (1 : Int32)))]) C nd_Md_share_74 rfl rfl rfl rfl rfl ?_
        refine vr_go C nd_Md_share_77 ?_
        exact (ih _ _ _ h hk)
      clear h
      have h := hP12
      clear hP12
      refine vr_ifb_eq C nd_Md_share_58 (fun hc => ?_) (fun hc => ?_)
      · have h := no_bf hc h
        refine vr_ic C nd_Md_share_69 ?_
        have h := no_s h
        subst h
        exact hj
      · have h := no_bt hc h
        refine vr_al C nd_Md_share_61 rfl ?_
        refine vr_il C nd_Md_share_62 rfl ?_
        obtain ⟨w10, hV11, h⟩ := no_b h
        refine vr_sVi (hp' := (rp_Md m)) [.int v3] [.int (md_asked m), .ref 0] C nd_Md_share_63 rfl ml_Md_240 my_Md_shareOf (co_Md_shareOf m v3 w10 hV11) ⟨_, _, _, rfl, rfl, rfl⟩ rfl rfl ⟨rfl, rfl, rfl, rfl⟩ (Nat.zero_le _) (Nat.zero_le _) rfl ?_
        refine vr_go C nd_Md_share_66 ?_
        have h := no_s h
        subst h
        exact hj
theorem co_Md_share (m : MdS) (a1 : Int32) (x : Int32 × MdS) (h : mo_Md_share m a1 = some x) : nj_Con ny_Md_share nb_Md_share 4 (some .int) nr_Md_share (rp_Md m) [.ref 0, .int a1] (some (.int (x.1))) (rp_Md (x.2)) := by
  rw [mo_Md_share] at h
  refine nj_con (by decide) rfl 2 rfl (fun G ad C hq => ?_)
  have C : nj_C G nb_Md_share 4 "NobodyJoinsModel" nr_Md_share := C
  show nj_V G ad 0 0 0 [some (.ref 0), some (.int a1), none, none] [] (rp_Md m)
  refine vr_al C nd_Md_share_0 rfl ?_
  refine vr_il C nd_Md_share_1 rfl ?_
  obtain ⟨w1, hV2, h⟩ := no_b h
  refine vr_sVi (hp' := (rp_Md m)) [.int a1] [] C nd_Md_share_2 rfl ml_Md_175 my_Md_isChild (co_Md_isChild m a1 w1 hV2) ⟨_, _, _, rfl, rfl, rfl⟩ rfl rfl ⟨rfl, rfl, rfl, rfl⟩ (Nat.zero_le _) (Nat.zero_le _) rfl ?_
  refine vr_ifb_ne C nd_Md_share_5 (fun hc => ?_) (fun hc => ?_)
  · have h := no_bt hc h
    refine vr_al C nd_Md_share_10 rfl ?_
    refine vr_il C nd_Md_share_11 rfl ?_
    obtain ⟨w3, hV4, h⟩ := no_b h
    refine vr_sVi (hp' := (rp_Md m)) [.int a1] [] C nd_Md_share_12 rfl ml_Md_169 my_Md_isIn (co_Md_isIn m a1 w3 hV4) ⟨_, _, _, rfl, rfl, rfl⟩ rfl rfl ⟨rfl, rfl, rfl, rfl⟩ (Nat.zero_le _) (Nat.zero_le _) rfl ?_
    refine vr_ifb_ne C nd_Md_share_15 (fun hc => ?_) (fun hc => ?_)
    · have h := no_bt hc h
      refine vr_al C nd_Md_share_21 rfl ?_
      refine vr_il C nd_Md_share_22 rfl ?_
      refine vr_al C nd_Md_share_23 rfl ?_
      refine vr_get (v := .ref 1) C nd_Md_share_24 rfl fl_Md_7 (at_Md_0 m) rfl ?_
      refine vr_ic C nd_Md_share_27 ?_
      refine vr_ialk (j := 1) (f := (md_row m)) C nd_Md_share_28 rfl (at_Md_1 m) (nj_inc rfl) rfl ?_
      obtain ⟨w5, hV6, h⟩ := no_b h
      refine vr_sVi (hp' := (rp_Md m)) [.int a1, .int ((md_row m) 1)] [] C nd_Md_share_29 rfl ml_Md_151 my_Md_liking (co_Md_liking m a1 ((md_row m) 1) w5 hV6) ⟨_, _, _, rfl, rfl, rfl⟩ rfl rfl ⟨rfl, rfl, rfl, rfl⟩ (Nat.zero_le _) (Nat.zero_le _) rfl ?_
      refine vr_is (ls' := [some (.ref 0), some (.int a1), some (.int w5), none]) C nd_Md_share_32 rfl rfl ?_
      refine vr_al C nd_Md_share_33 rfl ?_
      refine vr_ic C nd_Md_share_34 ?_
      refine vr_puti (hp' := (rp_Md (ms_asked m (0 : Int32)))) C nd_Md_share_35 rfl fl_Md_55 (at_Md_0 m) rfl (st_Md_0_7 m (0 : Int32)) ?_
      refine vr_ic C nd_Md_share_38 ?_
      refine vr_is (ls' := [some (.ref 0), some (.int a1), some (.int w5), some (.int (0 : Int32))]) C nd_Md_share_39 rfl rfl ?_
      obtain ⟨x13, hX14, h⟩ := no_b h
      refine lw_Md_share_40 C a1 w5 nj_fu _ _ x13 hX14 ?_
      refine vr_al C nd_Md_share_80 rfl ?_
      refine vr_il C nd_Md_share_81 rfl ?_
      obtain ⟨w15, hV16, h⟩ := no_b h
      refine vr_sVi (hp' := (rp_Md x13)) [.int a1] [] C nd_Md_share_82 rfl ml_Md_240 my_Md_shareOf (co_Md_shareOf x13 a1 w15 hV16) ⟨_, _, _, rfl, rfl, rfl⟩ rfl rfl ⟨rfl, rfl, rfl, rfl⟩ (Nat.zero_le _) (Nat.zero_le _) rfl ?_
      have h := no_s h
      subst h
      exact vr_iret C hq nd_Md_share_85 rfl
    · have h := no_bf hc h
      refine vr_ic C nd_Md_share_18 ?_
      have h := no_s h
      subst h
      exact vr_iret C hq nd_Md_share_20 rfl
  · have h := no_bf hc h
    refine vr_ic C nd_Md_share_8 ?_
    have h := no_s h
    subst h
    exact vr_iret C hq nd_Md_share_9 rfl
abbrev nr_Md_secrets : Room := { frames := 1, cells := 0, slots := 0, locals := 22 }
theorem lw_Md_secrets_14 {G : nj_G} {ad : Nat → Nat} (C : nj_C G nb_Md_secrets 2 "NobodyJoinsModel" nr_Md_secrets) (m : MdS) : ∀ (n : Nat) (v1 : Int32) (x : Int32), lo_Md_secrets_14 m n v1 = some x → nj_V G ad 0 0 35 [none, some (.int x)] [] (rp_Md m) → nj_V G ad 0 0 14 [some (.ref 0), some (.int v1)] [] (rp_Md m) := by
  intro n
  induction n with
  | zero => intro v1 x h; rw [lo_Md_secrets_14] at h; cases h
  | succ n ih =>
    intro v1 x h hk
    rw [lo_Md_secrets_14] at h
    refine vr_ic C nd_Md_secrets_14 ?_
    refine vr_il C nd_Md_secrets_15 rfl ?_
    refine vr_ishl C nd_Md_secrets_16 rfl ?_
    refine vr_al C nd_Md_secrets_17 rfl ?_
    refine vr_get (v := .ref 1) C nd_Md_secrets_18 rfl fl_Md_7 (at_Md_0 m) rfl ?_
    refine vr_ic C nd_Md_secrets_21 ?_
    refine vr_ialk (j := 1) (f := (md_row m)) C nd_Md_secrets_22 rfl (at_Md_1 m) (nj_inc rfl) rfl ?_
    obtain ⟨w1, hV2, h⟩ := no_b h
    refine vr_cSip [] [.int ((md_row m) 1)] [.int ((1 : Int32) <<< (v1 &&& 31))] C nd_Md_secrets_23 rfl ml_Md_184 my_Md_bits (co_Md_bits ((md_row m) 1) w1 hV2) (em_E _) rfl rfl ⟨rfl, rfl, rfl, rfl⟩ (Nat.zero_le _) (Nat.zero_le _) rfl ?_
    refine vr_cm_ge C nd_Md_secrets_26 (fun hc => ?_) (fun hc => ?_)
    · have h := no_t hc h
      have h := no_s h
      subst h
      exact vr_wk [0] rfl hk
    · have h := no_f hc h
      refine vr_inc (v := (v1 + (1 : Int32))) (ls' := [some (.ref 0), some (.int (v1 + (1 : Int32)))]) C nd_Md_secrets_29 rfl rfl rfl rfl rfl ?_
      refine vr_go C nd_Md_secrets_32 ?_
      exact (ih _ _ h hk)
theorem co_Md_secrets (m : MdS) (x : Int32) (h : mo_Md_secrets m = some x) : nj_Con ny_Md_secrets nb_Md_secrets 2 (some .int) nr_Md_secrets (rp_Md m) [.ref 0] (some (.int x)) (rp_Md m) := by
  rw [mo_Md_secrets] at h
  refine nj_con (by decide) rfl 1 rfl (fun G ad C hq => ?_)
  have C : nj_C G nb_Md_secrets 2 "NobodyJoinsModel" nr_Md_secrets := C
  show nj_V G ad 0 0 0 [some (.ref 0), none] [] (rp_Md m)
  refine vr_al C nd_Md_secrets_0 rfl ?_
  refine vr_get (v := .ref 1) C nd_Md_secrets_1 rfl fl_Md_7 (at_Md_0 m) rfl ?_
  refine vr_ic C nd_Md_secrets_4 ?_
  refine vr_ialk (j := 1) (f := (md_row m)) C nd_Md_secrets_5 rfl (at_Md_1 m) (nj_inc rfl) rfl ?_
  refine vr_if_ne C nd_Md_secrets_6 (fun hc => ?_) (fun hc => ?_)
  · have h := no_f hc h
    refine vr_ic C nd_Md_secrets_12 ?_
    refine vr_is (ls' := [some (.ref 0), some (.int (0 : Int32))]) C nd_Md_secrets_13 rfl rfl ?_
    obtain ⟨x3, hX4, h⟩ := no_b h
    refine lw_Md_secrets_14 C m nj_fu _ x3 hX4 ?_
    refine vr_il C nd_Md_secrets_35 rfl ?_
    have h := no_s h
    subst h
    exact vr_iret C hq nd_Md_secrets_36 rfl
  · have h := no_t hc h
    refine vr_ic C nd_Md_secrets_9 ?_
    have h := no_s h
    subst h
    exact vr_iret C hq nd_Md_secrets_11 rfl
abbrev nr_Md_told : Room := { frames := 2, cells := 0, slots := 0, locals := 45 }
theorem lw_Md_told_56 {G : nj_G} {ad : Nat → Nat} (C : nj_C G nb_Md_told 6 "NobodyJoinsModel" nr_Md_told) (m : MdS) (f1 : Int32) : ∀ (n : Nat) (v3 : Int32) (v4 : Int32) (v5 : Int32) (x : Int32 × Int32), lo_Md_told_56 m f1 n v3 v4 v5 = some x → nj_V G ad 0 0 167 [some (.ref 0), none, none, some (.int (x.1)), some (.int (x.2)), none] [] (rp_Md m) → nj_V G ad 0 0 56 [some (.ref 0), some (.int f1), none, some (.int v3), some (.int v4), some (.int v5)] [] (rp_Md m) := by
  intro n
  induction n with
  | zero => intro v3 v4 v5 x h; rw [lo_Md_told_56] at h; cases h
  | succ n ih =>
    intro v3 v4 v5 x h hk
    rw [lo_Md_told_56] at h
    refine vr_il C nd_Md_told_56 rfl ?_
    refine vr_ic C nd_Md_told_58 ?_
    refine vr_il C nd_Md_told_60 rfl ?_
    refine vr_imul C nd_Md_told_61 rfl ?_
    refine vr_al C nd_Md_told_62 rfl ?_
    refine vr_get (v := .ref 3) C nd_Md_told_63 rfl fl_Md_16 (at_Md_0 m) rfl ?_
    refine vr_il C nd_Md_told_66 rfl ?_
    obtain ⟨hN6, h⟩ := no_i h
    refine vr_ialk (j := (nj_n f1)) (f := (md_sizes m)) C nd_Md_told_67 rfl (at_Md_3 m) hN6 rfl ?_
    refine vr_iadd C nd_Md_told_68 rfl ?_
    refine vr_cm_ge C nd_Md_told_69 (fun hc => ?_) (fun hc => ?_)
    · have h := no_t hc h
      have h := no_s h
      subst h
      exact vr_wk [1, 5] rfl hk
    · have h := no_f hc h
      refine vr_il C nd_Md_told_72 rfl ?_
      obtain ⟨p7, hP19, h⟩ := no_b h
      have hj : nj_V G ad 0 0 123 [some (.ref 0), some (.int f1), none, none, some (.int v4), some (.int v5)] [.int p7] (rp_Md m) := by
        refine vr_is (ls' := [some (.ref 0), some (.int f1), none, some (.int p7), some (.int v4), some (.int v5)]) C nd_Md_told_123 rfl rfl ?_
        refine vr_il C nd_Md_told_124 rfl ?_
        refine vr_al C nd_Md_told_126 rfl ?_
        refine vr_get (v := .ref 4) C nd_Md_told_127 rfl fl_Md_19 (at_Md_0 m) rfl ?_
        refine vr_il C nd_Md_told_130 rfl ?_
        refine vr_ic C nd_Md_told_132 ?_
        refine vr_iadd C nd_Md_told_133 rfl ?_
        obtain ⟨hN14, h⟩ := no_i h
        refine vr_ialk (j := (nj_n (v5 + (1 : Int32)))) (f := (md_items m)) C nd_Md_told_134 rfl (at_Md_4 m) hN14 rfl ?_
        refine vr_ic C nd_Md_told_135 ?_
        obtain ⟨p15, hP18, h⟩ := no_b h
        have hj : nj_V G ad 0 0 158 [some (.ref 0), some (.int f1), none, some (.int p7), none, some (.int v5)] [.int p15, .int v4] (rp_Md m) := by
          refine vr_iand C nd_Md_told_158 rfl ?_
          refine vr_is (ls' := [some (.ref 0), some (.int f1), none, some (.int p7), some (.int (v4 &&& p15)), some (.int v5)]) C nd_Md_told_159 rfl rfl ?_
          refine vr_inc (v := (v5 + (2 : Int32))) (ls' := [some (.ref 0), some (.int f1), none, some (.int p7), some (.int (v4 &&& p15)), some (.int (v5 + (2 : Int32)))]) C nd_Md_told_161 rfl rfl rfl rfl rfl ?_
          refine vr_go C nd_Md_told_164 ?_
          exact (ih _ _ _ _ h hk)
        clear h
        have h := hP18
        clear hP18
        refine vr_cm_ne C nd_Md_told_136 (fun hc => ?_) (fun hc => ?_)
        · have h := no_f hc h
          refine vr_al C nd_Md_told_149 rfl ?_
          refine vr_get (v := .ref 4) C nd_Md_told_150 rfl fl_Md_19 (at_Md_0 m) rfl ?_
          refine vr_il C nd_Md_told_153 rfl ?_
          obtain ⟨hN16, h⟩ := no_i h
          refine vr_ialk (j := (nj_n v5)) (f := (md_items m)) C nd_Md_told_155 rfl (at_Md_4 m) hN16 rfl ?_
          refine vr_ic C nd_Md_told_156 ?_
          refine vr_ixor C nd_Md_told_157 rfl ?_
          have h := no_s h
          subst h
          exact vr_wk [4] rfl hj
        · have h := no_t hc h
          refine vr_al C nd_Md_told_139 rfl ?_
          refine vr_get (v := .ref 4) C nd_Md_told_140 rfl fl_Md_19 (at_Md_0 m) rfl ?_
          refine vr_il C nd_Md_told_143 rfl ?_
          obtain ⟨hN17, h⟩ := no_i h
          refine vr_ialk (j := (nj_n v5)) (f := (md_items m)) C nd_Md_told_145 rfl (at_Md_4 m) hN17 rfl ?_
          refine vr_go C nd_Md_told_146 ?_
          have h := no_s h
          subst h
          exact vr_wk [4] rfl hj
      clear h
      have h := hP19
      clear hP19
      refine vr_if_eq C nd_Md_told_73 (fun hc => ?_) (fun hc => ?_)
      · have h := no_t hc h
        refine vr_ic C nd_Md_told_122 ?_
        have h := no_s h
        subst h
        exact vr_wk [3] rfl hj
      · have h := no_f hc h
        refine vr_al C nd_Md_told_76 rfl ?_
        refine vr_get (v := .ref 4) C nd_Md_told_77 rfl fl_Md_19 (at_Md_0 m) rfl ?_
        refine vr_il C nd_Md_told_80 rfl ?_
        obtain ⟨hN8, h⟩ := no_i h
        refine vr_ialk (j := (nj_n v5)) (f := (md_items m)) C nd_Md_told_82 rfl (at_Md_4 m) hN8 rfl ?_
        refine vr_i2l C nd_Md_told_83 rfl ?_
        refine vr_lc (v := (0 : Int64)) C nd_Md_told_84 rfl (by decide) ?_
        refine vr_ic C nd_Md_told_85 ?_
        refine vr_al C nd_Md_told_86 rfl ?_
        refine vr_get (v := .int (md_children m)) C nd_Md_told_87 rfl fl_Md_142 (at_Md_0 m) rfl ?_
        refine vr_ishl C nd_Md_told_90 rfl ?_
        refine vr_ic C nd_Md_told_91 ?_
        refine vr_isub C nd_Md_told_92 rfl ?_
        refine vr_i2l C nd_Md_told_93 rfl ?_
        obtain ⟨w9, hV10, h⟩ := no_b h
        refine vr_cSip [] [.long (Int32.toInt64 ((md_items m) (nj_n v5))), .long (0 : Int64), .long (Int32.toInt64 (((1 : Int32) <<< ((md_children m) &&& 31)) - (1 : Int32)))] [] C nd_Md_told_94 rfl ml_Md_60 my_Md_in (co_Md_in (Int32.toInt64 ((md_items m) (nj_n v5))) (0 : Int64) (Int32.toInt64 (((1 : Int32) <<< ((md_children m) &&& 31)) - (1 : Int32))) w9 hV10) (em_E _) rfl rfl ⟨rfl, rfl, rfl, rfl⟩ (Nat.zero_le _) (Nat.zero_le _) rfl ?_
        refine vr_ifb_eq C nd_Md_told_97 (fun hc => ?_) (fun hc => ?_)
        · have h := no_bf hc h
          refine vr_ic C nd_Md_told_122 ?_
          have h := no_s h
          subst h
          exact vr_wk [3] rfl hj
        · have h := no_bt hc h
          refine vr_al C nd_Md_told_100 rfl ?_
          refine vr_get (v := .ref 4) C nd_Md_told_101 rfl fl_Md_19 (at_Md_0 m) rfl ?_
          refine vr_il C nd_Md_told_104 rfl ?_
          refine vr_ic C nd_Md_told_106 ?_
          refine vr_iadd C nd_Md_told_107 rfl ?_
          obtain ⟨hN11, h⟩ := no_i h
          refine vr_ialk (j := (nj_n (v5 + (1 : Int32)))) (f := (md_items m)) C nd_Md_told_108 rfl (at_Md_4 m) hN11 rfl ?_
          refine vr_i2l C nd_Md_told_109 rfl ?_
          refine vr_lc (v := (0 : Int64)) C nd_Md_told_110 rfl (by decide) ?_
          refine vr_lc (v := (1 : Int64)) C nd_Md_told_111 rfl (by decide) ?_
          obtain ⟨w12, hV13, h⟩ := no_b h
          refine vr_cSip [] [.long (Int32.toInt64 ((md_items m) (nj_n (v5 + (1 : Int32))))), .long (0 : Int64), .long (1 : Int64)] [] C nd_Md_told_112 rfl ml_Md_60 my_Md_in (co_Md_in (Int32.toInt64 ((md_items m) (nj_n (v5 + (1 : Int32))))) (0 : Int64) (1 : Int64) w12 hV13) (em_E _) rfl rfl ⟨rfl, rfl, rfl, rfl⟩ (Nat.zero_le _) (Nat.zero_le _) rfl ?_
          refine vr_ifb_eq C nd_Md_told_115 (fun hc => ?_) (fun hc => ?_)
          · have h := no_bf hc h
            refine vr_ic C nd_Md_told_122 ?_
            have h := no_s h
            subst h
            exact vr_wk [3] rfl hj
          · have h := no_bt hc h
            refine vr_ic C nd_Md_told_118 ?_
            refine vr_go C nd_Md_told_119 ?_
            have h := no_s h
            subst h
            exact vr_wk [3] rfl hj
theorem co_Md_told (m : MdS) (a1 : Int32) (x : Int32 × MdS) (h : mo_Md_told m a1 = some x) : nj_Con ny_Md_told nb_Md_told 6 (some .int) nr_Md_told (rp_Md m) [.ref 0, .int a1] (some (.int (x.1))) (rp_Md (x.2)) := by
  rw [mo_Md_told] at h
  refine nj_con (by decide) rfl 4 rfl (fun G ad C hq => ?_)
  have C : nj_C G nb_Md_told 6 "NobodyJoinsModel" nr_Md_told := C
  show nj_V G ad 0 0 0 [some (.ref 0), some (.int a1), none, none, none, none] [] (rp_Md m)
  refine vr_il C nd_Md_told_0 rfl ?_
  obtain ⟨w1, hV2, h⟩ := no_b h
  refine vr_cSip [] [.int a1] [] C nd_Md_told_1 rfl ml_Md_66 my_Md_isRow (co_Md_isRow a1 w1 hV2) (em_E _) rfl rfl ⟨rfl, rfl, rfl, rfl⟩ (Nat.zero_le _) (Nat.zero_le _) rfl ?_
  refine vr_ifb_ne C nd_Md_told_4 (fun hc => ?_) (fun hc => ?_)
  · have h := no_bt hc h
    refine vr_al C nd_Md_told_9 rfl ?_
    refine vr_il C nd_Md_told_10 rfl ?_
    refine vr_ic C nd_Md_told_11 ?_
    obtain ⟨w3, hV4, h⟩ := no_b h
    refine vr_sVi (hp' := (rp_Md (w3.2))) [.int a1, .int (40 : Int32)] [] C nd_Md_told_13 rfl ml_Md_223 my_Md_noRow (co_Md_noRow m a1 (40 : Int32) w3 hV4) ⟨_, _, _, rfl, rfl, rfl⟩ rfl rfl ⟨rfl, rfl, rfl, rfl⟩ (Nat.zero_le _) (Nat.zero_le _) rfl ?_
    refine vr_is (ls' := [some (.ref 0), some (.int a1), some (.int (w3.1)), none, none, none]) C nd_Md_told_16 rfl rfl ?_
    refine vr_il C nd_Md_told_17 rfl ?_
    refine vr_if_eq C nd_Md_told_18 (fun hc => ?_) (fun hc => ?_)
    · have h := no_t hc h
      refine vr_al C nd_Md_told_23 rfl ?_
      refine vr_get (v := .ref 3) C nd_Md_told_24 rfl fl_Md_16 (at_Md_0 (w3.2)) rfl ?_
      refine vr_il C nd_Md_told_27 rfl ?_
      obtain ⟨hN5, h⟩ := no_i h
      refine vr_ialk (j := (nj_n a1)) (f := (md_sizes (w3.2))) C nd_Md_told_28 rfl (at_Md_3 (w3.2)) hN5 rfl ?_
      refine vr_ic C nd_Md_told_29 ?_
      refine vr_irem C nd_Md_told_30 rfl (by decide) ?_
      refine vr_if_eq C nd_Md_told_31 (fun hc => ?_) (fun hc => ?_)
      · have h := no_t hc h
        refine vr_ic C nd_Md_told_40 ?_
        refine vr_is (ls' := [some (.ref 0), some (.int a1), some (.int (w3.1)), some (.int (1 : Int32)), none, none]) C nd_Md_told_41 rfl rfl ?_
        refine vr_al C nd_Md_told_42 rfl ?_
        refine vr_get (v := .ref 1) C nd_Md_told_43 rfl fl_Md_7 (at_Md_0 (w3.2)) rfl ?_
        refine vr_ic C nd_Md_told_46 ?_
        refine vr_ialk (j := 1) (f := (md_row (w3.2))) C nd_Md_told_47 rfl (at_Md_1 (w3.2)) (nj_inc rfl) rfl ?_
        refine vr_is (ls' := [some (.ref 0), some (.int a1), some (.int (w3.1)), some (.int (1 : Int32)), some (.int ((md_row (w3.2)) 1)), none]) C nd_Md_told_48 rfl rfl ?_
        refine vr_ic C nd_Md_told_50 ?_
        refine vr_il C nd_Md_told_52 rfl ?_
        refine vr_imul C nd_Md_told_53 rfl ?_
        refine vr_is (ls' := [some (.ref 0), some (.int a1), some (.int (w3.1)), some (.int (1 : Int32)), some (.int ((md_row (w3.2)) 1)), some (.int ((40 : Int32) * a1))]) C nd_Md_told_54 rfl rfl ?_
        refine vr_wk (ls' := [some (.ref 0), some (.int a1), none, some (.int (1 : Int32)), some (.int ((md_row (w3.2)) 1)), some (.int ((40 : Int32) * a1))]) [2] rfl ?_
        obtain ⟨x20, hX21, h⟩ := no_b h
        refine lw_Md_told_56 C (w3.2) a1 nj_fu _ _ _ x20 hX21 ?_
        refine vr_il C nd_Md_told_167 rfl ?_
        refine vr_if_eq C nd_Md_told_168 (fun hc => ?_) (fun hc => ?_)
        · have h := no_t hc h
          refine vr_al C nd_Md_told_176 rfl ?_
          refine vr_ic C nd_Md_told_177 ?_
          obtain ⟨w22, hV23, h⟩ := no_b h
          refine vr_sVi (hp' := (rp_Md (w22.2))) [.int (3 : Int32)] [] C nd_Md_told_178 rfl ml_Md_70 my_Md_find (co_Md_find (w3.2) (3 : Int32) w22 hV23) ⟨_, _, _, rfl, rfl, rfl⟩ rfl rfl ⟨rfl, rfl, rfl, rfl⟩ (Nat.zero_le _) (Nat.zero_le _) rfl ?_
          have h := no_s h
          subst h
          exact vr_iret C hq nd_Md_told_181 rfl
        · have h := no_f hc h
          refine vr_il C nd_Md_told_171 rfl ?_
          refine vr_go C nd_Md_told_173 ?_
          have h := no_s h
          subst h
          exact vr_iret C hq nd_Md_told_181 rfl
      · have h := no_f hc h
        refine vr_al C nd_Md_told_34 rfl ?_
        refine vr_ic C nd_Md_told_35 ?_
        obtain ⟨w24, hV25, h⟩ := no_b h
        refine vr_sVi (hp' := (rp_Md (w24.2))) [.int (5 : Int32)] [] C nd_Md_told_36 rfl ml_Md_70 my_Md_find (co_Md_find (w3.2) (5 : Int32) w24 hV25) ⟨_, _, _, rfl, rfl, rfl⟩ rfl rfl ⟨rfl, rfl, rfl, rfl⟩ (Nat.zero_le _) (Nat.zero_le _) rfl ?_
        have h := no_s h
        subst h
        exact vr_iret C hq nd_Md_told_39 rfl
    · have h := no_f hc h
      refine vr_il C nd_Md_told_21 rfl ?_
      have h := no_s h
      subst h
      exact vr_iret C hq nd_Md_told_22 rfl
  · have h := no_bf hc h
    refine vr_ic C nd_Md_told_7 ?_
    have h := no_s h
    subst h
    exact vr_iret C hq nd_Md_told_8 rfl
abbrev nr_Md_likings : Room := { frames := 2, cells := 0, slots := 0, locals := 44 }
theorem lw_Md_likings_21 {G : nj_G} {ad : Nat → Nat} (C : nj_C G nb_Md_likings 6 "NobodyJoinsModel" nr_Md_likings) (m : MdS) (f2 : Int32) (f3 : Int32) : ∀ (n : Nat) (v4 : Int32) (v5 : Int32) (x : Int32), lo_Md_likings_21 m f2 f3 n v4 v5 = some x → nj_V G ad 0 0 67 [none, none, none, none, some (.int x), none] [] (rp_Md m) → nj_V G ad 0 0 21 [some (.ref 0), none, some (.int f2), some (.int f3), some (.int v4), some (.int v5)] [] (rp_Md m) := by
  intro n
  induction n with
  | zero => intro v4 v5 x h; rw [lo_Md_likings_21] at h; cases h
  | succ n ih =>
    intro v4 v5 x h hk
    rw [lo_Md_likings_21] at h
    refine vr_il C nd_Md_likings_21 rfl ?_
    refine vr_ic C nd_Md_likings_23 ?_
    refine vr_cm_ge C nd_Md_likings_25 (fun hc => ?_) (fun hc => ?_)
    · have h := no_t hc h
      have h := no_s h
      subst h
      exact vr_wk [0, 2, 3, 5] rfl hk
    · have h := no_f hc h
      refine vr_il C nd_Md_likings_28 rfl ?_
      refine vr_il C nd_Md_likings_30 rfl ?_
      refine vr_il C nd_Md_likings_32 rfl ?_
      refine vr_ic C nd_Md_likings_33 ?_
      refine vr_ixor C nd_Md_likings_34 rfl ?_
      refine vr_iand C nd_Md_likings_35 rfl ?_
      obtain ⟨p1, hP4, h⟩ := no_b h
      have hj : nj_V G ad 0 0 58 [some (.ref 0), none, some (.int f2), some (.int f3), none, some (.int v5)] [.int p1, .int v4] (rp_Md m) := by
        refine vr_iadd C nd_Md_likings_58 rfl ?_
        refine vr_is (ls' := [some (.ref 0), none, some (.int f2), some (.int f3), some (.int (v4 + p1)), some (.int v5)]) C nd_Md_likings_59 rfl rfl ?_
        refine vr_inc (v := (v5 + (1 : Int32))) (ls' := [some (.ref 0), none, some (.int f2), some (.int f3), some (.int (v4 + p1)), some (.int (v5 + (1 : Int32)))]) C nd_Md_likings_61 rfl rfl rfl rfl rfl ?_
        refine vr_go C nd_Md_likings_64 ?_
        exact (ih _ _ _ h hk)
      clear h
      have h := hP4
      clear hP4
      refine vr_if_ne C nd_Md_likings_36 (fun hc => ?_) (fun hc => ?_)
      · have h := no_f hc h
        refine vr_ic C nd_Md_likings_57 ?_
        have h := no_s h
        subst h
        exact vr_wk [4] rfl hj
      · have h := no_t hc h
        refine vr_al C nd_Md_likings_39 rfl ?_
        refine vr_il C nd_Md_likings_40 rfl ?_
        refine vr_il C nd_Md_likings_41 rfl ?_
        refine vr_ic C nd_Md_likings_43 ?_
        refine vr_ixor C nd_Md_likings_44 rfl ?_
        refine vr_iand C nd_Md_likings_45 rfl ?_
        obtain ⟨w2, hV3, h⟩ := no_b h
        refine vr_sVi (hp' := (rp_Md m)) [.int (f3 &&& (v5 ^^^ (-1 : Int32)))] [.int v4] C nd_Md_likings_46 rfl ml_Md_154 my_Md_votesOf (co_Md_votesOf m (f3 &&& (v5 ^^^ (-1 : Int32))) w2 hV3) ⟨_, _, _, rfl, rfl, rfl⟩ rfl rfl ⟨rfl, rfl, rfl, rfl⟩ (Nat.zero_le _) (Nat.zero_le _) rfl ?_
        refine vr_il C nd_Md_likings_49 rfl ?_
        refine vr_cm_ne C nd_Md_likings_50 (fun hc => ?_) (fun hc => ?_)
        · have h := no_f hc h
          refine vr_ic C nd_Md_likings_57 ?_
          have h := no_s h
          subst h
          exact vr_wk [4] rfl hj
        · have h := no_t hc h
          refine vr_ic C nd_Md_likings_53 ?_
          refine vr_go C nd_Md_likings_54 ?_
          have h := no_s h
          subst h
          exact vr_wk [4] rfl hj
theorem co_Md_likings (m : MdS) (a1 : Int32) (a2 : Int32) (x : Int32) (h : mo_Md_likings m a1 a2 = some x) : nj_Con ny_Md_likings nb_Md_likings 6 (some .int) nr_Md_likings (rp_Md m) [.ref 0, .int a1, .int a2] (some (.int x)) (rp_Md m) := by
  rw [mo_Md_likings] at h
  refine nj_con (by decide) rfl 3 rfl (fun G ad C hq => ?_)
  have C : nj_C G nb_Md_likings 6 "NobodyJoinsModel" nr_Md_likings := C
  show nj_V G ad 0 0 0 [some (.ref 0), some (.int a1), some (.int a2), none, none, none] [] (rp_Md m)
  refine vr_ic C nd_Md_likings_0 ?_
  refine vr_al C nd_Md_likings_1 rfl ?_
  refine vr_get (v := .int (md_children m)) C nd_Md_likings_2 rfl fl_Md_142 (at_Md_0 m) rfl ?_
  refine vr_ishl C nd_Md_likings_5 rfl ?_
  refine vr_ic C nd_Md_likings_6 ?_
  refine vr_isub C nd_Md_likings_7 rfl ?_
  refine vr_ic C nd_Md_likings_8 ?_
  refine vr_il C nd_Md_likings_9 rfl ?_
  refine vr_ishl C nd_Md_likings_10 rfl ?_
  refine vr_ic C nd_Md_likings_11 ?_
  refine vr_ixor C nd_Md_likings_12 rfl ?_
  refine vr_iand C nd_Md_likings_13 rfl ?_
  refine vr_is (ls' := [some (.ref 0), some (.int a1), some (.int a2), some (.int ((((1 : Int32) <<< ((md_children m) &&& 31)) - (1 : Int32)) &&& (((1 : Int32) <<< (a1 &&& 31)) ^^^ (-1 : Int32)))), none, none]) C nd_Md_likings_14 rfl rfl ?_
  refine vr_ic C nd_Md_likings_15 ?_
  refine vr_is (ls' := [some (.ref 0), some (.int a1), some (.int a2), some (.int ((((1 : Int32) <<< ((md_children m) &&& 31)) - (1 : Int32)) &&& (((1 : Int32) <<< (a1 &&& 31)) ^^^ (-1 : Int32)))), some (.int (0 : Int32)), none]) C nd_Md_likings_16 rfl rfl ?_
  refine vr_ic C nd_Md_likings_18 ?_
  refine vr_is (ls' := [some (.ref 0), some (.int a1), some (.int a2), some (.int ((((1 : Int32) <<< ((md_children m) &&& 31)) - (1 : Int32)) &&& (((1 : Int32) <<< (a1 &&& 31)) ^^^ (-1 : Int32)))), some (.int (0 : Int32)), some (.int (0 : Int32))]) C nd_Md_likings_19 rfl rfl ?_
  refine vr_wk (ls' := [some (.ref 0), none, some (.int a2), some (.int ((((1 : Int32) <<< ((md_children m) &&& 31)) - (1 : Int32)) &&& (((1 : Int32) <<< (a1 &&& 31)) ^^^ (-1 : Int32)))), some (.int (0 : Int32)), some (.int (0 : Int32))]) [1] rfl ?_
  obtain ⟨x5, hX6, h⟩ := no_b h
  refine lw_Md_likings_21 C m a2 ((((1 : Int32) <<< ((md_children m) &&& 31)) - (1 : Int32)) &&& (((1 : Int32) <<< (a1 &&& 31)) ^^^ (-1 : Int32))) nj_fu _ _ x5 hX6 ?_
  refine vr_il C nd_Md_likings_67 rfl ?_
  have h := no_s h
  subst h
  exact vr_iret C hq nd_Md_likings_69 rfl
abbrev nr_Md_minutes : Room := { frames := 3, cells := 0, slots := 0, locals := 69 }
theorem lw_Md_minutes_48 {G : nj_G} {ad : Nat → Nat} (C : nj_C G nb_Md_minutes 10 "NobodyJoinsModel" nr_Md_minutes) (m : MdS) (f1 : Int32) : ∀ (n : Nat) (v3 : Int32) (v4 : Int32) (x : Int32), lo_Md_minutes_48 m f1 n v3 v4 = some x → nj_V G ad 0 0 94 [some (.ref 0), some (.int f1), none, some (.int x), none, none, none, none, none, none] [] (rp_Md m) → nj_V G ad 0 0 48 [some (.ref 0), some (.int f1), none, some (.int v3), some (.int v4), none, none, none, none, none] [] (rp_Md m) := by
  intro n
  induction n with
  | zero => intro v3 v4 x h; rw [lo_Md_minutes_48] at h; cases h
  | succ n ih =>
    intro v3 v4 x h hk
    rw [lo_Md_minutes_48] at h
    refine vr_il C nd_Md_minutes_48 rfl ?_
    refine vr_ic C nd_Md_minutes_50 ?_
    refine vr_il C nd_Md_minutes_52 rfl ?_
    refine vr_imul C nd_Md_minutes_53 rfl ?_
    refine vr_al C nd_Md_minutes_54 rfl ?_
    refine vr_get (v := .ref 3) C nd_Md_minutes_55 rfl fl_Md_16 (at_Md_0 m) rfl ?_
    refine vr_il C nd_Md_minutes_58 rfl ?_
    obtain ⟨hN6, h⟩ := no_i h
    refine vr_ialk (j := (nj_n f1)) (f := (md_sizes m)) C nd_Md_minutes_59 rfl (at_Md_3 m) hN6 rfl ?_
    refine vr_iadd C nd_Md_minutes_60 rfl ?_
    refine vr_cm_ge C nd_Md_minutes_61 (fun hc => ?_) (fun hc => ?_)
    · have h := no_t hc h
      have h := no_s h
      subst h
      exact vr_wk [4] rfl hk
    · have h := no_f hc h
      refine vr_il C nd_Md_minutes_64 rfl ?_
      obtain ⟨p7, hP11, h⟩ := no_b h
      have hj : nj_V G ad 0 0 87 [some (.ref 0), some (.int f1), none, none, some (.int v4), none, none, none, none, none] [.int p7] (rp_Md m) := by
        refine vr_is (ls' := [some (.ref 0), some (.int f1), none, some (.int p7), some (.int v4), none, none, none, none, none]) C nd_Md_minutes_87 rfl rfl ?_
        refine vr_inc (v := (v4 + (2 : Int32))) (ls' := [some (.ref 0), some (.int f1), none, some (.int p7), some (.int (v4 + (2 : Int32))), none, none, none, none, none]) C nd_Md_minutes_88 rfl rfl rfl rfl rfl ?_
        refine vr_go C nd_Md_minutes_91 ?_
        exact (ih _ _ _ h hk)
      clear h
      have h := hP11
      clear hP11
      refine vr_if_eq C nd_Md_minutes_65 (fun hc => ?_) (fun hc => ?_)
      · have h := no_t hc h
        refine vr_ic C nd_Md_minutes_86 ?_
        have h := no_s h
        subst h
        exact vr_wk [3] rfl hj
      · have h := no_f hc h
        refine vr_al C nd_Md_minutes_68 rfl ?_
        refine vr_al C nd_Md_minutes_69 rfl ?_
        refine vr_get (v := .ref 4) C nd_Md_minutes_70 rfl fl_Md_19 (at_Md_0 m) rfl ?_
        refine vr_il C nd_Md_minutes_73 rfl ?_
        obtain ⟨hN8, h⟩ := no_i h
        refine vr_ialk (j := (nj_n v4)) (f := (md_items m)) C nd_Md_minutes_75 rfl (at_Md_4 m) hN8 rfl ?_
        obtain ⟨w9, hV10, h⟩ := no_b h
        refine vr_sVi (hp' := (rp_Md m)) [.int ((md_items m) (nj_n v4))] [] C nd_Md_minutes_76 rfl ml_Md_175 my_Md_isChild (co_Md_isChild m ((md_items m) (nj_n v4)) w9 hV10) ⟨_, _, _, rfl, rfl, rfl⟩ rfl rfl ⟨rfl, rfl, rfl, rfl⟩ (Nat.zero_le _) (Nat.zero_le _) rfl ?_
        refine vr_ifb_eq C nd_Md_minutes_79 (fun hc => ?_) (fun hc => ?_)
        · have h := no_bf hc h
          refine vr_ic C nd_Md_minutes_86 ?_
          have h := no_s h
          subst h
          exact vr_wk [3] rfl hj
        · have h := no_bt hc h
          refine vr_ic C nd_Md_minutes_82 ?_
          refine vr_go C nd_Md_minutes_83 ?_
          have h := no_s h
          subst h
          exact vr_wk [3] rfl hj
theorem lw_Md_minutes_131 {G : nj_G} {ad : Nat → Nat} (C : nj_C G nb_Md_minutes 10 "NobodyJoinsModel" nr_Md_minutes) (m : MdS) (f1 : Int32) (f6 : Int32) : ∀ (n : Nat) (v4 : Int64) (v7 : Int32) (v8 : Int32) (v9 : Int32) (x : Int64 × Int32 × Int32), lo_Md_minutes_131 m f1 f6 n v4 v7 v8 v9 = some x → nj_V G ad 0 0 208 [some (.ref 0), some (.int f1), none, none, some (.long (x.1)), none, some (.int f6), some (.int (x.2.1)), some (.int (x.2.2)), none] [] (rp_Md m) → nj_V G ad 0 0 131 [some (.ref 0), some (.int f1), none, none, some (.long v4), none, some (.int f6), some (.int v7), some (.int v8), some (.int v9)] [] (rp_Md m) := by
  intro n
  induction n with
  | zero => intro v4 v7 v8 v9 x h; rw [lo_Md_minutes_131] at h; cases h
  | succ n ih =>
    intro v4 v7 v8 v9 x h hk
    rw [lo_Md_minutes_131] at h
    refine vr_il C nd_Md_minutes_131 rfl ?_
    refine vr_ic C nd_Md_minutes_133 ?_
    refine vr_il C nd_Md_minutes_135 rfl ?_
    refine vr_imul C nd_Md_minutes_136 rfl ?_
    refine vr_al C nd_Md_minutes_137 rfl ?_
    refine vr_get (v := .ref 3) C nd_Md_minutes_138 rfl fl_Md_16 (at_Md_0 m) rfl ?_
    refine vr_il C nd_Md_minutes_141 rfl ?_
    obtain ⟨hN14, h⟩ := no_i h
    refine vr_ialk (j := (nj_n f1)) (f := (md_sizes m)) C nd_Md_minutes_142 rfl (at_Md_3 m) hN14 rfl ?_
    refine vr_iadd C nd_Md_minutes_143 rfl ?_
    refine vr_cm_ge C nd_Md_minutes_144 (fun hc => ?_) (fun hc => ?_)
    · have h := no_t hc h
      have h := no_s h
      subst h
      exact vr_wk [9] rfl hk
    · have h := no_f hc h
      refine vr_al C nd_Md_minutes_147 rfl ?_
      refine vr_get (v := .ref 4) C nd_Md_minutes_148 rfl fl_Md_19 (at_Md_0 m) rfl ?_
      refine vr_il C nd_Md_minutes_151 rfl ?_
      obtain ⟨hN15, h⟩ := no_i h
      refine vr_ialk (j := (nj_n v9)) (f := (md_items m)) C nd_Md_minutes_153 rfl (at_Md_4 m) hN15 rfl ?_
      refine vr_il C nd_Md_minutes_154 rfl ?_
      obtain ⟨p16, hP21, h⟩ := no_b h
      have hj : nj_V G ad 0 0 202 [some (.ref 0), some (.int f1), none, none, some (.long (p16.1)), none, some (.int f6), some (.int (p16.2.1)), some (.int (p16.2.2)), some (.int v9)] [] (rp_Md m) := by
        refine vr_inc (v := (v9 + (2 : Int32))) (ls' := [some (.ref 0), some (.int f1), none, none, some (.long (p16.1)), none, some (.int f6), some (.int (p16.2.1)), some (.int (p16.2.2)), some (.int (v9 + (2 : Int32)))]) C nd_Md_minutes_202 rfl rfl rfl rfl rfl ?_
        refine vr_go C nd_Md_minutes_205 ?_
        exact (ih _ _ _ _ _ h hk)
      clear h
      have h := hP21
      clear hP21
      refine vr_cm_ne C nd_Md_minutes_156 (fun hc => ?_) (fun hc => ?_)
      · have h := no_f hc h
        have h := no_s h
        subst h
        exact hj
      · have h := no_t hc h
        refine vr_ll C nd_Md_minutes_159 rfl ?_
        refine vr_il C nd_Md_minutes_161 rfl ?_
        obtain ⟨p17, hP20, h⟩ := no_b h
        have hj : nj_V G ad 0 0 185 [some (.ref 0), some (.int f1), none, none, none, none, some (.int f6), none, none, some (.int v9)] [.long p17, .long v4] (rp_Md m) := by
          refine vr_lmul C nd_Md_minutes_185 rfl ?_
          refine vr_lst (ls' := [some (.ref 0), some (.int f1), none, none, some (.long (v4 * p17)), none, some (.int f6), none, none, some (.int v9)]) C nd_Md_minutes_186 rfl rfl ?_
          refine vr_al C nd_Md_minutes_188 rfl ?_
          refine vr_get (v := .ref 4) C nd_Md_minutes_189 rfl fl_Md_19 (at_Md_0 m) rfl ?_
          refine vr_il C nd_Md_minutes_192 rfl ?_
          refine vr_ic C nd_Md_minutes_194 ?_
          refine vr_iadd C nd_Md_minutes_195 rfl ?_
          obtain ⟨hN19, h⟩ := no_i h
          refine vr_ialk (j := (nj_n (v9 + (1 : Int32)))) (f := (md_items m)) C nd_Md_minutes_196 rfl (at_Md_4 m) hN19 rfl ?_
          refine vr_is (ls' := [some (.ref 0), some (.int f1), none, none, some (.long (v4 * p17)), none, some (.int f6), none, some (.int ((md_items m) (nj_n (v9 + (1 : Int32))))), some (.int v9)]) C nd_Md_minutes_197 rfl rfl ?_
          refine vr_ic C nd_Md_minutes_199 ?_
          refine vr_is (ls' := [some (.ref 0), some (.int f1), none, none, some (.long (v4 * p17)), none, some (.int f6), some (.int (1 : Int32)), some (.int ((md_items m) (nj_n (v9 + (1 : Int32))))), some (.int v9)]) C nd_Md_minutes_200 rfl rfl ?_
          have h := no_s h
          subst h
          exact hj
        clear h
        have h := hP20
        clear hP20
        refine vr_if_eq C nd_Md_minutes_163 (fun hc => ?_) (fun hc => ?_)
        · have h := no_t hc h
          refine vr_lc (v := (1 : Int64)) C nd_Md_minutes_184 rfl (by decide) ?_
          have h := no_s h
          subst h
          exact vr_wk [4, 7, 8] rfl hj
        · have h := no_f hc h
          refine vr_al C nd_Md_minutes_166 rfl ?_
          refine vr_get (v := .ref 4) C nd_Md_minutes_167 rfl fl_Md_19 (at_Md_0 m) rfl ?_
          refine vr_il C nd_Md_minutes_170 rfl ?_
          refine vr_ic C nd_Md_minutes_172 ?_
          refine vr_iadd C nd_Md_minutes_173 rfl ?_
          obtain ⟨hN18, h⟩ := no_i h
          refine vr_ialk (j := (nj_n (v9 + (1 : Int32)))) (f := (md_items m)) C nd_Md_minutes_174 rfl (at_Md_4 m) hN18 rfl ?_
          refine vr_il C nd_Md_minutes_175 rfl ?_
          refine vr_cm_eq C nd_Md_minutes_177 (fun hc => ?_) (fun hc => ?_)
          · have h := no_t hc h
            refine vr_lc (v := (1 : Int64)) C nd_Md_minutes_184 rfl (by decide) ?_
            have h := no_s h
            subst h
            exact vr_wk [4, 7, 8] rfl hj
          · have h := no_f hc h
            refine vr_lc (v := (0 : Int64)) C nd_Md_minutes_180 rfl (by decide) ?_
            refine vr_go C nd_Md_minutes_181 ?_
            have h := no_s h
            subst h
            exact vr_wk [4, 7, 8] rfl hj
theorem lw_Md_minutes_110 {G : nj_G} {ad : Nat → Nat} (C : nj_C G nb_Md_minutes 10 "NobodyJoinsModel" nr_Md_minutes) (m : MdS) (f1 : Int32) : ∀ (n : Nat) (v4 : Int64) (v6 : Int32) (x : Int64), lo_Md_minutes_110 m f1 n v4 v6 = some x → nj_V G ad 0 0 237 [some (.ref 0), none, none, none, some (.long x), none, none, none, none, none] [] (rp_Md m) → nj_V G ad 0 0 110 [some (.ref 0), some (.int f1), none, none, some (.long v4), none, some (.int v6), none, none, none] [] (rp_Md m) := by
  intro n
  induction n with
  | zero => intro v4 v6 x h; rw [lo_Md_minutes_110] at h; cases h
  | succ n ih =>
    intro v4 v6 x h hk
    rw [lo_Md_minutes_110] at h
    refine vr_il C nd_Md_minutes_110 rfl ?_
    refine vr_al C nd_Md_minutes_112 rfl ?_
    refine vr_get (v := .int (md_children m)) C nd_Md_minutes_113 rfl fl_Md_142 (at_Md_0 m) rfl ?_
    refine vr_cm_ge C nd_Md_minutes_116 (fun hc => ?_) (fun hc => ?_)
    · have h := no_t hc h
      have h := no_s h
      subst h
      exact vr_wk [1, 6] rfl hk
    · have h := no_f hc h
      refine vr_ic C nd_Md_minutes_119 ?_
      refine vr_is (ls' := [some (.ref 0), some (.int f1), none, none, some (.long v4), none, some (.int v6), some (.int (0 : Int32)), none, none]) C nd_Md_minutes_120 rfl rfl ?_
      refine vr_ic C nd_Md_minutes_122 ?_
      refine vr_is (ls' := [some (.ref 0), some (.int f1), none, none, some (.long v4), none, some (.int v6), some (.int (0 : Int32)), some (.int (0 : Int32)), none]) C nd_Md_minutes_123 rfl rfl ?_
      refine vr_ic C nd_Md_minutes_125 ?_
      refine vr_il C nd_Md_minutes_127 rfl ?_
      refine vr_imul C nd_Md_minutes_128 rfl ?_
      refine vr_is (ls' := [some (.ref 0), some (.int f1), none, none, some (.long v4), none, some (.int v6), some (.int (0 : Int32)), some (.int (0 : Int32)), some (.int ((40 : Int32) * f1))]) C nd_Md_minutes_129 rfl rfl ?_
      obtain ⟨x22, hX23, h⟩ := no_b h
      refine lw_Md_minutes_131 C m f1 v6 nj_fu _ _ _ _ x22 hX23 ?_
      refine vr_ll C nd_Md_minutes_208 rfl ?_
      refine vr_il C nd_Md_minutes_210 rfl ?_
      obtain ⟨p24, hP27, h⟩ := no_b h
      have hj : nj_V G ad 0 0 228 [some (.ref 0), some (.int f1), none, none, none, none, some (.int v6), none, none, none] [.long p24, .long (x22.1)] (rp_Md m) := by
        refine vr_lmul C nd_Md_minutes_228 rfl ?_
        refine vr_lst (ls' := [some (.ref 0), some (.int f1), none, none, some (.long ((x22.1) * p24)), none, some (.int v6), none, none, none]) C nd_Md_minutes_229 rfl rfl ?_
        refine vr_inc (v := (v6 + (1 : Int32))) (ls' := [some (.ref 0), some (.int f1), none, none, some (.long ((x22.1) * p24)), none, some (.int (v6 + (1 : Int32))), none, none, none]) C nd_Md_minutes_231 rfl rfl rfl rfl rfl ?_
        refine vr_go C nd_Md_minutes_234 ?_
        exact (ih _ _ _ h hk)
      clear h
      have h := hP27
      clear hP27
      refine vr_if_eq C nd_Md_minutes_212 (fun hc => ?_) (fun hc => ?_)
      · have h := no_t hc h
        refine vr_lc (v := (1 : Int64)) C nd_Md_minutes_227 rfl (by decide) ?_
        have h := no_s h
        subst h
        exact vr_wk [4, 7, 8] rfl hj
      · have h := no_f hc h
        refine vr_al C nd_Md_minutes_215 rfl ?_
        refine vr_il C nd_Md_minutes_216 rfl ?_
        refine vr_il C nd_Md_minutes_218 rfl ?_
        obtain ⟨w25, hV26, h⟩ := no_b h
        refine vr_sVi (hp' := (rp_Md m)) [.int v6, .int (x22.2.2)] [.long (x22.1)] C nd_Md_minutes_220 rfl ml_Md_243 my_Md_likings (co_Md_likings m v6 (x22.2.2) w25 hV26) ⟨_, _, _, rfl, rfl, rfl⟩ rfl rfl ⟨rfl, rfl, rfl, rfl⟩ (Nat.zero_le _) (Nat.zero_le _) rfl ?_
        refine vr_i2l C nd_Md_minutes_223 rfl ?_
        refine vr_go C nd_Md_minutes_224 ?_
        have h := no_s h
        subst h
        exact vr_wk [4, 7, 8] rfl hj
theorem co_Md_minutes (m : MdS) (a1 : Int32) (x : Int32 × MdS) (h : mo_Md_minutes m a1 = some x) : nj_Con ny_Md_minutes nb_Md_minutes 10 (some .int) nr_Md_minutes (rp_Md m) [.ref 0, .int a1] (some (.int (x.1))) (rp_Md (x.2)) := by
  rw [mo_Md_minutes] at h
  refine nj_con (by decide) rfl 8 rfl (fun G ad C hq => ?_)
  have C : nj_C G nb_Md_minutes 10 "NobodyJoinsModel" nr_Md_minutes := C
  show nj_V G ad 0 0 0 [some (.ref 0), some (.int a1), none, none, none, none, none, none, none, none] [] (rp_Md m)
  refine vr_il C nd_Md_minutes_0 rfl ?_
  obtain ⟨w1, hV2, h⟩ := no_b h
  refine vr_cSip [] [.int a1] [] C nd_Md_minutes_1 rfl ml_Md_66 my_Md_isRow (co_Md_isRow a1 w1 hV2) (em_E _) rfl rfl ⟨rfl, rfl, rfl, rfl⟩ (Nat.zero_le _) (Nat.zero_le _) rfl ?_
  refine vr_ifb_ne C nd_Md_minutes_4 (fun hc => ?_) (fun hc => ?_)
  · have h := no_bt hc h
    refine vr_al C nd_Md_minutes_9 rfl ?_
    refine vr_il C nd_Md_minutes_10 rfl ?_
    refine vr_ic C nd_Md_minutes_11 ?_
    obtain ⟨w3, hV4, h⟩ := no_b h
    refine vr_sVi (hp' := (rp_Md (w3.2))) [.int a1, .int (40 : Int32)] [] C nd_Md_minutes_13 rfl ml_Md_223 my_Md_noRow (co_Md_noRow m a1 (40 : Int32) w3 hV4) ⟨_, _, _, rfl, rfl, rfl⟩ rfl rfl ⟨rfl, rfl, rfl, rfl⟩ (Nat.zero_le _) (Nat.zero_le _) rfl ?_
    refine vr_is (ls' := [some (.ref 0), some (.int a1), some (.int (w3.1)), none, none, none, none, none, none, none]) C nd_Md_minutes_16 rfl rfl ?_
    refine vr_il C nd_Md_minutes_17 rfl ?_
    refine vr_if_eq C nd_Md_minutes_18 (fun hc => ?_) (fun hc => ?_)
    · have h := no_t hc h
      refine vr_al C nd_Md_minutes_23 rfl ?_
      refine vr_get (v := .ref 3) C nd_Md_minutes_24 rfl fl_Md_16 (at_Md_0 (w3.2)) rfl ?_
      refine vr_il C nd_Md_minutes_27 rfl ?_
      obtain ⟨hN5, h⟩ := no_i h
      refine vr_ialk (j := (nj_n a1)) (f := (md_sizes (w3.2))) C nd_Md_minutes_28 rfl (at_Md_3 (w3.2)) hN5 rfl ?_
      refine vr_ic C nd_Md_minutes_29 ?_
      refine vr_irem C nd_Md_minutes_30 rfl (by decide) ?_
      refine vr_if_eq C nd_Md_minutes_31 (fun hc => ?_) (fun hc => ?_)
      · have h := no_t hc h
        refine vr_ic C nd_Md_minutes_40 ?_
        refine vr_is (ls' := [some (.ref 0), some (.int a1), some (.int (w3.1)), some (.int (1 : Int32)), none, none, none, none, none, none]) C nd_Md_minutes_41 rfl rfl ?_
        refine vr_ic C nd_Md_minutes_42 ?_
        refine vr_il C nd_Md_minutes_44 rfl ?_
        refine vr_imul C nd_Md_minutes_45 rfl ?_
        refine vr_is (ls' := [some (.ref 0), some (.int a1), some (.int (w3.1)), some (.int (1 : Int32)), some (.int ((40 : Int32) * a1)), none, none, none, none, none]) C nd_Md_minutes_46 rfl rfl ?_
        refine vr_wk (ls' := [some (.ref 0), some (.int a1), none, some (.int (1 : Int32)), some (.int ((40 : Int32) * a1)), none, none, none, none, none]) [2] rfl ?_
        obtain ⟨x12, hX13, h⟩ := no_b h
        refine lw_Md_minutes_48 C (w3.2) a1 nj_fu _ _ x12 hX13 ?_
        refine vr_il C nd_Md_minutes_94 rfl ?_
        refine vr_if_ne C nd_Md_minutes_95 (fun hc => ?_) (fun hc => ?_)
        · have h := no_f hc h
          refine vr_lc (v := (1 : Int64)) C nd_Md_minutes_104 rfl (by decide) ?_
          refine vr_lst (ls' := [some (.ref 0), some (.int a1), none, some (.int x12), some (.long (1 : Int64)), none, none, none, none, none]) C nd_Md_minutes_105 rfl rfl ?_
          refine vr_ic C nd_Md_minutes_107 ?_
          refine vr_is (ls' := [some (.ref 0), some (.int a1), none, some (.int x12), some (.long (1 : Int64)), none, some (.int (0 : Int32)), none, none, none]) C nd_Md_minutes_108 rfl rfl ?_
          refine vr_wk (ls' := [some (.ref 0), some (.int a1), none, none, some (.long (1 : Int64)), none, some (.int (0 : Int32)), none, none, none]) [3] rfl ?_
          obtain ⟨x28, hX29, h⟩ := no_b h
          refine lw_Md_minutes_110 C (w3.2) a1 nj_fu _ _ x28 hX29 ?_
          refine vr_al C nd_Md_minutes_237 rfl ?_
          refine vr_ll C nd_Md_minutes_238 rfl ?_
          obtain ⟨w30, hV31, h⟩ := no_b h
          refine vr_sVi (hp' := (rp_Md (w30.2))) [.long x28] [] C nd_Md_minutes_240 rfl ml_Md_219 my_Md_tellMany (co_Md_tellMany (w3.2) x28 w30 hV31) ⟨_, _, _, rfl, rfl, rfl⟩ rfl rfl ⟨rfl, rfl, rfl, rfl⟩ (Nat.zero_le _) (Nat.zero_le _) rfl ?_
          have h := no_s h
          subst h
          exact vr_iret C hq nd_Md_minutes_243 rfl
        · have h := no_t hc h
          refine vr_al C nd_Md_minutes_98 rfl ?_
          refine vr_ic C nd_Md_minutes_99 ?_
          obtain ⟨w32, hV33, h⟩ := no_b h
          refine vr_sVi (hp' := (rp_Md (w32.2))) [.int (3 : Int32)] [] C nd_Md_minutes_100 rfl ml_Md_70 my_Md_find (co_Md_find (w3.2) (3 : Int32) w32 hV33) ⟨_, _, _, rfl, rfl, rfl⟩ rfl rfl ⟨rfl, rfl, rfl, rfl⟩ (Nat.zero_le _) (Nat.zero_le _) rfl ?_
          have h := no_s h
          subst h
          exact vr_iret C hq nd_Md_minutes_103 rfl
      · have h := no_f hc h
        refine vr_al C nd_Md_minutes_34 rfl ?_
        refine vr_ic C nd_Md_minutes_35 ?_
        obtain ⟨w34, hV35, h⟩ := no_b h
        refine vr_sVi (hp' := (rp_Md (w34.2))) [.int (5 : Int32)] [] C nd_Md_minutes_36 rfl ml_Md_70 my_Md_find (co_Md_find (w3.2) (5 : Int32) w34 hV35) ⟨_, _, _, rfl, rfl, rfl⟩ rfl rfl ⟨rfl, rfl, rfl, rfl⟩ (Nat.zero_le _) (Nat.zero_le _) rfl ?_
        have h := no_s h
        subst h
        exact vr_iret C hq nd_Md_minutes_39 rfl
    · have h := no_f hc h
      refine vr_il C nd_Md_minutes_21 rfl ?_
      have h := no_s h
      subst h
      exact vr_iret C hq nd_Md_minutes_22 rfl
  · have h := no_bf hc h
    refine vr_ic C nd_Md_minutes_7 ?_
    have h := no_s h
    subst h
    exact vr_iret C hq nd_Md_minutes_8 rfl
abbrev nr_Md_odds : Room := { frames := 2, cells := 0, slots := 0, locals := 43 }
theorem lw_Md_odds_34 {G : nj_G} {ad : Nat → Nat} (C : nj_C G nb_Md_odds 8 "NobodyJoinsModel" nr_Md_odds) (m : MdS) (f1 : Int32) (f6 : Int32) : ∀ (n : Nat) (v2 : Int64) (v4 : Int64) (v7 : Int32) (x : Int64 × Int64), lo_Md_odds_34 m f1 f6 n v2 v4 v7 = some x → nj_V G ad 0 0 94 [some (.ref 0), some (.int f1), some (.long (x.1)), none, some (.long (x.2)), none, some (.int f6), none] [] (rp_Md m) → nj_V G ad 0 0 34 [some (.ref 0), some (.int f1), some (.long v2), none, some (.long v4), none, some (.int f6), some (.int v7)] [] (rp_Md m) := by
  intro n
  induction n with
  | zero => intro v2 v4 v7 x h; rw [lo_Md_odds_34] at h; cases h
  | succ n ih =>
    intro v2 v4 v7 x h hk
    rw [lo_Md_odds_34] at h
    refine vr_il C nd_Md_odds_34 rfl ?_
    refine vr_al C nd_Md_odds_36 rfl ?_
    refine vr_get (v := .int (md_children m)) C nd_Md_odds_37 rfl fl_Md_142 (at_Md_0 m) rfl ?_
    refine vr_cm_ge C nd_Md_odds_40 (fun hc => ?_) (fun hc => ?_)
    · have h := no_t hc h
      have h := no_s h
      subst h
      exact vr_wk [7] rfl hk
    · have h := no_f hc h
      refine vr_al C nd_Md_odds_43 rfl ?_
      refine vr_il C nd_Md_odds_44 rfl ?_
      obtain ⟨w3, hV4, h⟩ := no_b h
      refine vr_sVi (hp' := (rp_Md m)) [.int f6] [] C nd_Md_odds_46 rfl ml_Md_169 my_Md_isIn (co_Md_isIn m f6 w3 hV4) ⟨_, _, _, rfl, rfl, rfl⟩ rfl rfl ⟨rfl, rfl, rfl, rfl⟩ (Nat.zero_le _) (Nat.zero_le _) rfl ?_
      obtain ⟨p5, hP10, h⟩ := no_b h
      have hj : nj_V G ad 0 0 88 [some (.ref 0), some (.int f1), some (.long (p5.1)), none, some (.long (p5.2)), none, some (.int f6), some (.int v7)] [] (rp_Md m) := by
        refine vr_inc (v := (v7 + (1 : Int32))) (ls' := [some (.ref 0), some (.int f1), some (.long (p5.1)), none, some (.long (p5.2)), none, some (.int f6), some (.int (v7 + (1 : Int32)))]) C nd_Md_odds_88 rfl rfl rfl rfl rfl ?_
        refine vr_go C nd_Md_odds_91 ?_
        exact (ih _ _ _ _ h hk)
      clear h
      have h := hP10
      clear hP10
      refine vr_ifb_eq C nd_Md_odds_49 (fun hc => ?_) (fun hc => ?_)
      · have h := no_bf hc h
        have h := no_s h
        subst h
        exact hj
      · have h := no_bt hc h
        refine vr_al C nd_Md_odds_52 rfl ?_
        refine vr_il C nd_Md_odds_53 rfl ?_
        obtain ⟨w6, hV7, h⟩ := no_b h
        refine vr_sVi (hp' := (rp_Md m)) [.int v7] [] C nd_Md_odds_55 rfl ml_Md_169 my_Md_isIn (co_Md_isIn m v7 w6 hV7) ⟨_, _, _, rfl, rfl, rfl⟩ rfl rfl ⟨rfl, rfl, rfl, rfl⟩ (Nat.zero_le _) (Nat.zero_le _) rfl ?_
        refine vr_ifb_ne C nd_Md_odds_58 (fun hc => ?_) (fun hc => ?_)
        · have h := no_bt hc h
          have h := no_s h
          subst h
          exact hj
        · have h := no_bf hc h
          refine vr_al C nd_Md_odds_61 rfl ?_
          refine vr_il C nd_Md_odds_62 rfl ?_
          refine vr_il C nd_Md_odds_64 rfl ?_
          obtain ⟨w8, hV9, h⟩ := no_b h
          refine vr_sVi (hp' := (rp_Md m)) [.int f6, .int v7] [] C nd_Md_odds_66 rfl ml_Md_148 my_Md_likes (co_Md_likes m f6 v7 w8 hV9) ⟨_, _, _, rfl, rfl, rfl⟩ rfl rfl ⟨rfl, rfl, rfl, rfl⟩ (Nat.zero_le _) (Nat.zero_le _) rfl ?_
          refine vr_ifb_eq C nd_Md_odds_69 (fun hc => ?_) (fun hc => ?_)
          · have h := no_bf hc h
            have h := no_s h
            subst h
            exact hj
          · have h := no_bt hc h
            refine vr_ll C nd_Md_odds_72 rfl ?_
            refine vr_ic C nd_Md_odds_73 ?_
            refine vr_il C nd_Md_odds_75 rfl ?_
            refine vr_isub C nd_Md_odds_76 rfl ?_
            refine vr_i2l C nd_Md_odds_77 rfl ?_
            refine vr_lmul C nd_Md_odds_78 rfl ?_
            refine vr_lst (ls' := [some (.ref 0), some (.int f1), some (.long (v2 * (Int32.toInt64 ((12 : Int32) - f1)))), none, some (.long v4), none, some (.int f6), some (.int v7)]) C nd_Md_odds_79 rfl rfl ?_
            refine vr_ll C nd_Md_odds_80 rfl ?_
            refine vr_ldc2 C nd_Md_odds_82 rfl kl_Md_246 ?_
            refine vr_lmul C nd_Md_odds_85 rfl ?_
            refine vr_lst (ls' := [some (.ref 0), some (.int f1), some (.long (v2 * (Int32.toInt64 ((12 : Int32) - f1)))), none, some (.long (v4 * (12 : Int64))), none, some (.int f6), some (.int v7)]) C nd_Md_odds_86 rfl rfl ?_
            have h := no_s h
            subst h
            exact hj
theorem lw_Md_odds_22 {G : nj_G} {ad : Nat → Nat} (C : nj_C G nb_Md_odds 8 "NobodyJoinsModel" nr_Md_odds) (m : MdS) (f1 : Int32) : ∀ (n : Nat) (v2 : Int64) (v4 : Int64) (v6 : Int32) (x : Int64 × Int64), lo_Md_odds_22 m f1 n v2 v4 v6 = some x → nj_V G ad 0 0 100 [some (.ref 0), none, some (.long (x.1)), none, some (.long (x.2)), none, none, none] [] (rp_Md m) → nj_V G ad 0 0 22 [some (.ref 0), some (.int f1), some (.long v2), none, some (.long v4), none, some (.int v6), none] [] (rp_Md m) := by
  intro n
  induction n with
  | zero => intro v2 v4 v6 x h; rw [lo_Md_odds_22] at h; cases h
  | succ n ih =>
    intro v2 v4 v6 x h hk
    rw [lo_Md_odds_22] at h
    refine vr_il C nd_Md_odds_22 rfl ?_
    refine vr_al C nd_Md_odds_24 rfl ?_
    refine vr_get (v := .int (md_children m)) C nd_Md_odds_25 rfl fl_Md_142 (at_Md_0 m) rfl ?_
    refine vr_cm_ge C nd_Md_odds_28 (fun hc => ?_) (fun hc => ?_)
    · have h := no_t hc h
      have h := no_s h
      subst h
      exact vr_wk [1, 6] rfl hk
    · have h := no_f hc h
      refine vr_ic C nd_Md_odds_31 ?_
      refine vr_is (ls' := [some (.ref 0), some (.int f1), some (.long v2), none, some (.long v4), none, some (.int v6), some (.int (0 : Int32))]) C nd_Md_odds_32 rfl rfl ?_
      obtain ⟨x11, hX12, h⟩ := no_b h
      refine lw_Md_odds_34 C m f1 v6 nj_fu _ _ _ x11 hX12 ?_
      refine vr_inc (v := (v6 + (1 : Int32))) (ls' := [some (.ref 0), some (.int f1), some (.long (x11.1)), none, some (.long (x11.2)), none, some (.int (v6 + (1 : Int32))), none]) C nd_Md_odds_94 rfl rfl rfl rfl rfl ?_
      refine vr_go C nd_Md_odds_97 ?_
      exact (ih _ _ _ _ h hk)
theorem co_Md_odds (m : MdS) (a1 : Int32) (x : Int32 × MdS) (h : mo_Md_odds m a1 = some x) : nj_Con ny_Md_odds nb_Md_odds 8 (some .int) nr_Md_odds (rp_Md m) [.ref 0, .int a1] (some (.int (x.1))) (rp_Md (x.2)) := by
  rw [mo_Md_odds] at h
  refine nj_con (by decide) rfl 6 rfl (fun G ad C hq => ?_)
  have C : nj_C G nb_Md_odds 8 "NobodyJoinsModel" nr_Md_odds := C
  show nj_V G ad 0 0 0 [some (.ref 0), some (.int a1), none, none, none, none, none, none] [] (rp_Md m)
  refine vr_il C nd_Md_odds_0 rfl ?_
  refine vr_i2l C nd_Md_odds_1 rfl ?_
  refine vr_lc (v := (0 : Int64)) C nd_Md_odds_2 rfl (by decide) ?_
  refine vr_ldc2 C nd_Md_odds_3 rfl kl_Md_246 ?_
  obtain ⟨w1, hV2, h⟩ := no_b h
  refine vr_cSip [] [.long (Int32.toInt64 a1), .long (0 : Int64), .long (12 : Int64)] [] C nd_Md_odds_6 rfl ml_Md_60 my_Md_in (co_Md_in (Int32.toInt64 a1) (0 : Int64) (12 : Int64) w1 hV2) (em_E _) rfl rfl ⟨rfl, rfl, rfl, rfl⟩ (Nat.zero_le _) (Nat.zero_le _) rfl ?_
  refine vr_ifb_ne C nd_Md_odds_9 (fun hc => ?_) (fun hc => ?_)
  · have h := no_bt hc h
    refine vr_lc (v := (1 : Int64)) C nd_Md_odds_14 rfl (by decide) ?_
    refine vr_lst (ls' := [some (.ref 0), some (.int a1), some (.long (1 : Int64)), none, none, none, none, none]) C nd_Md_odds_15 rfl rfl ?_
    refine vr_lc (v := (1 : Int64)) C nd_Md_odds_16 rfl (by decide) ?_
    refine vr_lst (ls' := [some (.ref 0), some (.int a1), some (.long (1 : Int64)), none, some (.long (1 : Int64)), none, none, none]) C nd_Md_odds_17 rfl rfl ?_
    refine vr_ic C nd_Md_odds_19 ?_
    refine vr_is (ls' := [some (.ref 0), some (.int a1), some (.long (1 : Int64)), none, some (.long (1 : Int64)), none, some (.int (0 : Int32)), none]) C nd_Md_odds_20 rfl rfl ?_
    obtain ⟨x13, hX14, h⟩ := no_b h
    refine lw_Md_odds_22 C m a1 nj_fu _ _ _ x13 hX14 ?_
    refine vr_al C nd_Md_odds_100 rfl ?_
    refine vr_ll C nd_Md_odds_101 rfl ?_
    refine vr_ll C nd_Md_odds_103 rfl ?_
    refine vr_lsub C nd_Md_odds_104 rfl ?_
    refine vr_ll C nd_Md_odds_105 rfl ?_
    obtain ⟨w15, hV16, h⟩ := no_b h
    refine vr_sVi (hp' := (rp_Md (w15.2))) [.long ((x13.2) - (x13.1)), .long (x13.2)] [] C nd_Md_odds_107 rfl ml_Md_236 my_Md_tellParts (co_Md_tellParts m ((x13.2) - (x13.1)) (x13.2) w15 hV16) ⟨_, _, _, rfl, rfl, rfl⟩ rfl rfl ⟨rfl, rfl, rfl, rfl⟩ (Nat.zero_le _) (Nat.zero_le _) rfl ?_
    have h := no_s h
    subst h
    exact vr_iret C hq nd_Md_odds_110 rfl
  · have h := no_bf hc h
    refine vr_ic C nd_Md_odds_12 ?_
    have h := no_s h
    subst h
    exact vr_iret C hq nd_Md_odds_13 rfl
abbrev nr_Md_lots : Room := { frames := 7, cells := 0, slots := 0, locals := 164 }
theorem lw_Md_lots_58 {G : nj_G} {ad : Nat → Nat} (C : nj_C G nb_Md_lots 8 "NobodyJoinsModel" nr_Md_lots) (f1 : Int32) : ∀ (n : Nat) (m : MdS) (v3 : Int64) (v5 : Int32) (x : MdS), lo_Md_lots_58 f1 n m v3 v5 = some x → nj_V G ad 0 0 165 [some (.ref 0), none, none, none, none, none, none, none] [] (rp_Md x) → nj_V G ad 0 0 58 [some (.ref 0), some (.int f1), none, some (.long v3), none, some (.int v5), none, none] [] (rp_Md m) := by
  intro n
  induction n with
  | zero => intro m v3 v5 x h; rw [lo_Md_lots_58] at h; cases h
  | succ n ih =>
    intro m v3 v5 x h hk
    rw [lo_Md_lots_58] at h
    refine vr_il C nd_Md_lots_58 rfl ?_
    refine vr_il C nd_Md_lots_60 rfl ?_
    refine vr_cm_ge C nd_Md_lots_61 (fun hc => ?_) (fun hc => ?_)
    · have h := no_t hc h
      have h := no_s h
      subst h
      exact vr_wk [1, 3, 5] rfl hk
    · have h := no_f hc h
      refine vr_ll C nd_Md_lots_64 rfl ?_
      refine vr_ldc2 C nd_Md_lots_65 rfl kl_Md_252 ?_
      refine vr_lmul C nd_Md_lots_68 rfl ?_
      refine vr_ldc2 C nd_Md_lots_69 rfl kl_Md_254 ?_
      refine vr_lrem C nd_Md_lots_72 rfl (by decide) ?_
      refine vr_lst (ls' := [some (.ref 0), some (.int f1), none, some (.long (nj_rml (v3 * (48271 : Int64)) (2147483647 : Int64))), none, some (.int v5), none, none]) C nd_Md_lots_73 rfl rfl ?_
      refine vr_ll C nd_Md_lots_74 rfl ?_
      refine vr_al C nd_Md_lots_75 rfl ?_
      refine vr_get (v := .int (md_children m)) C nd_Md_lots_76 rfl fl_Md_142 (at_Md_0 m) rfl ?_
      refine vr_i2l C nd_Md_lots_79 rfl ?_
      obtain ⟨hN5, h⟩ := no_if h
      refine vr_lrem C nd_Md_lots_80 rfl hN5 ?_
      refine vr_l2i C nd_Md_lots_81 rfl ?_
      refine vr_is (ls' := [some (.ref 0), some (.int f1), none, some (.long (nj_rml (v3 * (48271 : Int64)) (2147483647 : Int64))), none, some (.int v5), some (.int (Int64.toInt32 (nj_rml (nj_rml (v3 * (48271 : Int64)) (2147483647 : Int64)) (Int32.toInt64 (md_children m))))), none]) C nd_Md_lots_82 rfl rfl ?_
      refine vr_ll C nd_Md_lots_84 rfl ?_
      refine vr_ldc2 C nd_Md_lots_85 rfl kl_Md_256 ?_
      refine vr_ldiv C nd_Md_lots_88 rfl (by decide) ?_
      refine vr_al C nd_Md_lots_89 rfl ?_
      refine vr_get (v := .int (md_children m)) C nd_Md_lots_90 rfl fl_Md_142 (at_Md_0 m) rfl ?_
      refine vr_i2l C nd_Md_lots_93 rfl ?_
      obtain ⟨hN6, h⟩ := no_if h
      refine vr_lrem C nd_Md_lots_94 rfl hN6 ?_
      refine vr_l2i C nd_Md_lots_95 rfl ?_
      refine vr_is (ls' := [some (.ref 0), some (.int f1), none, some (.long (nj_rml (v3 * (48271 : Int64)) (2147483647 : Int64))), none, some (.int v5), some (.int (Int64.toInt32 (nj_rml (nj_rml (v3 * (48271 : Int64)) (2147483647 : Int64)) (Int32.toInt64 (md_children m))))), some (.int (Int64.toInt32 (nj_rml ((nj_rml (v3 * (48271 : Int64)) (2147483647 : Int64)) / (16 : Int64)) (Int32.toInt64 (md_children m)))))]) C nd_Md_lots_96 rfl rfl ?_
      refine vr_al C nd_Md_lots_98 rfl ?_
      refine vr_al C nd_Md_lots_99 rfl ?_
      refine vr_get (v := .ref 1) C nd_Md_lots_100 rfl fl_Md_7 (at_Md_0 m) rfl ?_
      refine vr_ic C nd_Md_lots_103 ?_
      refine vr_ialk (j := 1) (f := (md_row m)) C nd_Md_lots_104 rfl (at_Md_1 m) (nj_inc rfl) rfl ?_
      obtain ⟨w7, hV8, h⟩ := no_b h
      refine vr_sVi (hp' := (rp_Md m)) [.int ((md_row m) 1)] [] C nd_Md_lots_105 rfl ml_Md_190 my_Md_outs (co_Md_outs m ((md_row m) 1) w7 hV8) ⟨_, _, _, rfl, rfl, rfl⟩ rfl rfl ⟨rfl, rfl, rfl, rfl⟩ (Nat.zero_le _) (Nat.zero_le _) rfl ?_
      refine vr_il C nd_Md_lots_108 rfl ?_
      obtain ⟨w9, hV10, h⟩ := no_b h
      refine vr_cSip [] [.int w7, .int (Int64.toInt32 (nj_rml (nj_rml (v3 * (48271 : Int64)) (2147483647 : Int64)) (Int32.toInt64 (md_children m))))] [] C nd_Md_lots_110 rfl ml_Md_125 my_Md_has (co_Md_has w7 (Int64.toInt32 (nj_rml (nj_rml (v3 * (48271 : Int64)) (2147483647 : Int64)) (Int32.toInt64 (md_children m)))) w9 hV10) (em_E _) rfl rfl ⟨rfl, rfl, rfl, rfl⟩ (Nat.zero_le _) (Nat.zero_le _) rfl ?_
      obtain ⟨p11, hP22, h⟩ := no_b h
      have hj : nj_V G ad 0 0 159 [some (.ref 0), some (.int f1), none, some (.long (nj_rml (v3 * (48271 : Int64)) (2147483647 : Int64))), none, some (.int v5), none, none] [] (rp_Md p11) := by
        refine vr_inc (v := (v5 + (1 : Int32))) (ls' := [some (.ref 0), some (.int f1), none, some (.long (nj_rml (v3 * (48271 : Int64)) (2147483647 : Int64))), none, some (.int (v5 + (1 : Int32))), none, none]) C nd_Md_lots_159 rfl rfl rfl rfl rfl ?_
        refine vr_go C nd_Md_lots_162 ?_
        exact (ih _ _ _ _ h hk)
      clear h
      have h := hP22
      clear hP22
      refine vr_ifb_ne C nd_Md_lots_113 (fun hc => ?_) (fun hc => ?_)
      · have h := no_bt hc h
        refine vr_al C nd_Md_lots_125 rfl ?_
        refine vr_il C nd_Md_lots_126 rfl ?_
        obtain ⟨w12, hV13, h⟩ := no_b h
        refine vr_sVi (hp' := (rp_Md (w12.2))) [.int (Int64.toInt32 (nj_rml (nj_rml (v3 * (48271 : Int64)) (2147483647 : Int64)) (Int32.toInt64 (md_children m))))] [] C nd_Md_lots_128 rfl ml_Md_193 my_Md_doTurn (co_Md_doTurn m (Int64.toInt32 (nj_rml (nj_rml (v3 * (48271 : Int64)) (2147483647 : Int64)) (Int32.toInt64 (md_children m)))) w12 hV13) ⟨_, _, _, rfl, rfl, rfl⟩ rfl rfl ⟨rfl, rfl, rfl, rfl⟩ (Nat.zero_le _) (Nat.zero_le _) rfl ?_
        refine vr_pop C nd_Md_lots_131 rfl rfl ?_
        refine vr_go C nd_Md_lots_132 ?_
        have h := no_s h
        subst h
        exact vr_wk [6, 7] rfl hj
      · have h := no_bf hc h
        refine vr_al C nd_Md_lots_116 rfl ?_
        refine vr_il C nd_Md_lots_117 rfl ?_
        obtain ⟨w14, hV15, h⟩ := no_b h
        refine vr_sVi (hp' := (rp_Md m)) [.int (Int64.toInt32 (nj_rml (nj_rml (v3 * (48271 : Int64)) (2147483647 : Int64)) (Int32.toInt64 (md_children m))))] [] C nd_Md_lots_119 rfl ml_Md_196 my_Md_mayJoin (co_Md_mayJoin m (Int64.toInt32 (nj_rml (nj_rml (v3 * (48271 : Int64)) (2147483647 : Int64)) (Int32.toInt64 (md_children m)))) w14 hV15) ⟨_, _, _, rfl, rfl, rfl⟩ rfl rfl ⟨rfl, rfl, rfl, rfl⟩ (Nat.zero_le _) (Nat.zero_le _) rfl ?_
        refine vr_ifb_eq C nd_Md_lots_122 (fun hc => ?_) (fun hc => ?_)
        · have h := no_bf hc h
          refine vr_il C nd_Md_lots_135 rfl ?_
          refine vr_il C nd_Md_lots_137 rfl ?_
          refine vr_cm_ne C nd_Md_lots_139 (fun hc => ?_) (fun hc => ?_)
          · have h := no_f hc h
            refine vr_al C nd_Md_lots_150 rfl ?_
            refine vr_il C nd_Md_lots_151 rfl ?_
            refine vr_il C nd_Md_lots_153 rfl ?_
            obtain ⟨w16, hV17, h⟩ := no_b h
            refine vr_sVi (hp' := (rp_Md (w16.2))) [.int (Int64.toInt32 (nj_rml (nj_rml (v3 * (48271 : Int64)) (2147483647 : Int64)) (Int32.toInt64 (md_children m)))), .int (Int64.toInt32 (nj_rml ((nj_rml (v3 * (48271 : Int64)) (2147483647 : Int64)) / (16 : Int64)) (Int32.toInt64 (md_children m))))] [] C nd_Md_lots_155 rfl ml_Md_205 my_Md_doGrudge (co_Md_doGrudge m (Int64.toInt32 (nj_rml (nj_rml (v3 * (48271 : Int64)) (2147483647 : Int64)) (Int32.toInt64 (md_children m)))) (Int64.toInt32 (nj_rml ((nj_rml (v3 * (48271 : Int64)) (2147483647 : Int64)) / (16 : Int64)) (Int32.toInt64 (md_children m)))) w16 hV17) ⟨_, _, _, rfl, rfl, rfl⟩ rfl rfl ⟨rfl, rfl, rfl, rfl⟩ (Nat.zero_le _) (Nat.zero_le _) rfl ?_
            refine vr_pop C nd_Md_lots_158 rfl rfl ?_
            have h := no_s h
            subst h
            exact vr_wk [6, 7] rfl hj
          · have h := no_t hc h
            refine vr_al C nd_Md_lots_142 rfl ?_
            obtain ⟨w18, hV19, h⟩ := no_b h
            refine vr_sVi (hp' := (rp_Md (w18.2))) [] [] C nd_Md_lots_143 rfl ml_Md_199 my_Md_doFee (co_Md_doFee m w18 hV19) ⟨_, _, _, rfl, rfl, rfl⟩ rfl rfl ⟨rfl, rfl, rfl, rfl⟩ (Nat.zero_le _) (Nat.zero_le _) rfl ?_
            refine vr_pop C nd_Md_lots_146 rfl rfl ?_
            refine vr_go C nd_Md_lots_147 ?_
            have h := no_s h
            subst h
            exact vr_wk [6, 7] rfl hj
        · have h := no_bt hc h
          refine vr_al C nd_Md_lots_125 rfl ?_
          refine vr_il C nd_Md_lots_126 rfl ?_
          obtain ⟨w20, hV21, h⟩ := no_b h
          refine vr_sVi (hp' := (rp_Md (w20.2))) [.int (Int64.toInt32 (nj_rml (nj_rml (v3 * (48271 : Int64)) (2147483647 : Int64)) (Int32.toInt64 (md_children m))))] [] C nd_Md_lots_128 rfl ml_Md_193 my_Md_doTurn (co_Md_doTurn m (Int64.toInt32 (nj_rml (nj_rml (v3 * (48271 : Int64)) (2147483647 : Int64)) (Int32.toInt64 (md_children m)))) w20 hV21) ⟨_, _, _, rfl, rfl, rfl⟩ rfl rfl ⟨rfl, rfl, rfl, rfl⟩ (Nat.zero_le _) (Nat.zero_le _) rfl ?_
          refine vr_pop C nd_Md_lots_131 rfl rfl ?_
          refine vr_go C nd_Md_lots_132 ?_
          have h := no_s h
          subst h
          exact vr_wk [6, 7] rfl hj
theorem co_Md_lots (m : MdS) (a1 : Int32) (a2 : Int32) (x : Int32 × MdS) (h : mo_Md_lots m a1 a2 = some x) : nj_Con ny_Md_lots nb_Md_lots 8 (some .int) nr_Md_lots (rp_Md m) [.ref 0, .int a1, .int a2] (some (.int (x.1))) (rp_Md (x.2)) := by
  rw [mo_Md_lots] at h
  refine nj_con (by decide) rfl 5 rfl (fun G ad C hq => ?_)
  have C : nj_C G nb_Md_lots 8 "NobodyJoinsModel" nr_Md_lots := C
  show nj_V G ad 0 0 0 [some (.ref 0), some (.int a1), some (.int a2), none, none, none, none, none] [] (rp_Md m)
  refine vr_il C nd_Md_lots_0 rfl ?_
  refine vr_i2l C nd_Md_lots_1 rfl ?_
  refine vr_lc (v := (1 : Int64)) C nd_Md_lots_2 rfl (by decide) ?_
  refine vr_ldc2 C nd_Md_lots_3 rfl kl_Md_248 ?_
  obtain ⟨w1, hV2, h⟩ := no_b h
  refine vr_cSip [] [.long (Int32.toInt64 a1), .long (1 : Int64), .long (20 : Int64)] [] C nd_Md_lots_6 rfl ml_Md_60 my_Md_in (co_Md_in (Int32.toInt64 a1) (1 : Int64) (20 : Int64) w1 hV2) (em_E _) rfl rfl ⟨rfl, rfl, rfl, rfl⟩ (Nat.zero_le _) (Nat.zero_le _) rfl ?_
  refine vr_ifb_eq C nd_Md_lots_9 (fun hc => ?_) (fun hc => ?_)
  · have h := no_bf hc h
    refine vr_ic C nd_Md_lots_24 ?_
    have h := no_s h
    subst h
    exact vr_iret C hq nd_Md_lots_25 rfl
  · have h := no_bt hc h
    refine vr_il C nd_Md_lots_12 rfl ?_
    refine vr_i2l C nd_Md_lots_13 rfl ?_
    refine vr_lc (v := (1 : Int64)) C nd_Md_lots_14 rfl (by decide) ?_
    refine vr_ldc2 C nd_Md_lots_15 rfl kl_Md_250 ?_
    obtain ⟨w3, hV4, h⟩ := no_b h
    refine vr_cSip [] [.long (Int32.toInt64 a2), .long (1 : Int64), .long (2147483646 : Int64)] [] C nd_Md_lots_18 rfl ml_Md_60 my_Md_in (co_Md_in (Int32.toInt64 a2) (1 : Int64) (2147483646 : Int64) w3 hV4) (em_E _) rfl rfl ⟨rfl, rfl, rfl, rfl⟩ (Nat.zero_le _) (Nat.zero_le _) rfl ?_
    refine vr_ifb_ne C nd_Md_lots_21 (fun hc => ?_) (fun hc => ?_)
    · have h := no_bt hc h
      refine vr_al C nd_Md_lots_26 rfl ?_
      refine vr_get (v := .int (md_children m)) C nd_Md_lots_27 rfl fl_Md_142 (at_Md_0 m) rfl ?_
      refine vr_if_ne C nd_Md_lots_30 (fun hc => ?_) (fun hc => ?_)
      · have h := no_f hc h
        refine vr_al C nd_Md_lots_36 rfl ?_
        refine vr_get (v := .ref 1) C nd_Md_lots_37 rfl fl_Md_7 (at_Md_0 m) rfl ?_
        refine vr_ic C nd_Md_lots_40 ?_
        refine vr_ialk (j := 0) (f := (md_row m)) C nd_Md_lots_41 rfl (at_Md_1 m) (nj_inc rfl) rfl ?_
        refine vr_il C nd_Md_lots_42 rfl ?_
        refine vr_iadd C nd_Md_lots_43 rfl ?_
        refine vr_ic C nd_Md_lots_44 ?_
        refine vr_cm_le C nd_Md_lots_46 (fun hc => ?_) (fun hc => ?_)
        · have h := no_t hc h
          refine vr_il C nd_Md_lots_52 rfl ?_
          refine vr_i2l C nd_Md_lots_53 rfl ?_
          refine vr_lst (ls' := [some (.ref 0), some (.int a1), some (.int a2), some (.long (Int32.toInt64 a2)), none, none, none, none]) C nd_Md_lots_54 rfl rfl ?_
          refine vr_ic C nd_Md_lots_55 ?_
          refine vr_is (ls' := [some (.ref 0), some (.int a1), some (.int a2), some (.long (Int32.toInt64 a2)), none, some (.int (0 : Int32)), none, none]) C nd_Md_lots_56 rfl rfl ?_
          refine vr_wk (ls' := [some (.ref 0), some (.int a1), none, some (.long (Int32.toInt64 a2)), none, some (.int (0 : Int32)), none, none]) [2] rfl ?_
          obtain ⟨x23, hX24, h⟩ := no_b h
          refine lw_Md_lots_58 C a1 nj_fu _ _ _ x23 hX24 ?_
          refine vr_al C nd_Md_lots_165 rfl ?_
          refine vr_get (v := .ref 1) C nd_Md_lots_166 rfl fl_Md_7 (at_Md_0 x23) rfl ?_
          refine vr_ic C nd_Md_lots_169 ?_
          refine vr_ialk (j := 1) (f := (md_row x23)) C nd_Md_lots_170 rfl (at_Md_1 x23) (nj_inc rfl) rfl ?_
          obtain ⟨w25, hV26, h⟩ := no_b h
          refine vr_cSip [] [.int ((md_row x23) 1)] [] C nd_Md_lots_171 rfl ml_Md_184 my_Md_bits (co_Md_bits ((md_row x23) 1) w25 hV26) (em_E _) rfl rfl ⟨rfl, rfl, rfl, rfl⟩ (Nat.zero_le _) (Nat.zero_le _) rfl ?_
          have h := no_s h
          subst h
          exact vr_iret C hq nd_Md_lots_174 rfl
        · have h := no_f hc h
          refine vr_ic C nd_Md_lots_49 ?_
          have h := no_s h
          subst h
          exact vr_iret C hq nd_Md_lots_51 rfl
      · have h := no_t hc h
        refine vr_ic C nd_Md_lots_33 ?_
        have h := no_s h
        subst h
        exact vr_iret C hq nd_Md_lots_35 rfl
    · have h := no_bf hc h
      refine vr_ic C nd_Md_lots_24 ?_
      have h := no_s h
      subst h
      exact vr_iret C hq nd_Md_lots_25 rfl
abbrev nr_Md_asked : Room := { frames := 0, cells := 0, slots := 0, locals := 0 }
theorem co_Md_asked (m : MdS) (x : Int32) (h : mo_Md_asked m = some x) : nj_Con ny_Md_asked nb_Md_asked 1 (some .int) nr_Md_asked (rp_Md m) [.ref 0] (some (.int x)) (rp_Md m) := by
  rw [mo_Md_asked] at h
  refine nj_con (by decide) rfl 0 rfl (fun G ad C hq => ?_)
  have C : nj_C G nb_Md_asked 1 "NobodyJoinsModel" nr_Md_asked := C
  show nj_V G ad 0 0 0 [some (.ref 0)] [] (rp_Md m)
  refine vr_al C nd_Md_asked_0 rfl ?_
  refine vr_get (v := .int (md_asked m)) C nd_Md_asked_1 rfl fl_Md_55 (at_Md_0 m) rfl ?_
  have h := no_s h
  subst h
  exact vr_iret C hq nd_Md_asked_4 rfl
abbrev nr_Md_upper : Room := { frames := 0, cells := 0, slots := 0, locals := 0 }
theorem co_Md_upper (m : MdS) (x : Int64) (h : mo_Md_upper m = some x) : nj_Con ny_Md_upper nb_Md_upper 1 (some .long) nr_Md_upper (rp_Md m) [.ref 0] (some (.long x)) (rp_Md m) := by
  rw [mo_Md_upper] at h
  refine nj_con (by decide) rfl 0 rfl (fun G ad C hq => ?_)
  have C : nj_C G nb_Md_upper 1 "NobodyJoinsModel" nr_Md_upper := C
  show nj_V G ad 0 0 0 [some (.ref 0)] [] (rp_Md m)
  refine vr_al C nd_Md_upper_0 rfl ?_
  refine vr_get (v := .long (md_upper m)) C nd_Md_upper_1 rfl fl_Md_216 (at_Md_0 m) rfl ?_
  have h := no_s h
  subst h
  exact vr_lret C hq nd_Md_upper_4 rfl
abbrev nr_Md_lower : Room := { frames := 0, cells := 0, slots := 0, locals := 0 }
theorem co_Md_lower (m : MdS) (x : Int64) (h : mo_Md_lower m = some x) : nj_Con ny_Md_lower nb_Md_lower 1 (some .long) nr_Md_lower (rp_Md m) [.ref 0] (some (.long x)) (rp_Md m) := by
  rw [mo_Md_lower] at h
  refine nj_con (by decide) rfl 0 rfl (fun G ad C hq => ?_)
  have C : nj_C G nb_Md_lower 1 "NobodyJoinsModel" nr_Md_lower := C
  show nj_V G ad 0 0 0 [some (.ref 0)] [] (rp_Md m)
  refine vr_al C nd_Md_lower_0 rfl ?_
  refine vr_get (v := .long (md_lower m)) C nd_Md_lower_1 rfl fl_Md_28 (at_Md_0 m) rfl ?_
  have h := no_s h
  subst h
  exact vr_lret C hq nd_Md_lower_4 rfl
abbrev nr_Md_presidents : Room := { frames := 1, cells := 0, slots := 0, locals := 22 }
theorem lw_Md_presidents_4 {G : nj_G} {ad : Nat → Nat} (C : nj_C G nb_Md_presidents 3 "NobodyJoinsModel" nr_Md_presidents) (m : MdS) : ∀ (n : Nat) (v1 : Int32) (v2 : Int32) (x : Int32), lo_Md_presidents_4 m n v1 v2 = some x → nj_V G ad 0 0 35 [none, some (.int x), none] [] (rp_Md m) → nj_V G ad 0 0 4 [some (.ref 0), some (.int v1), some (.int v2)] [] (rp_Md m) := by
  intro n
  induction n with
  | zero => intro v1 v2 x h; rw [lo_Md_presidents_4] at h; cases h
  | succ n ih =>
    intro v1 v2 x h hk
    rw [lo_Md_presidents_4] at h
    refine vr_il C nd_Md_presidents_4 rfl ?_
    refine vr_al C nd_Md_presidents_5 rfl ?_
    refine vr_get (v := .int (md_children m)) C nd_Md_presidents_6 rfl fl_Md_142 (at_Md_0 m) rfl ?_
    refine vr_cm_ge C nd_Md_presidents_9 (fun hc => ?_) (fun hc => ?_)
    · have h := no_t hc h
      have h := no_s h
      subst h
      exact vr_wk [0, 2] rfl hk
    · have h := no_f hc h
      refine vr_il C nd_Md_presidents_12 rfl ?_
      refine vr_al C nd_Md_presidents_13 rfl ?_
      refine vr_il C nd_Md_presidents_14 rfl ?_
      refine vr_ic C nd_Md_presidents_15 ?_
      obtain ⟨w1, hV2, h⟩ := no_b h
      refine vr_sVi (hp' := (rp_Md m)) [.int v2, .int (1 : Int32)] [.int v1] C nd_Md_presidents_16 rfl ml_Md_181 my_Md_isOf (co_Md_isOf m v2 (1 : Int32) w1 hV2) ⟨_, _, _, rfl, rfl, rfl⟩ rfl rfl ⟨rfl, rfl, rfl, rfl⟩ (Nat.zero_le _) (Nat.zero_le _) rfl ?_
      obtain ⟨p3, hP4, h⟩ := no_b h
      have hj : nj_V G ad 0 0 27 [some (.ref 0), none, some (.int v2)] [.int p3, .int v1] (rp_Md m) := by
        refine vr_iadd C nd_Md_presidents_27 rfl ?_
        refine vr_is (ls' := [some (.ref 0), some (.int (v1 + p3)), some (.int v2)]) C nd_Md_presidents_28 rfl rfl ?_
        refine vr_inc (v := (v2 + (1 : Int32))) (ls' := [some (.ref 0), some (.int (v1 + p3)), some (.int (v2 + (1 : Int32)))]) C nd_Md_presidents_29 rfl rfl rfl rfl rfl ?_
        refine vr_go C nd_Md_presidents_32 ?_
        exact (ih _ _ _ h hk)
      clear h
      have h := hP4
      clear hP4
      refine vr_ifb_eq C nd_Md_presidents_19 (fun hc => ?_) (fun hc => ?_)
      · have h := no_bf hc h
        refine vr_ic C nd_Md_presidents_26 ?_
        have h := no_s h
        subst h
        exact vr_wk [1] rfl hj
      · have h := no_bt hc h
        refine vr_ic C nd_Md_presidents_22 ?_
        refine vr_go C nd_Md_presidents_23 ?_
        have h := no_s h
        subst h
        exact vr_wk [1] rfl hj
theorem co_Md_presidents (m : MdS) (x : Int32) (h : mo_Md_presidents m = some x) : nj_Con ny_Md_presidents nb_Md_presidents 3 (some .int) nr_Md_presidents (rp_Md m) [.ref 0] (some (.int x)) (rp_Md m) := by
  rw [mo_Md_presidents] at h
  refine nj_con (by decide) rfl 2 rfl (fun G ad C hq => ?_)
  have C : nj_C G nb_Md_presidents 3 "NobodyJoinsModel" nr_Md_presidents := C
  show nj_V G ad 0 0 0 [some (.ref 0), none, none] [] (rp_Md m)
  refine vr_ic C nd_Md_presidents_0 ?_
  refine vr_is (ls' := [some (.ref 0), some (.int (0 : Int32)), none]) C nd_Md_presidents_1 rfl rfl ?_
  refine vr_ic C nd_Md_presidents_2 ?_
  refine vr_is (ls' := [some (.ref 0), some (.int (0 : Int32)), some (.int (0 : Int32))]) C nd_Md_presidents_3 rfl rfl ?_
  obtain ⟨x5, hX6, h⟩ := no_b h
  refine lw_Md_presidents_4 C m nj_fu _ _ x5 hX6 ?_
  refine vr_il C nd_Md_presidents_35 rfl ?_
  have h := no_s h
  subst h
  exact vr_iret C hq nd_Md_presidents_36 rfl
abbrev nr_Md_thereOf : Room := { frames := 0, cells := 0, slots := 0, locals := 0 }
theorem lw_Md_thereOf_4 {G : nj_G} {ad : Nat → Nat} (C : nj_C G nb_Md_thereOf 4 "NobodyJoinsModel" nr_Md_thereOf) (m : MdS) (f1 : Int32) : ∀ (n : Nat) (v2 : Int32) (v3 : Int32) (x : Int32), lo_Md_thereOf_4 m f1 n v2 v3 = some x → nj_V G ad 0 0 97 [none, none, some (.int x), none] [] (rp_Md m) → nj_V G ad 0 0 4 [some (.ref 0), some (.int f1), some (.int v2), some (.int v3)] [] (rp_Md m) := by
  intro n
  induction n with
  | zero => intro v2 v3 x h; rw [lo_Md_thereOf_4] at h; cases h
  | succ n ih =>
    intro v2 v3 x h hk
    rw [lo_Md_thereOf_4] at h
    refine vr_il C nd_Md_thereOf_4 rfl ?_
    refine vr_ic C nd_Md_thereOf_5 ?_
    refine vr_cm_ge C nd_Md_thereOf_7 (fun hc => ?_) (fun hc => ?_)
    · have h := no_t hc h
      have h := no_s h
      subst h
      exact vr_wk [0, 1, 3] rfl hk
    · have h := no_f hc h
      refine vr_il C nd_Md_thereOf_10 rfl ?_
      refine vr_il C nd_Md_thereOf_11 rfl ?_
      refine vr_ic C nd_Md_thereOf_12 ?_
      obtain ⟨p1, hP5, h⟩ := no_b h
      have hj : nj_V G ad 0 0 89 [some (.ref 0), some (.int f1), none, some (.int v3)] [.int p1, .int v2] (rp_Md m) := by
        refine vr_iadd C nd_Md_thereOf_89 rfl ?_
        refine vr_is (ls' := [some (.ref 0), some (.int f1), some (.int (v2 + p1)), some (.int v3)]) C nd_Md_thereOf_90 rfl rfl ?_
        refine vr_inc (v := (v3 + (1 : Int32))) (ls' := [some (.ref 0), some (.int f1), some (.int (v2 + p1)), some (.int (v3 + (1 : Int32)))]) C nd_Md_thereOf_91 rfl rfl rfl rfl rfl ?_
        refine vr_go C nd_Md_thereOf_94 ?_
        exact (ih _ _ _ h hk)
      clear h
      have h := hP5
      clear hP5
      refine vr_cm_ne C nd_Md_thereOf_14 (fun hc => ?_) (fun hc => ?_)
      · have h := no_f hc h
        refine vr_il C nd_Md_thereOf_34 rfl ?_
        refine vr_ic C nd_Md_thereOf_35 ?_
        refine vr_cm_ne C nd_Md_thereOf_37 (fun hc => ?_) (fun hc => ?_)
        · have h := no_f hc h
          refine vr_il C nd_Md_thereOf_62 rfl ?_
          refine vr_ic C nd_Md_thereOf_63 ?_
          refine vr_cm_ge C nd_Md_thereOf_64 (fun hc => ?_) (fun hc => ?_)
          · have h := no_t hc h
            refine vr_ic C nd_Md_thereOf_88 ?_
            have h := no_s h
            subst h
            exact vr_wk [2] rfl hj
          · have h := no_f hc h
            refine vr_al C nd_Md_thereOf_67 rfl ?_
            refine vr_get (v := .ref 1) C nd_Md_thereOf_68 rfl fl_Md_7 (at_Md_0 m) rfl ?_
            refine vr_ic C nd_Md_thereOf_71 ?_
            refine vr_ic C nd_Md_thereOf_74 ?_
            refine vr_il C nd_Md_thereOf_75 rfl ?_
            refine vr_iadd C nd_Md_thereOf_76 rfl ?_
            refine vr_imul C nd_Md_thereOf_77 rfl ?_
            refine vr_ic C nd_Md_thereOf_78 ?_
            refine vr_iadd C nd_Md_thereOf_79 rfl ?_
            obtain ⟨hN2, h⟩ := no_i h
            refine vr_ialk (j := (nj_n (((576 : Int32) * ((1 : Int32) + v3)) + (0 : Int32)))) (f := (md_row m)) C nd_Md_thereOf_80 rfl (at_Md_1 m) hN2 rfl ?_
            refine vr_if_lt C nd_Md_thereOf_81 (fun hc => ?_) (fun hc => ?_)
            · have h := no_t hc h
              refine vr_ic C nd_Md_thereOf_88 ?_
              have h := no_s h
              subst h
              exact vr_wk [2] rfl hj
            · have h := no_f hc h
              refine vr_ic C nd_Md_thereOf_84 ?_
              refine vr_go C nd_Md_thereOf_85 ?_
              have h := no_s h
              subst h
              exact vr_wk [2] rfl hj
        · have h := no_t hc h
          refine vr_il C nd_Md_thereOf_40 rfl ?_
          refine vr_ic C nd_Md_thereOf_41 ?_
          refine vr_cm_ge C nd_Md_thereOf_42 (fun hc => ?_) (fun hc => ?_)
          · have h := no_t hc h
            refine vr_ic C nd_Md_thereOf_58 ?_
            refine vr_go C nd_Md_thereOf_59 ?_
            have h := no_s h
            subst h
            exact vr_wk [2] rfl hj
          · have h := no_f hc h
            refine vr_al C nd_Md_thereOf_45 rfl ?_
            refine vr_get (v := .ref 5) C nd_Md_thereOf_46 rfl fl_Md_22 (at_Md_0 m) rfl ?_
            refine vr_il C nd_Md_thereOf_49 rfl ?_
            obtain ⟨hN3, h⟩ := no_i h
            refine vr_ialk (j := (nj_n v3)) (f := (md_lengths m)) C nd_Md_thereOf_50 rfl (at_Md_5 m) hN3 rfl ?_
            refine vr_if_lt C nd_Md_thereOf_51 (fun hc => ?_) (fun hc => ?_)
            · have h := no_t hc h
              refine vr_ic C nd_Md_thereOf_58 ?_
              refine vr_go C nd_Md_thereOf_59 ?_
              have h := no_s h
              subst h
              exact vr_wk [2] rfl hj
            · have h := no_f hc h
              refine vr_ic C nd_Md_thereOf_54 ?_
              refine vr_go C nd_Md_thereOf_55 ?_
              have h := no_s h
              subst h
              exact vr_wk [2] rfl hj
      · have h := no_t hc h
        refine vr_al C nd_Md_thereOf_17 rfl ?_
        refine vr_get (v := .ref 3) C nd_Md_thereOf_18 rfl fl_Md_16 (at_Md_0 m) rfl ?_
        refine vr_il C nd_Md_thereOf_21 rfl ?_
        obtain ⟨hN4, h⟩ := no_i h
        refine vr_ialk (j := (nj_n v3)) (f := (md_sizes m)) C nd_Md_thereOf_22 rfl (at_Md_3 m) hN4 rfl ?_
        refine vr_if_ge C nd_Md_thereOf_23 (fun hc => ?_) (fun hc => ?_)
        · have h := no_t hc h
          refine vr_ic C nd_Md_thereOf_30 ?_
          refine vr_go C nd_Md_thereOf_31 ?_
          have h := no_s h
          subst h
          exact vr_wk [2] rfl hj
        · have h := no_f hc h
          refine vr_ic C nd_Md_thereOf_26 ?_
          refine vr_go C nd_Md_thereOf_27 ?_
          have h := no_s h
          subst h
          exact vr_wk [2] rfl hj
theorem co_Md_thereOf (m : MdS) (a1 : Int32) (x : Int32) (h : mo_Md_thereOf m a1 = some x) : nj_Con ny_Md_thereOf nb_Md_thereOf 4 (some .int) nr_Md_thereOf (rp_Md m) [.ref 0, .int a1] (some (.int x)) (rp_Md m) := by
  rw [mo_Md_thereOf] at h
  refine nj_con (by decide) rfl 2 rfl (fun G ad C hq => ?_)
  have C : nj_C G nb_Md_thereOf 4 "NobodyJoinsModel" nr_Md_thereOf := C
  show nj_V G ad 0 0 0 [some (.ref 0), some (.int a1), none, none] [] (rp_Md m)
  refine vr_ic C nd_Md_thereOf_0 ?_
  refine vr_is (ls' := [some (.ref 0), some (.int a1), some (.int (0 : Int32)), none]) C nd_Md_thereOf_1 rfl rfl ?_
  refine vr_ic C nd_Md_thereOf_2 ?_
  refine vr_is (ls' := [some (.ref 0), some (.int a1), some (.int (0 : Int32)), some (.int (0 : Int32))]) C nd_Md_thereOf_3 rfl rfl ?_
  obtain ⟨x6, hX7, h⟩ := no_b h
  refine lw_Md_thereOf_4 C m a1 nj_fu _ _ x6 hX7 ?_
  refine vr_il C nd_Md_thereOf_97 rfl ?_
  have h := no_s h
  subst h
  exact vr_iret C hq nd_Md_thereOf_98 rfl
abbrev nr_Md_countOf : Room := { frames := 2, cells := 0, slots := 0, locals := 44 }
theorem co_Md_countOf (m : MdS) (a1 : Int32) (x : Int32) (h : mo_Md_countOf m a1 = some x) : nj_Con ny_Md_countOf nb_Md_countOf 2 (some .int) nr_Md_countOf (rp_Md m) [.ref 0, .int a1] (some (.int x)) (rp_Md m) := by
  rw [mo_Md_countOf] at h
  refine nj_con (by decide) rfl 0 rfl (fun G ad C hq => ?_)
  have C : nj_C G nb_Md_countOf 2 "NobodyJoinsModel" nr_Md_countOf := C
  show nj_V G ad 0 0 0 [some (.ref 0), some (.int a1)] [] (rp_Md m)
  refine vr_il C nd_Md_countOf_0 rfl ?_
  by_cases hS1 : a1 = (0 : Int32)
  · have h := no_t hS1 h
    refine vr_tsI (0 : Int32) C nd_Md_countOf_1 hS1 (by decide) (by decide) rfl rfl ?_
    refine vr_al C nd_Md_countOf_40 rfl ?_
    refine vr_get (v := .int (md_children m)) C nd_Md_countOf_41 rfl fl_Md_142 (at_Md_0 m) rfl ?_
    have h := no_s h
    subst h
    exact vr_iret C hq nd_Md_countOf_44 rfl
  have h := no_f hS1 h
  by_cases hS2 : a1 = (1 : Int32)
  · have h := no_t hS2 h
    refine vr_tsI (1 : Int32) C nd_Md_countOf_1 hS2 (by decide) (by decide) rfl rfl ?_
    refine vr_al C nd_Md_countOf_45 rfl ?_
    refine vr_get (v := .ref 1) C nd_Md_countOf_46 rfl fl_Md_7 (at_Md_0 m) rfl ?_
    refine vr_ic C nd_Md_countOf_49 ?_
    refine vr_ialk (j := 1) (f := (md_row m)) C nd_Md_countOf_50 rfl (at_Md_1 m) (nj_inc rfl) rfl ?_
    have h := no_s h
    subst h
    exact vr_iret C hq nd_Md_countOf_51 rfl
  have h := no_f hS2 h
  by_cases hS3 : a1 = (2 : Int32)
  · have h := no_t hS3 h
    refine vr_tsI (2 : Int32) C nd_Md_countOf_1 hS3 (by decide) (by decide) rfl rfl ?_
    refine vr_al C nd_Md_countOf_52 rfl ?_
    refine vr_get (v := .ref 1) C nd_Md_countOf_53 rfl fl_Md_7 (at_Md_0 m) rfl ?_
    refine vr_ic C nd_Md_countOf_56 ?_
    refine vr_ialk (j := 2) (f := (md_row m)) C nd_Md_countOf_57 rfl (at_Md_1 m) (nj_inc rfl) rfl ?_
    have h := no_s h
    subst h
    exact vr_iret C hq nd_Md_countOf_58 rfl
  have h := no_f hS3 h
  by_cases hS4 : a1 = (3 : Int32)
  · have h := no_t hS4 h
    refine vr_tsI (3 : Int32) C nd_Md_countOf_1 hS4 (by decide) (by decide) rfl rfl ?_
    refine vr_al C nd_Md_countOf_59 rfl ?_
    refine vr_get (v := .ref 1) C nd_Md_countOf_60 rfl fl_Md_7 (at_Md_0 m) rfl ?_
    refine vr_ic C nd_Md_countOf_63 ?_
    refine vr_ialk (j := 0) (f := (md_row m)) C nd_Md_countOf_64 rfl (at_Md_1 m) (nj_inc rfl) rfl ?_
    have h := no_s h
    subst h
    exact vr_iret C hq nd_Md_countOf_65 rfl
  have h := no_f hS4 h
  by_cases hS7 : a1 = (4 : Int32)
  · have h := no_t hS7 h
    refine vr_tsI (4 : Int32) C nd_Md_countOf_1 hS7 (by decide) (by decide) rfl rfl ?_
    refine vr_al C nd_Md_countOf_66 rfl ?_
    refine vr_al C nd_Md_countOf_67 rfl ?_
    refine vr_get (v := .ref 1) C nd_Md_countOf_68 rfl fl_Md_7 (at_Md_0 m) rfl ?_
    refine vr_ic C nd_Md_countOf_71 ?_
    refine vr_ialk (j := 1) (f := (md_row m)) C nd_Md_countOf_72 rfl (at_Md_1 m) (nj_inc rfl) rfl ?_
    obtain ⟨w5, hV6, h⟩ := no_b h
    refine vr_sVi (hp' := (rp_Md m)) [.int ((md_row m) 1)] [] C nd_Md_countOf_73 rfl ml_Md_154 my_Md_votesOf (co_Md_votesOf m ((md_row m) 1) w5 hV6) ⟨_, _, _, rfl, rfl, rfl⟩ rfl rfl ⟨rfl, rfl, rfl, rfl⟩ (Nat.zero_le _) (Nat.zero_le _) rfl ?_
    have h := no_s h
    subst h
    exact vr_iret C hq nd_Md_countOf_76 rfl
  have h := no_f hS7 h
  by_cases hS10 : a1 = (5 : Int32)
  · have h := no_t hS10 h
    refine vr_tsI (5 : Int32) C nd_Md_countOf_1 hS10 (by decide) (by decide) rfl rfl ?_
    refine vr_al C nd_Md_countOf_77 rfl ?_
    obtain ⟨w8, hV9, h⟩ := no_b h
    refine vr_sVi (hp' := (rp_Md m)) [] [] C nd_Md_countOf_78 rfl ml_Md_258 my_Md_presidents (co_Md_presidents m w8 hV9) ⟨_, _, _, rfl, rfl, rfl⟩ rfl rfl ⟨rfl, rfl, rfl, rfl⟩ (Nat.zero_le _) (Nat.zero_le _) rfl ?_
    have h := no_s h
    subst h
    exact vr_iret C hq nd_Md_countOf_81 rfl
  have h := no_f hS10 h
  refine vr_tsO C nd_Md_countOf_1 (by have a0 := lv_neT (a := 0) hS1 (by decide); have a1 := lv_neT (a := 1) hS2 (by decide); have a2 := lv_neT (a := 2) hS3 (by decide); have a3 := lv_neT (a := 3) hS4 (by decide); have a4 := lv_neT (a := 4) hS7 (by decide); have a5 := lv_neT (a := 5) hS10 (by decide); omega) rfl ?_
  refine vr_al C nd_Md_countOf_82 rfl ?_
  refine vr_il C nd_Md_countOf_83 rfl ?_
  obtain ⟨w11, hV12, h⟩ := no_b h
  refine vr_sVi (hp' := (rp_Md m)) [.int a1] [] C nd_Md_countOf_84 rfl ml_Md_261 my_Md_thereOf (co_Md_thereOf m a1 w11 hV12) ⟨_, _, _, rfl, rfl, rfl⟩ rfl rfl ⟨rfl, rfl, rfl, rfl⟩ (Nat.zero_le _) (Nat.zero_le _) rfl ?_
  have h := no_s h
  subst h
  exact vr_iret C hq nd_Md_countOf_87 rfl
abbrev nr_Md_count : Room := { frames := 3, cells := 0, slots := 0, locals := 65 }
theorem co_Md_count (m : MdS) (a1 : Int32) (x : Int32) (h : mo_Md_count m a1 = some x) : nj_Con ny_Md_count nb_Md_count 2 (some .int) nr_Md_count (rp_Md m) [.ref 0, .int a1] (some (.int x)) (rp_Md m) := by
  rw [mo_Md_count] at h
  refine nj_con (by decide) rfl 0 rfl (fun G ad C hq => ?_)
  have C : nj_C G nb_Md_count 2 "NobodyJoinsModel" nr_Md_count := C
  show nj_V G ad 0 0 0 [some (.ref 0), some (.int a1)] [] (rp_Md m)
  refine vr_il C nd_Md_count_0 rfl ?_
  refine vr_i2l C nd_Md_count_1 rfl ?_
  refine vr_lc (v := (0 : Int64)) C nd_Md_count_2 rfl (by decide) ?_
  refine vr_ldc2 C nd_Md_count_3 rfl kl_Md_264 ?_
  obtain ⟨w1, hV2, h⟩ := no_b h
  refine vr_cSip [] [.long (Int32.toInt64 a1), .long (0 : Int64), .long (8 : Int64)] [] C nd_Md_count_6 rfl ml_Md_60 my_Md_in (co_Md_in (Int32.toInt64 a1) (0 : Int64) (8 : Int64) w1 hV2) (em_E _) rfl rfl ⟨rfl, rfl, rfl, rfl⟩ (Nat.zero_le _) (Nat.zero_le _) rfl ?_
  refine vr_ifb_eq C nd_Md_count_9 (fun hc => ?_) (fun hc => ?_)
  · have h := no_bf hc h
    refine vr_ic C nd_Md_count_20 ?_
    have h := no_s h
    subst h
    exact vr_iret C hq nd_Md_count_21 rfl
  · have h := no_bt hc h
    refine vr_al C nd_Md_count_12 rfl ?_
    refine vr_il C nd_Md_count_13 rfl ?_
    obtain ⟨w3, hV4, h⟩ := no_b h
    refine vr_sVi (hp' := (rp_Md m)) [.int a1] [] C nd_Md_count_14 rfl ml_Md_266 my_Md_countOf (co_Md_countOf m a1 w3 hV4) ⟨_, _, _, rfl, rfl, rfl⟩ rfl rfl ⟨rfl, rfl, rfl, rfl⟩ (Nat.zero_le _) (Nat.zero_le _) rfl ?_
    refine vr_go C nd_Md_count_17 ?_
    have h := no_s h
    subst h
    exact vr_iret C hq nd_Md_count_21 rfl
abbrev nr_Md_finding : Room := { frames := 0, cells := 0, slots := 0, locals := 0 }
theorem co_Md_finding (m : MdS) (x : Int32) (h : mo_Md_finding m = some x) : nj_Con ny_Md_finding nb_Md_finding 1 (some .int) nr_Md_finding (rp_Md m) [.ref 0] (some (.int x)) (rp_Md m) := by
  rw [mo_Md_finding] at h
  refine nj_con (by decide) rfl 0 rfl (fun G ad C hq => ?_)
  have C : nj_C G nb_Md_finding 1 "NobodyJoinsModel" nr_Md_finding := C
  show nj_V G ad 0 0 0 [some (.ref 0)] [] (rp_Md m)
  refine vr_al C nd_Md_finding_0 rfl ?_
  refine vr_get (v := .int (md_finding m)) C nd_Md_finding_1 rfl fl_Md_51 (at_Md_0 m) rfl ?_
  have h := no_s h
  subst h
  exact vr_iret C hq nd_Md_finding_4 rfl
abbrev nr_Md_findings : Room := { frames := 1, cells := 0, slots := 0, locals := 25 }
theorem co_Md_findings (m : MdS) (a1 : Int32) (x : Int32) (h : mo_Md_findings m a1 = some x) : nj_Con ny_Md_findings nb_Md_findings 2 (some .int) nr_Md_findings (rp_Md m) [.ref 0, .int a1] (some (.int x)) (rp_Md m) := by
  rw [mo_Md_findings] at h
  refine nj_con (by decide) rfl 0 rfl (fun G ad C hq => ?_)
  have C : nj_C G nb_Md_findings 2 "NobodyJoinsModel" nr_Md_findings := C
  show nj_V G ad 0 0 0 [some (.ref 0), some (.int a1)] [] (rp_Md m)
  refine vr_il C nd_Md_findings_0 rfl ?_
  refine vr_i2l C nd_Md_findings_1 rfl ?_
  refine vr_lc (v := (1 : Int64)) C nd_Md_findings_2 rfl (by decide) ?_
  refine vr_ldc2 C nd_Md_findings_3 rfl kl_Md_58 ?_
  obtain ⟨w1, hV2, h⟩ := no_b h
  refine vr_cSip [] [.long (Int32.toInt64 a1), .long (1 : Int64), .long (5 : Int64)] [] C nd_Md_findings_6 rfl ml_Md_60 my_Md_in (co_Md_in (Int32.toInt64 a1) (1 : Int64) (5 : Int64) w1 hV2) (em_E _) rfl rfl ⟨rfl, rfl, rfl, rfl⟩ (Nat.zero_le _) (Nat.zero_le _) rfl ?_
  refine vr_ifb_eq C nd_Md_findings_9 (fun hc => ?_) (fun hc => ?_)
  · have h := no_bf hc h
    refine vr_ic C nd_Md_findings_21 ?_
    have h := no_s h
    subst h
    exact vr_iret C hq nd_Md_findings_22 rfl
  · have h := no_bt hc h
    refine vr_al C nd_Md_findings_12 rfl ?_
    refine vr_get (v := .ref 7) C nd_Md_findings_13 rfl fl_Md_32 (at_Md_0 m) rfl ?_
    refine vr_il C nd_Md_findings_16 rfl ?_
    obtain ⟨hN3, h⟩ := no_i h
    refine vr_ialk (j := (nj_n a1)) (f := (md_findings m)) C nd_Md_findings_17 rfl (at_Md_7 m) hN3 rfl ?_
    refine vr_go C nd_Md_findings_18 ?_
    have h := no_s h
    subst h
    exact vr_iret C hq nd_Md_findings_22 rfl
abbrev nr_Md_digest : Room := { frames := 5, cells := 0, slots := 0, locals := 110 }
theorem lw_Md_digest_6 {G : nj_G} {ad : Nat → Nat} (C : nj_C G nb_Md_digest 5 "NobodyJoinsModel" nr_Md_digest) (m : MdS) : ∀ (n : Nat) (v1 : Int64) (v3 : Int32) (x : Int64), lo_Md_digest_6 m n v1 v3 = some x → nj_V G ad 0 0 31 [some (.ref 0), some (.long x), none, none, none] [] (rp_Md m) → nj_V G ad 0 0 6 [some (.ref 0), some (.long v1), none, some (.int v3), none] [] (rp_Md m) := by
  intro n
  induction n with
  | zero => intro v1 v3 x h; rw [lo_Md_digest_6] at h; cases h
  | succ n ih =>
    intro v1 v3 x h hk
    rw [lo_Md_digest_6] at h
    refine vr_il C nd_Md_digest_6 rfl ?_
    refine vr_ic C nd_Md_digest_7 ?_
    refine vr_cm_ge C nd_Md_digest_9 (fun hc => ?_) (fun hc => ?_)
    · have h := no_t hc h
      have h := no_s h
      subst h
      exact vr_wk [3] rfl hk
    · have h := no_f hc h
      refine vr_ldc2 C nd_Md_digest_12 rfl kl_Md_271 ?_
      refine vr_ll C nd_Md_digest_15 rfl ?_
      refine vr_lmul C nd_Md_digest_16 rfl ?_
      refine vr_al C nd_Md_digest_17 rfl ?_
      refine vr_il C nd_Md_digest_18 rfl ?_
      obtain ⟨w1, hV2, h⟩ := no_b h
      refine vr_sVi (hp' := (rp_Md m)) [.int v3] [.long ((31 : Int64) * v1)] C nd_Md_digest_19 rfl ml_Md_266 my_Md_countOf (co_Md_countOf m v3 w1 hV2) ⟨_, _, _, rfl, rfl, rfl⟩ rfl rfl ⟨rfl, rfl, rfl, rfl⟩ (Nat.zero_le _) (Nat.zero_le _) rfl ?_
      refine vr_i2l C nd_Md_digest_22 rfl ?_
      refine vr_ladd C nd_Md_digest_23 rfl ?_
      refine vr_lst (ls' := [some (.ref 0), some (.long (((31 : Int64) * v1) + (Int32.toInt64 w1))), none, some (.int v3), none]) C nd_Md_digest_24 rfl rfl ?_
      refine vr_inc (v := (v3 + (1 : Int32))) (ls' := [some (.ref 0), some (.long (((31 : Int64) * v1) + (Int32.toInt64 w1))), none, some (.int (v3 + (1 : Int32))), none]) C nd_Md_digest_25 rfl rfl rfl rfl rfl ?_
      refine vr_go C nd_Md_digest_28 ?_
      exact (ih _ _ _ h hk)
theorem lw_Md_digest_48 {G : nj_G} {ad : Nat → Nat} (C : nj_C G nb_Md_digest 5 "NobodyJoinsModel" nr_Md_digest) (m : MdS) : ∀ (n : Nat) (v1 : Int64) (v3 : Int32) (x : Int64), lo_Md_digest_48 m n v1 v3 = some x → nj_V G ad 0 0 85 [some (.ref 0), some (.long x), none, none, none] [] (rp_Md m) → nj_V G ad 0 0 48 [some (.ref 0), some (.long v1), none, some (.int v3), none] [] (rp_Md m) := by
  intro n
  induction n with
  | zero => intro v1 v3 x h; rw [lo_Md_digest_48] at h; cases h
  | succ n ih =>
    intro v1 v3 x h hk
    rw [lo_Md_digest_48] at h
    refine vr_il C nd_Md_digest_48 rfl ?_
    refine vr_ic C nd_Md_digest_49 ?_
    refine vr_al C nd_Md_digest_51 rfl ?_
    refine vr_get (v := .int (md_children m)) C nd_Md_digest_52 rfl fl_Md_142 (at_Md_0 m) rfl ?_
    refine vr_imul C nd_Md_digest_55 rfl ?_
    refine vr_cm_ge C nd_Md_digest_56 (fun hc => ?_) (fun hc => ?_)
    · have h := no_t hc h
      have h := no_s h
      subst h
      exact vr_wk [3] rfl hk
    · have h := no_f hc h
      refine vr_ldc2 C nd_Md_digest_59 rfl kl_Md_271 ?_
      refine vr_ll C nd_Md_digest_62 rfl ?_
      refine vr_lmul C nd_Md_digest_63 rfl ?_
      refine vr_al C nd_Md_digest_64 rfl ?_
      refine vr_il C nd_Md_digest_65 rfl ?_
      refine vr_ic C nd_Md_digest_66 ?_
      refine vr_idiv C nd_Md_digest_68 rfl (by decide) ?_
      refine vr_il C nd_Md_digest_69 rfl ?_
      refine vr_ic C nd_Md_digest_70 ?_
      refine vr_irem C nd_Md_digest_72 rfl (by decide) ?_
      obtain ⟨w5, hV6, h⟩ := no_b h
      refine vr_sVi (hp' := (rp_Md m)) [.int (v3 / (6 : Int32)), .int (nj_rem v3 (6 : Int32))] [.long ((31 : Int64) * v1)] C nd_Md_digest_73 rfl ml_Md_178 my_Md_toldOf (co_Md_toldOf m (v3 / (6 : Int32)) (nj_rem v3 (6 : Int32)) w5 hV6) ⟨_, _, _, rfl, rfl, rfl⟩ rfl rfl ⟨rfl, rfl, rfl, rfl⟩ (Nat.zero_le _) (Nat.zero_le _) rfl ?_
      refine vr_i2l C nd_Md_digest_76 rfl ?_
      refine vr_ladd C nd_Md_digest_77 rfl ?_
      refine vr_lst (ls' := [some (.ref 0), some (.long (((31 : Int64) * v1) + (Int32.toInt64 w5))), none, some (.int v3), none]) C nd_Md_digest_78 rfl rfl ?_
      refine vr_inc (v := (v3 + (1 : Int32))) (ls' := [some (.ref 0), some (.long (((31 : Int64) * v1) + (Int32.toInt64 w5))), none, some (.int (v3 + (1 : Int32))), none]) C nd_Md_digest_79 rfl rfl rfl rfl rfl ?_
      refine vr_go C nd_Md_digest_82 ?_
      exact (ih _ _ _ h hk)
theorem lw_Md_digest_87 {G : nj_G} {ad : Nat → Nat} (C : nj_C G nb_Md_digest 5 "NobodyJoinsModel" nr_Md_digest) (m : MdS) : ∀ (n : Nat) (v1 : Int64) (v3 : Int32) (x : Int64), lo_Md_digest_87 m n v1 v3 = some x → nj_V G ad 0 0 118 [some (.ref 0), some (.long x), none, none, none] [] (rp_Md m) → nj_V G ad 0 0 87 [some (.ref 0), some (.long v1), none, some (.int v3), none] [] (rp_Md m) := by
  intro n
  induction n with
  | zero => intro v1 v3 x h; rw [lo_Md_digest_87] at h; cases h
  | succ n ih =>
    intro v1 v3 x h hk
    rw [lo_Md_digest_87] at h
    refine vr_il C nd_Md_digest_87 rfl ?_
    refine vr_ic C nd_Md_digest_88 ?_
    refine vr_cm_ge C nd_Md_digest_89 (fun hc => ?_) (fun hc => ?_)
    · have h := no_t hc h
      have h := no_s h
      subst h
      exact vr_wk [3] rfl hk
    · have h := no_f hc h
      refine vr_ldc2 C nd_Md_digest_92 rfl kl_Md_271 ?_
      refine vr_ll C nd_Md_digest_95 rfl ?_
      refine vr_lmul C nd_Md_digest_96 rfl ?_
      refine vr_al C nd_Md_digest_97 rfl ?_
      refine vr_get (v := .ref 1) C nd_Md_digest_98 rfl fl_Md_7 (at_Md_0 m) rfl ?_
      refine vr_ic C nd_Md_digest_101 ?_
      refine vr_il C nd_Md_digest_104 rfl ?_
      refine vr_imul C nd_Md_digest_105 rfl ?_
      refine vr_ic C nd_Md_digest_106 ?_
      refine vr_iadd C nd_Md_digest_107 rfl ?_
      obtain ⟨hN9, h⟩ := no_i h
      refine vr_ialk (j := (nj_n (((576 : Int32) * v3) + (0 : Int32)))) (f := (md_row m)) C nd_Md_digest_108 rfl (at_Md_1 m) hN9 rfl ?_
      refine vr_i2l C nd_Md_digest_109 rfl ?_
      refine vr_ladd C nd_Md_digest_110 rfl ?_
      refine vr_lst (ls' := [some (.ref 0), some (.long (((31 : Int64) * v1) + (Int32.toInt64 ((md_row m) (nj_n (((576 : Int32) * v3) + (0 : Int32))))))), none, some (.int v3), none]) C nd_Md_digest_111 rfl rfl ?_
      refine vr_inc (v := (v3 + (1 : Int32))) (ls' := [some (.ref 0), some (.long (((31 : Int64) * v1) + (Int32.toInt64 ((md_row m) (nj_n (((576 : Int32) * v3) + (0 : Int32))))))), none, some (.int (v3 + (1 : Int32))), none]) C nd_Md_digest_112 rfl rfl rfl rfl rfl ?_
      refine vr_go C nd_Md_digest_115 ?_
      exact (ih _ _ _ h hk)
theorem lw_Md_digest_143 {G : nj_G} {ad : Nat → Nat} (C : nj_C G nb_Md_digest 5 "NobodyJoinsModel" nr_Md_digest) (m : MdS) (f3 : Int32) : ∀ (n : Nat) (v1 : Int64) (v4 : Int32) (x : Int64), lo_Md_digest_143 m f3 n v1 v4 = some x → nj_V G ad 0 0 180 [some (.ref 0), some (.long x), none, some (.int f3), none] [] (rp_Md m) → nj_V G ad 0 0 143 [some (.ref 0), some (.long v1), none, some (.int f3), some (.int v4)] [] (rp_Md m) := by
  intro n
  induction n with
  | zero => intro v1 v4 x h; rw [lo_Md_digest_143] at h; cases h
  | succ n ih =>
    intro v1 v4 x h hk
    rw [lo_Md_digest_143] at h
    refine vr_il C nd_Md_digest_143 rfl ?_
    refine vr_al C nd_Md_digest_145 rfl ?_
    refine vr_get (v := .ref 3) C nd_Md_digest_146 rfl fl_Md_16 (at_Md_0 m) rfl ?_
    refine vr_il C nd_Md_digest_149 rfl ?_
    obtain ⟨hN13, h⟩ := no_i h
    refine vr_ialk (j := (nj_n f3)) (f := (md_sizes m)) C nd_Md_digest_150 rfl (at_Md_3 m) hN13 rfl ?_
    refine vr_cm_ge C nd_Md_digest_151 (fun hc => ?_) (fun hc => ?_)
    · have h := no_t hc h
      have h := no_s h
      subst h
      exact vr_wk [4] rfl hk
    · have h := no_f hc h
      refine vr_ldc2 C nd_Md_digest_154 rfl kl_Md_271 ?_
      refine vr_ll C nd_Md_digest_157 rfl ?_
      refine vr_lmul C nd_Md_digest_158 rfl ?_
      refine vr_al C nd_Md_digest_159 rfl ?_
      refine vr_get (v := .ref 4) C nd_Md_digest_160 rfl fl_Md_19 (at_Md_0 m) rfl ?_
      refine vr_ic C nd_Md_digest_163 ?_
      refine vr_il C nd_Md_digest_165 rfl ?_
      refine vr_imul C nd_Md_digest_166 rfl ?_
      refine vr_il C nd_Md_digest_167 rfl ?_
      refine vr_iadd C nd_Md_digest_169 rfl ?_
      obtain ⟨hN14, h⟩ := no_i h
      refine vr_ialk (j := (nj_n (((40 : Int32) * f3) + v4))) (f := (md_items m)) C nd_Md_digest_170 rfl (at_Md_4 m) hN14 rfl ?_
      refine vr_i2l C nd_Md_digest_171 rfl ?_
      refine vr_ladd C nd_Md_digest_172 rfl ?_
      refine vr_lst (ls' := [some (.ref 0), some (.long (((31 : Int64) * v1) + (Int32.toInt64 ((md_items m) (nj_n (((40 : Int32) * f3) + v4)))))), none, some (.int f3), some (.int v4)]) C nd_Md_digest_173 rfl rfl ?_
      refine vr_inc (v := (v4 + (1 : Int32))) (ls' := [some (.ref 0), some (.long (((31 : Int64) * v1) + (Int32.toInt64 ((md_items m) (nj_n (((40 : Int32) * f3) + v4)))))), none, some (.int f3), some (.int (v4 + (1 : Int32)))]) C nd_Md_digest_174 rfl rfl rfl rfl rfl ?_
      refine vr_go C nd_Md_digest_177 ?_
      exact (ih _ _ _ h hk)
theorem lw_Md_digest_120 {G : nj_G} {ad : Nat → Nat} (C : nj_C G nb_Md_digest 5 "NobodyJoinsModel" nr_Md_digest) (m : MdS) : ∀ (n : Nat) (v1 : Int64) (v3 : Int32) (x : Int64), lo_Md_digest_120 m n v1 v3 = some x → nj_V G ad 0 0 186 [some (.ref 0), some (.long x), none, none, none] [] (rp_Md m) → nj_V G ad 0 0 120 [some (.ref 0), some (.long v1), none, some (.int v3), none] [] (rp_Md m) := by
  intro n
  induction n with
  | zero => intro v1 v3 x h; rw [lo_Md_digest_120] at h; cases h
  | succ n ih =>
    intro v1 v3 x h hk
    rw [lo_Md_digest_120] at h
    refine vr_il C nd_Md_digest_120 rfl ?_
    refine vr_ic C nd_Md_digest_121 ?_
    refine vr_cm_ge C nd_Md_digest_123 (fun hc => ?_) (fun hc => ?_)
    · have h := no_t hc h
      have h := no_s h
      subst h
      exact vr_wk [3] rfl hk
    · have h := no_f hc h
      refine vr_ldc2 C nd_Md_digest_126 rfl kl_Md_271 ?_
      refine vr_ll C nd_Md_digest_129 rfl ?_
      refine vr_lmul C nd_Md_digest_130 rfl ?_
      refine vr_al C nd_Md_digest_131 rfl ?_
      refine vr_get (v := .ref 3) C nd_Md_digest_132 rfl fl_Md_16 (at_Md_0 m) rfl ?_
      refine vr_il C nd_Md_digest_135 rfl ?_
      obtain ⟨hN12, h⟩ := no_i h
      refine vr_ialk (j := (nj_n v3)) (f := (md_sizes m)) C nd_Md_digest_136 rfl (at_Md_3 m) hN12 rfl ?_
      refine vr_i2l C nd_Md_digest_137 rfl ?_
      refine vr_ladd C nd_Md_digest_138 rfl ?_
      refine vr_lst (ls' := [some (.ref 0), some (.long (((31 : Int64) * v1) + (Int32.toInt64 ((md_sizes m) (nj_n v3))))), none, some (.int v3), none]) C nd_Md_digest_139 rfl rfl ?_
      refine vr_ic C nd_Md_digest_140 ?_
      refine vr_is (ls' := [some (.ref 0), some (.long (((31 : Int64) * v1) + (Int32.toInt64 ((md_sizes m) (nj_n v3))))), none, some (.int v3), some (.int (0 : Int32))]) C nd_Md_digest_141 rfl rfl ?_
      obtain ⟨x15, hX16, h⟩ := no_b h
      refine lw_Md_digest_143 C m v3 nj_fu _ _ x15 hX16 ?_
      refine vr_inc (v := (v3 + (1 : Int32))) (ls' := [some (.ref 0), some (.long x15), none, some (.int (v3 + (1 : Int32))), none]) C nd_Md_digest_180 rfl rfl rfl rfl rfl ?_
      refine vr_go C nd_Md_digest_183 ?_
      exact (ih _ _ _ h hk)
theorem lw_Md_digest_210 {G : nj_G} {ad : Nat → Nat} (C : nj_C G nb_Md_digest 5 "NobodyJoinsModel" nr_Md_digest) (m : MdS) (f3 : Int32) : ∀ (n : Nat) (v1 : Int64) (v4 : Int32) (x : Int64), lo_Md_digest_210 m f3 n v1 v4 = some x → nj_V G ad 0 0 247 [some (.ref 0), some (.long x), none, some (.int f3), none] [] (rp_Md m) → nj_V G ad 0 0 210 [some (.ref 0), some (.long v1), none, some (.int f3), some (.int v4)] [] (rp_Md m) := by
  intro n
  induction n with
  | zero => intro v1 v4 x h; rw [lo_Md_digest_210] at h; cases h
  | succ n ih =>
    intro v1 v4 x h hk
    rw [lo_Md_digest_210] at h
    refine vr_il C nd_Md_digest_210 rfl ?_
    refine vr_al C nd_Md_digest_212 rfl ?_
    refine vr_get (v := .ref 5) C nd_Md_digest_213 rfl fl_Md_22 (at_Md_0 m) rfl ?_
    refine vr_il C nd_Md_digest_216 rfl ?_
    obtain ⟨hN20, h⟩ := no_i h
    refine vr_ialk (j := (nj_n f3)) (f := (md_lengths m)) C nd_Md_digest_217 rfl (at_Md_5 m) hN20 rfl ?_
    refine vr_cm_ge C nd_Md_digest_218 (fun hc => ?_) (fun hc => ?_)
    · have h := no_t hc h
      have h := no_s h
      subst h
      exact vr_wk [4] rfl hk
    · have h := no_f hc h
      refine vr_ldc2 C nd_Md_digest_221 rfl kl_Md_271 ?_
      refine vr_ll C nd_Md_digest_224 rfl ?_
      refine vr_lmul C nd_Md_digest_225 rfl ?_
      refine vr_al C nd_Md_digest_226 rfl ?_
      refine vr_get (v := .ref 6) C nd_Md_digest_227 rfl fl_Md_25 (at_Md_0 m) rfl ?_
      refine vr_ic C nd_Md_digest_230 ?_
      refine vr_il C nd_Md_digest_232 rfl ?_
      refine vr_imul C nd_Md_digest_233 rfl ?_
      refine vr_il C nd_Md_digest_234 rfl ?_
      refine vr_iadd C nd_Md_digest_236 rfl ?_
      obtain ⟨hN21, h⟩ := no_i h
      refine vr_ialk (j := (nj_n (((60 : Int32) * f3) + v4))) (f := (md_bytes m)) C nd_Md_digest_237 rfl (at_Md_6 m) hN21 rfl ?_
      refine vr_i2l C nd_Md_digest_238 rfl ?_
      refine vr_ladd C nd_Md_digest_239 rfl ?_
      refine vr_lst (ls' := [some (.ref 0), some (.long (((31 : Int64) * v1) + (Int32.toInt64 ((md_bytes m) (nj_n (((60 : Int32) * f3) + v4)))))), none, some (.int f3), some (.int v4)]) C nd_Md_digest_240 rfl rfl ?_
      refine vr_inc (v := (v4 + (1 : Int32))) (ls' := [some (.ref 0), some (.long (((31 : Int64) * v1) + (Int32.toInt64 ((md_bytes m) (nj_n (((60 : Int32) * f3) + v4)))))), none, some (.int f3), some (.int (v4 + (1 : Int32)))]) C nd_Md_digest_241 rfl rfl rfl rfl rfl ?_
      refine vr_go C nd_Md_digest_244 ?_
      exact (ih _ _ _ h hk)
theorem lw_Md_digest_188 {G : nj_G} {ad : Nat → Nat} (C : nj_C G nb_Md_digest 5 "NobodyJoinsModel" nr_Md_digest) (m : MdS) : ∀ (n : Nat) (v1 : Int64) (v3 : Int32) (x : Int64), lo_Md_digest_188 m n v1 v3 = some x → nj_V G ad 0 0 253 [none, some (.long x), none, none, none] [] (rp_Md m) → nj_V G ad 0 0 188 [some (.ref 0), some (.long v1), none, some (.int v3), none] [] (rp_Md m) := by
  intro n
  induction n with
  | zero => intro v1 v3 x h; rw [lo_Md_digest_188] at h; cases h
  | succ n ih =>
    intro v1 v3 x h hk
    rw [lo_Md_digest_188] at h
    refine vr_il C nd_Md_digest_188 rfl ?_
    refine vr_ic C nd_Md_digest_189 ?_
    refine vr_cm_ge C nd_Md_digest_190 (fun hc => ?_) (fun hc => ?_)
    · have h := no_t hc h
      have h := no_s h
      subst h
      exact vr_wk [0, 3] rfl hk
    · have h := no_f hc h
      refine vr_ldc2 C nd_Md_digest_193 rfl kl_Md_271 ?_
      refine vr_ll C nd_Md_digest_196 rfl ?_
      refine vr_lmul C nd_Md_digest_197 rfl ?_
      refine vr_al C nd_Md_digest_198 rfl ?_
      refine vr_get (v := .ref 5) C nd_Md_digest_199 rfl fl_Md_22 (at_Md_0 m) rfl ?_
      refine vr_il C nd_Md_digest_202 rfl ?_
      obtain ⟨hN19, h⟩ := no_i h
      refine vr_ialk (j := (nj_n v3)) (f := (md_lengths m)) C nd_Md_digest_203 rfl (at_Md_5 m) hN19 rfl ?_
      refine vr_i2l C nd_Md_digest_204 rfl ?_
      refine vr_ladd C nd_Md_digest_205 rfl ?_
      refine vr_lst (ls' := [some (.ref 0), some (.long (((31 : Int64) * v1) + (Int32.toInt64 ((md_lengths m) (nj_n v3))))), none, some (.int v3), none]) C nd_Md_digest_206 rfl rfl ?_
      refine vr_ic C nd_Md_digest_207 ?_
      refine vr_is (ls' := [some (.ref 0), some (.long (((31 : Int64) * v1) + (Int32.toInt64 ((md_lengths m) (nj_n v3))))), none, some (.int v3), some (.int (0 : Int32))]) C nd_Md_digest_208 rfl rfl ?_
      obtain ⟨x22, hX23, h⟩ := no_b h
      refine lw_Md_digest_210 C m v3 nj_fu _ _ x22 hX23 ?_
      refine vr_inc (v := (v3 + (1 : Int32))) (ls' := [some (.ref 0), some (.long x22), none, some (.int (v3 + (1 : Int32))), none]) C nd_Md_digest_247 rfl rfl rfl rfl rfl ?_
      refine vr_go C nd_Md_digest_250 ?_
      exact (ih _ _ _ h hk)
theorem co_Md_digest (m : MdS) (x : Int64) (h : mo_Md_digest m = some x) : nj_Con ny_Md_digest nb_Md_digest 5 (some .long) nr_Md_digest (rp_Md m) [.ref 0] (some (.long x)) (rp_Md m) := by
  rw [mo_Md_digest] at h
  refine nj_con (by decide) rfl 4 rfl (fun G ad C hq => ?_)
  have C : nj_C G nb_Md_digest 5 "NobodyJoinsModel" nr_Md_digest := C
  show nj_V G ad 0 0 0 [some (.ref 0), none, none, none, none] [] (rp_Md m)
  refine vr_ldc2 C nd_Md_digest_0 rfl kl_Md_269 ?_
  refine vr_lst (ls' := [some (.ref 0), some (.long (17 : Int64)), none, none, none]) C nd_Md_digest_3 rfl rfl ?_
  refine vr_ic C nd_Md_digest_4 ?_
  refine vr_is (ls' := [some (.ref 0), some (.long (17 : Int64)), none, some (.int (0 : Int32)), none]) C nd_Md_digest_5 rfl rfl ?_
  obtain ⟨x3, hX4, h⟩ := no_b h
  refine lw_Md_digest_6 C m nj_fu _ _ x3 hX4 ?_
  refine vr_ldc2 C nd_Md_digest_31 rfl kl_Md_271 ?_
  refine vr_ll C nd_Md_digest_34 rfl ?_
  refine vr_lmul C nd_Md_digest_35 rfl ?_
  refine vr_al C nd_Md_digest_36 rfl ?_
  refine vr_get (v := .ref 1) C nd_Md_digest_37 rfl fl_Md_7 (at_Md_0 m) rfl ?_
  refine vr_ic C nd_Md_digest_40 ?_
  refine vr_ialk (j := 15) (f := (md_row m)) C nd_Md_digest_42 rfl (at_Md_1 m) (nj_inc rfl) rfl ?_
  refine vr_i2l C nd_Md_digest_43 rfl ?_
  refine vr_ladd C nd_Md_digest_44 rfl ?_
  refine vr_lst (ls' := [some (.ref 0), some (.long (((31 : Int64) * x3) + (Int32.toInt64 ((md_row m) 15)))), none, none, none]) C nd_Md_digest_45 rfl rfl ?_
  refine vr_ic C nd_Md_digest_46 ?_
  refine vr_is (ls' := [some (.ref 0), some (.long (((31 : Int64) * x3) + (Int32.toInt64 ((md_row m) 15)))), none, some (.int (0 : Int32)), none]) C nd_Md_digest_47 rfl rfl ?_
  obtain ⟨x7, hX8, h⟩ := no_b h
  refine lw_Md_digest_48 C m nj_fu _ _ x7 hX8 ?_
  refine vr_ic C nd_Md_digest_85 ?_
  refine vr_is (ls' := [some (.ref 0), some (.long x7), none, some (.int (1 : Int32)), none]) C nd_Md_digest_86 rfl rfl ?_
  obtain ⟨x10, hX11, h⟩ := no_b h
  refine lw_Md_digest_87 C m nj_fu _ _ x10 hX11 ?_
  refine vr_ic C nd_Md_digest_118 ?_
  refine vr_is (ls' := [some (.ref 0), some (.long x10), none, some (.int (0 : Int32)), none]) C nd_Md_digest_119 rfl rfl ?_
  obtain ⟨x17, hX18, h⟩ := no_b h
  refine lw_Md_digest_120 C m nj_fu _ _ x17 hX18 ?_
  refine vr_ic C nd_Md_digest_186 ?_
  refine vr_is (ls' := [some (.ref 0), some (.long x17), none, some (.int (0 : Int32)), none]) C nd_Md_digest_187 rfl rfl ?_
  obtain ⟨x24, hX25, h⟩ := no_b h
  refine lw_Md_digest_188 C m nj_fu _ _ x24 hX25 ?_
  refine vr_ll C nd_Md_digest_253 rfl ?_
  have h := no_s h
  subst h
  exact vr_lret C hq nd_Md_digest_254 rfl
