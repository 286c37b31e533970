abbrev nr_Nj_isRow : Room := { frames := 0, cells := 0, slots := 0, locals := 0 }
theorem co_Nj_isRow  (a0 : Int32) (x : Bool) (h : mo_Nj_isRow a0 = some x) : nj_Con ny_Nj_isRow nb_Nj_isRow 1 (some .boolean) nr_Nj_isRow [] [.int a0] (some (.int (nj_b x))) [] := by
  rw [mo_Nj_isRow] at h
  refine nj_con (by decide) rfl 0 rfl (fun G ad C hq => ?_)
  have C : nj_C G nb_Nj_isRow 1 "NobodyJoins" nr_Nj_isRow := C
  show nj_V G ad 0 0 0 [some (.int a0)] [] []
  refine vr_il C nd_Nj_isRow_0 rfl ?_
  refine vr_if_lt C nd_Nj_isRow_1 (fun hc => ?_) (fun hc => ?_)
  · have h := no_t hc h
    refine vr_ic C nd_Nj_isRow_14 ?_
    have h := no_s h
    subst h
    exact vr_zret false C hq nd_Nj_isRow_15 rfl
  · have h := no_f hc h
    refine vr_il C nd_Nj_isRow_4 rfl ?_
    refine vr_ic C nd_Nj_isRow_5 ?_
    refine vr_cm_ge C nd_Nj_isRow_7 (fun hc => ?_) (fun hc => ?_)
    · have h := no_t hc h
      refine vr_ic C nd_Nj_isRow_14 ?_
      have h := no_s h
      subst h
      exact vr_zret false C hq nd_Nj_isRow_15 rfl
    · have h := no_f hc h
      refine vr_ic C nd_Nj_isRow_10 ?_
      refine vr_go C nd_Nj_isRow_11 ?_
      have h := no_s h
      subst h
      exact vr_zret true C hq nd_Nj_isRow_15 rfl
abbrev nr_Nj_found : Room := { frames := 0, cells := 0, slots := 0, locals := 0 }
theorem co_Nj_found (s : NjS) (a1 : Int32) (x : Int32 × NjS) (h : mo_Nj_found s a1 = some x) : nj_Con ny_Nj_found nb_Nj_found 2 (some .int) nr_Nj_found (rp_Nj s) [.ref 0, .int a1] (some (.int (x.1))) (rp_Nj (x.2)) := by
  rw [mo_Nj_found] at h
  refine nj_con (by decide) rfl 0 rfl (fun G ad C hq => ?_)
  have C : nj_C G nb_Nj_found 2 "NobodyJoins" nr_Nj_found := C
  show nj_V G ad 0 0 0 [some (.ref 0), some (.int a1)] [] (rp_Nj s)
  refine vr_al C nd_Nj_found_0 rfl ?_
  refine vr_il C nd_Nj_found_1 rfl ?_
  refine vr_puti (hp' := (rp_Nj (ns_lf s a1))) C nd_Nj_found_2 rfl fl_Nj_53 (at_Nj_0 s) rfl (st_Nj_0_8 s a1) ?_
  refine vr_al C nd_Nj_found_5 rfl ?_
  refine vr_get (v := .ref 52) C nd_Nj_found_6 rfl fl_Nj_49 (at_Nj_0 (ns_lf s a1)) rfl ?_
  refine vr_il C nd_Nj_found_9 rfl ?_
  refine vr_dup2 C nd_Nj_found_10 rfl rfl rfl ?_
  obtain ⟨hN1, h⟩ := no_i h
  refine vr_ialk (j := (nj_n a1)) (f := (nj_fc s)) C nd_Nj_found_11 rfl (at_Nj_52 (ns_lf s a1)) hN1 rfl ?_
  refine vr_ic C nd_Nj_found_12 ?_
  refine vr_iadd C nd_Nj_found_13 rfl ?_
  obtain ⟨hN2, h⟩ := no_i h
  refine vr_iask (j := (nj_n a1)) (f := (nj_fc s)) (hp' := (rp_Nj (ns_fc (ns_lf s a1) (upd (nj_fc s) (nj_n a1) (((nj_fc s) (nj_n a1)) + (1 : Int32)))))) C nd_Nj_found_14 rfl (at_Nj_52 (ns_lf s a1)) hN2 rfl (st_Nj_52 (ns_lf s a1) (upd (nj_fc s) (nj_n a1) (((nj_fc s) (nj_n a1)) + (1 : Int32)))) ?_
  refine vr_ic C nd_Nj_found_15 ?_
  have h := no_s h
  subst h
  exact vr_iret C hq nd_Nj_found_17 rfl
abbrev nr_Nj_row : Room := { frames := 1, cells := 0, slots := 0, locals := 22 }
theorem co_Nj_row (s : NjS) (a1 : Int32) (a2 : Int32) (x : Int32 × NjS) (h : mo_Nj_row s a1 a2 = some x) : nj_Con ny_Nj_row nb_Nj_row 3 (some .int) nr_Nj_row (rp_Nj s) [.ref 0, .int a1, .int a2] (some (.int (x.1))) (rp_Nj (x.2)) := by
  rw [mo_Nj_row] at h
  refine nj_con (by decide) rfl 0 rfl (fun G ad C hq => ?_)
  have C : nj_C G nb_Nj_row 3 "NobodyJoins" nr_Nj_row := C
  show nj_V G ad 0 0 0 [some (.ref 0), some (.int a1), some (.int a2)] [] (rp_Nj s)
  refine vr_il C nd_Nj_row_0 rfl ?_
  obtain ⟨w1, hV2, h⟩ := no_b h
  refine vr_cSip [] [.int a1] [] C nd_Nj_row_1 rfl ml_Nj_69 my_Nj_isRow (co_Nj_isRow a1 w1 hV2) (em_E _) rfl rfl ⟨rfl, rfl, rfl, rfl⟩ (Nat.zero_le _) (Nat.zero_le _) rfl ?_
  refine vr_ifb_eq C nd_Nj_row_4 (fun hc => ?_) (fun hc => ?_)
  · have h := no_bf hc h
    refine vr_ic C nd_Nj_row_13 ?_
    have h := no_s h
    subst h
    exact vr_iret C hq nd_Nj_row_14 rfl
  · have h := no_bt hc h
    refine vr_il C nd_Nj_row_7 rfl ?_
    refine vr_ic C nd_Nj_row_8 ?_
    refine vr_cm_le C nd_Nj_row_10 (fun hc => ?_) (fun hc => ?_)
    · have h := no_t hc h
      refine vr_il C nd_Nj_row_15 rfl ?_
      refine vr_if_ge C nd_Nj_row_16 (fun hc => ?_) (fun hc => ?_)
      · have h := no_t hc h
        refine vr_al C nd_Nj_row_25 rfl ?_
        refine vr_get (v := .ref 1) C nd_Nj_row_26 rfl fl_Nj_11 (at_Nj_0 s) rfl ?_
        refine vr_il C nd_Nj_row_29 rfl ?_
        obtain ⟨hN3, h⟩ := no_i h
        refine vr_aald3 (y := (2 + 2 * (nj_n a1))) C nd_Nj_row_30 rfl (at_Nj_1 s) hN3 rfl ?_
        refine vr_il C nd_Nj_row_31 rfl ?_
        obtain ⟨w4, hV5, h⟩ := no_b h
        refine vr_cVv (hp' := (rp_Nj (ns_rows s (va_up (nj_rows s) (nj_n a1) w4)))) [(2 + 2 * (nj_n a1)), (3 + 2 * (nj_n a1))] [.int a2] [] C nd_Nj_row_32 rfl ml_Nj_77 my_Row_renew (co_Row_renew ((nj_rows s) (nj_n a1)) a2 w4 hV5) (em_Nj_Row s (nj_n a1) (nj_lt_of hN3)) ⟨_, _, _, rfl, rfl, rfl⟩ rfl rfl ⟨rfl, rfl, rfl, rfl⟩ (Nat.zero_le _) (Nat.zero_le _) rfl (pa_Nj_Row s (nj_n a1) (nj_lt_of hN3) w4) ?_
        refine vr_il C nd_Nj_row_35 rfl ?_
        have h := no_s h
        subst h
        exact vr_iret C hq nd_Nj_row_36 rfl
      · have h := no_f hc h
        refine vr_al C nd_Nj_row_19 rfl ?_
        refine vr_ic C nd_Nj_row_20 ?_
        obtain ⟨w6, hV7, h⟩ := no_b h
        refine vr_sVi (hp' := (rp_Nj (w6.2))) [.int (5 : Int32)] [] C nd_Nj_row_21 rfl ml_Nj_73 my_Nj_found (co_Nj_found s (5 : Int32) w6 hV7) ⟨_, _, _, rfl, rfl, rfl⟩ rfl rfl ⟨rfl, rfl, rfl, rfl⟩ (Nat.zero_le _) (Nat.zero_le _) rfl ?_
        have h := no_s h
        subst h
        exact vr_iret C hq nd_Nj_row_24 rfl
    · have h := no_f hc h
      refine vr_ic C nd_Nj_row_13 ?_
      have h := no_s h
      subst h
      exact vr_iret C hq nd_Nj_row_14 rfl
abbrev nr_Nj_refusalOfPlace : Room := { frames := 1, cells := 0, slots := 0, locals := 21 }
theorem co_Nj_refusalOfPlace (s : NjS) (a1 : Int32) (a2 : Int32) (x : Int32 × NjS) (h : mo_Nj_refusalOfPlace s a1 a2 = some x) : nj_Con ny_Nj_refusalOfPlace nb_Nj_refusalOfPlace 3 (some .int) nr_Nj_refusalOfPlace (rp_Nj s) [.ref 0, .int a1, .int a2] (some (.int (x.1))) (rp_Nj (x.2)) := by
  rw [mo_Nj_refusalOfPlace] at h
  refine nj_con (by decide) rfl 0 rfl (fun G ad C hq => ?_)
  have C : nj_C G nb_Nj_refusalOfPlace 3 "NobodyJoins" nr_Nj_refusalOfPlace := C
  show nj_V G ad 0 0 0 [some (.ref 0), some (.int a1), some (.int a2)] [] (rp_Nj s)
  refine vr_il C nd_Nj_refusalOfPlace_0 rfl ?_
  obtain ⟨w1, hV2, h⟩ := no_b h
  refine vr_cSip [] [.int a1] [] C nd_Nj_refusalOfPlace_1 rfl ml_Nj_69 my_Nj_isRow (co_Nj_isRow a1 w1 hV2) (em_E _) rfl rfl ⟨rfl, rfl, rfl, rfl⟩ (Nat.zero_le _) (Nat.zero_le _) rfl ?_
  refine vr_ifb_ne C nd_Nj_refusalOfPlace_4 (fun hc => ?_) (fun hc => ?_)
  · have h := no_bt hc h
    refine vr_al C nd_Nj_refusalOfPlace_9 rfl ?_
    refine vr_get (v := .ref 1) C nd_Nj_refusalOfPlace_10 rfl fl_Nj_11 (at_Nj_0 s) rfl ?_
    refine vr_il C nd_Nj_refusalOfPlace_13 rfl ?_
    obtain ⟨hN3, h⟩ := no_i h
    refine vr_aald3 (y := (2 + 2 * (nj_n a1))) C nd_Nj_refusalOfPlace_14 rfl (at_Nj_1 s) hN3 rfl ?_
    obtain ⟨w4, hV5, h⟩ := no_b h
    refine vr_cVip [(2 + 2 * (nj_n a1)), (3 + 2 * (nj_n a1))] [] [] C nd_Nj_refusalOfPlace_15 rfl ml_Nj_88 my_Row_isMissing (co_Row_isMissing ((nj_rows s) (nj_n a1)) w4 hV5) (em_Nj_Row s (nj_n a1) (nj_lt_of hN3)) ⟨_, _, _, rfl, rfl, rfl⟩ rfl rfl ⟨rfl, rfl, rfl, rfl⟩ (Nat.zero_le _) (Nat.zero_le _) rfl ?_
    refine vr_ifb_eq C nd_Nj_refusalOfPlace_18 (fun hc => ?_) (fun hc => ?_)
    · have h := no_bf hc h
      refine vr_al C nd_Nj_refusalOfPlace_27 rfl ?_
      refine vr_get (v := .ref 1) C nd_Nj_refusalOfPlace_28 rfl fl_Nj_11 (at_Nj_0 s) rfl ?_
      refine vr_il C nd_Nj_refusalOfPlace_31 rfl ?_
      obtain ⟨hN6, h⟩ := no_i h
      refine vr_aald3 (y := (2 + 2 * (nj_n a1))) C nd_Nj_refusalOfPlace_32 rfl (at_Nj_1 s) hN6 rfl ?_
      refine vr_il C nd_Nj_refusalOfPlace_33 rfl ?_
      obtain ⟨w7, hV8, h⟩ := no_b h
      refine vr_cVip [(2 + 2 * (nj_n a1)), (3 + 2 * (nj_n a1))] [.int a2] [] C nd_Nj_refusalOfPlace_34 rfl ml_Nj_311 my_Row_hasPlace (co_Row_hasPlace ((nj_rows s) (nj_n a1)) a2 w7 hV8) (em_Nj_Row s (nj_n a1) (nj_lt_of hN6)) ⟨_, _, _, rfl, rfl, rfl⟩ rfl rfl ⟨rfl, rfl, rfl, rfl⟩ (Nat.zero_le _) (Nat.zero_le _) rfl ?_
      refine vr_ifb_eq C nd_Nj_refusalOfPlace_37 (fun hc => ?_) (fun hc => ?_)
      · have h := no_bf hc h
        refine vr_al C nd_Nj_refusalOfPlace_44 rfl ?_
        refine vr_ic C nd_Nj_refusalOfPlace_45 ?_
        obtain ⟨w9, hV10, h⟩ := no_b h
        refine vr_sVi (hp' := (rp_Nj (w9.2))) [.int (2 : Int32)] [] C nd_Nj_refusalOfPlace_46 rfl ml_Nj_73 my_Nj_found (co_Nj_found s (2 : Int32) w9 hV10) ⟨_, _, _, rfl, rfl, rfl⟩ rfl rfl ⟨rfl, rfl, rfl, rfl⟩ (Nat.zero_le _) (Nat.zero_le _) rfl ?_
        have h := no_s h
        subst h
        exact vr_iret C hq nd_Nj_refusalOfPlace_49 rfl
      · have h := no_bt hc h
        refine vr_ic C nd_Nj_refusalOfPlace_40 ?_
        refine vr_go C nd_Nj_refusalOfPlace_41 ?_
        have h := no_s h
        subst h
        exact vr_iret C hq nd_Nj_refusalOfPlace_49 rfl
    · have h := no_bt hc h
      refine vr_al C nd_Nj_refusalOfPlace_21 rfl ?_
      refine vr_ic C nd_Nj_refusalOfPlace_22 ?_
      obtain ⟨w11, hV12, h⟩ := no_b h
      refine vr_sVi (hp' := (rp_Nj (w11.2))) [.int (1 : Int32)] [] C nd_Nj_refusalOfPlace_23 rfl ml_Nj_73 my_Nj_found (co_Nj_found s (1 : Int32) w11 hV12) ⟨_, _, _, rfl, rfl, rfl⟩ rfl rfl ⟨rfl, rfl, rfl, rfl⟩ (Nat.zero_le _) (Nat.zero_le _) rfl ?_
      have h := no_s h
      subst h
      exact vr_iret C hq nd_Nj_refusalOfPlace_26 rfl
  · have h := no_bf hc h
    refine vr_ic C nd_Nj_refusalOfPlace_7 ?_
    have h := no_s h
    subst h
    exact vr_iret C hq nd_Nj_refusalOfPlace_8 rfl
abbrev nr_Nj_lay : Room := { frames := 2, cells := 0, slots := 0, locals := 43 }
theorem co_Nj_lay (s : NjS) (a1 : Int32) (a2 : Int32) (a3 : Int32) (x : Int32 × NjS) (h : mo_Nj_lay s a1 a2 a3 = some x) : nj_Con ny_Nj_lay nb_Nj_lay 5 (some .int) nr_Nj_lay (rp_Nj s) [.ref 0, .int a1, .int a2, .int a3] (some (.int (x.1))) (rp_Nj (x.2)) := by
  rw [mo_Nj_lay] at h
  refine nj_con (by decide) rfl 1 rfl (fun G ad C hq => ?_)
  have C : nj_C G nb_Nj_lay 5 "NobodyJoins" nr_Nj_lay := C
  show nj_V G ad 0 0 0 [some (.ref 0), some (.int a1), some (.int a2), some (.int a3), none] [] (rp_Nj s)
  refine vr_al C nd_Nj_lay_0 rfl ?_
  refine vr_il C nd_Nj_lay_1 rfl ?_
  refine vr_il C nd_Nj_lay_2 rfl ?_
  obtain ⟨w1, hV2, h⟩ := no_b h
  refine vr_sVi (hp' := (rp_Nj (w1.2))) [.int a1, .int a2] [] C nd_Nj_lay_3 rfl ml_Nj_81 my_Nj_refusalOfPlace (co_Nj_refusalOfPlace s a1 a2 w1 hV2) ⟨_, _, _, rfl, rfl, rfl⟩ rfl rfl ⟨rfl, rfl, rfl, rfl⟩ (Nat.zero_le _) (Nat.zero_le _) rfl ?_
  refine vr_is (ls' := [some (.ref 0), some (.int a1), some (.int a2), some (.int a3), some (.int (w1.1))]) C nd_Nj_lay_6 rfl rfl ?_
  refine vr_il C nd_Nj_lay_8 rfl ?_
  refine vr_if_eq C nd_Nj_lay_10 (fun hc => ?_) (fun hc => ?_)
  · have h := no_t hc h
    refine vr_al C nd_Nj_lay_16 rfl ?_
    refine vr_al C nd_Nj_lay_17 rfl ?_
    refine vr_get (v := .ref 1) C nd_Nj_lay_18 rfl fl_Nj_11 (at_Nj_0 (w1.2)) rfl ?_
    refine vr_il C nd_Nj_lay_21 rfl ?_
    obtain ⟨hN3, h⟩ := no_i h
    refine vr_aald3 (y := (2 + 2 * (nj_n a1))) C nd_Nj_lay_22 rfl (at_Nj_1 (w1.2)) hN3 rfl ?_
    refine vr_get (v := .ref (3 + 2 * (nj_n a1))) C nd_Nj_lay_23 rfl fl_Nj_85 (at_Nj_Row_0 (w1.2) (nj_n a1) (nj_lt_of hN3)) rfl ?_
    refine vr_il C nd_Nj_lay_26 rfl ?_
    obtain ⟨hN4, h⟩ := no_i h
    refine vr_ialk (j := (nj_n a2)) (f := (ro_places ((nj_rows (w1.2)) (nj_n a1)))) C nd_Nj_lay_27 rfl (at_Nj_Row_1 (w1.2) (nj_n a1) (nj_lt_of hN3)) hN4 rfl ?_
    refine vr_puti (hp' := (rp_Nj (ns_an (w1.2) ((ro_places ((nj_rows (w1.2)) (nj_n a1))) (nj_n a2))))) C nd_Nj_lay_28 rfl fl_Nj_57 (at_Nj_0 (w1.2)) rfl (st_Nj_0_9 (w1.2) ((ro_places ((nj_rows (w1.2)) (nj_n a1))) (nj_n a2))) ?_
    refine vr_al C nd_Nj_lay_31 rfl ?_
    refine vr_get (v := .ref 1) C nd_Nj_lay_32 rfl fl_Nj_11 (at_Nj_0 (ns_an (w1.2) ((ro_places ((nj_rows (w1.2)) (nj_n a1))) (nj_n a2)))) rfl ?_
    refine vr_il C nd_Nj_lay_35 rfl ?_
    obtain ⟨hN5, h⟩ := no_i h
    refine vr_aald3 (y := (2 + 2 * (nj_n a1))) C nd_Nj_lay_36 rfl (at_Nj_1 (ns_an (w1.2) ((ro_places ((nj_rows (w1.2)) (nj_n a1))) (nj_n a2)))) hN5 rfl ?_
    refine vr_get (v := .ref (3 + 2 * (nj_n a1))) C nd_Nj_lay_37 rfl fl_Nj_85 (at_Nj_Row_0 (ns_an (w1.2) ((ro_places ((nj_rows (w1.2)) (nj_n a1))) (nj_n a2))) (nj_n a1) (nj_lt_of hN5)) rfl ?_
    refine vr_il C nd_Nj_lay_40 rfl ?_
    refine vr_il C nd_Nj_lay_41 rfl ?_
    obtain ⟨hN6, h⟩ := no_i h
    refine vr_iask (j := (nj_n a2)) (f := (ro_places ((nj_rows (w1.2)) (nj_n a1)))) (hp' := (rp_Nj (ns_rows (ns_an (w1.2) ((ro_places ((nj_rows (w1.2)) (nj_n a1))) (nj_n a2))) (va_up (nj_rows (w1.2)) (nj_n a1) (rs_places ((nj_rows (w1.2)) (nj_n a1)) (upd (ro_places ((nj_rows (w1.2)) (nj_n a1))) (nj_n a2) a3)))))) C nd_Nj_lay_42 rfl (at_Nj_Row_1 (ns_an (w1.2) ((ro_places ((nj_rows (w1.2)) (nj_n a1))) (nj_n a2))) (nj_n a1) (nj_lt_of hN5)) hN6 rfl (st_Nj_Row_1 (ns_an (w1.2) ((ro_places ((nj_rows (w1.2)) (nj_n a1))) (nj_n a2))) (nj_n a1) (nj_lt_of hN5) (upd (ro_places ((nj_rows (w1.2)) (nj_n a1))) (nj_n a2) a3)) ?_
    refine vr_ic C nd_Nj_lay_43 ?_
    have h := no_s h
    subst h
    exact vr_iret C hq nd_Nj_lay_44 rfl
  · have h := no_f hc h
    refine vr_il C nd_Nj_lay_13 rfl ?_
    have h := no_s h
    subst h
    exact vr_iret C hq nd_Nj_lay_15 rfl
abbrev nr_Nj_at : Room := { frames := 2, cells := 0, slots := 0, locals := 43 }
theorem co_Nj_at (s : NjS) (a1 : Int32) (a2 : Int32) (x : Int32 × NjS) (h : mo_Nj_at s a1 a2 = some x) : nj_Con ny_Nj_at nb_Nj_at 4 (some .int) nr_Nj_at (rp_Nj s) [.ref 0, .int a1, .int a2] (some (.int (x.1))) (rp_Nj (x.2)) := by
  rw [mo_Nj_at] at h
  refine nj_con (by decide) rfl 1 rfl (fun G ad C hq => ?_)
  have C : nj_C G nb_Nj_at 4 "NobodyJoins" nr_Nj_at := C
  show nj_V G ad 0 0 0 [some (.ref 0), some (.int a1), some (.int a2), none] [] (rp_Nj s)
  refine vr_al C nd_Nj_at_0 rfl ?_
  refine vr_il C nd_Nj_at_1 rfl ?_
  refine vr_il C nd_Nj_at_2 rfl ?_
  obtain ⟨w1, hV2, h⟩ := no_b h
  refine vr_sVi (hp' := (rp_Nj (w1.2))) [.int a1, .int a2] [] C nd_Nj_at_3 rfl ml_Nj_81 my_Nj_refusalOfPlace (co_Nj_refusalOfPlace s a1 a2 w1 hV2) ⟨_, _, _, rfl, rfl, rfl⟩ rfl rfl ⟨rfl, rfl, rfl, rfl⟩ (Nat.zero_le _) (Nat.zero_le _) rfl ?_
  refine vr_is (ls' := [some (.ref 0), some (.int a1), some (.int a2), some (.int (w1.1))]) C nd_Nj_at_6 rfl rfl ?_
  refine vr_il C nd_Nj_at_7 rfl ?_
  refine vr_if_eq C nd_Nj_at_8 (fun hc => ?_) (fun hc => ?_)
  · have h := no_t hc h
    refine vr_al C nd_Nj_at_13 rfl ?_
    refine vr_al C nd_Nj_at_14 rfl ?_
    refine vr_get (v := .ref 1) C nd_Nj_at_15 rfl fl_Nj_11 (at_Nj_0 (w1.2)) rfl ?_
    refine vr_il C nd_Nj_at_18 rfl ?_
    obtain ⟨hN3, h⟩ := no_i h
    refine vr_aald3 (y := (2 + 2 * (nj_n a1))) C nd_Nj_at_19 rfl (at_Nj_1 (w1.2)) hN3 rfl ?_
    refine vr_get (v := .ref (3 + 2 * (nj_n a1))) C nd_Nj_at_20 rfl fl_Nj_85 (at_Nj_Row_0 (w1.2) (nj_n a1) (nj_lt_of hN3)) rfl ?_
    refine vr_il C nd_Nj_at_23 rfl ?_
    obtain ⟨hN4, h⟩ := no_i h
    refine vr_ialk (j := (nj_n a2)) (f := (ro_places ((nj_rows (w1.2)) (nj_n a1)))) C nd_Nj_at_24 rfl (at_Nj_Row_1 (w1.2) (nj_n a1) (nj_lt_of hN3)) hN4 rfl ?_
    refine vr_puti (hp' := (rp_Nj (ns_an (w1.2) ((ro_places ((nj_rows (w1.2)) (nj_n a1))) (nj_n a2))))) C nd_Nj_at_25 rfl fl_Nj_57 (at_Nj_0 (w1.2)) rfl (st_Nj_0_9 (w1.2) ((ro_places ((nj_rows (w1.2)) (nj_n a1))) (nj_n a2))) ?_
    refine vr_ic C nd_Nj_at_28 ?_
    have h := no_s h
    subst h
    exact vr_iret C hq nd_Nj_at_29 rfl
  · have h := no_f hc h
    refine vr_il C nd_Nj_at_11 rfl ?_
    have h := no_s h
    subst h
    exact vr_iret C hq nd_Nj_at_12 rfl
abbrev nr_Nj_tear : Room := { frames := 1, cells := 0, slots := 0, locals := 21 }
theorem co_Nj_tear (s : NjS) (a1 : Int32) (x : Int32 × NjS) (h : mo_Nj_tear s a1 = some x) : nj_Con ny_Nj_tear nb_Nj_tear 2 (some .int) nr_Nj_tear (rp_Nj s) [.ref 0, .int a1] (some (.int (x.1))) (rp_Nj (x.2)) := by
  rw [mo_Nj_tear] at h
  refine nj_con (by decide) rfl 0 rfl (fun G ad C hq => ?_)
  have C : nj_C G nb_Nj_tear 2 "NobodyJoins" nr_Nj_tear := C
  show nj_V G ad 0 0 0 [some (.ref 0), some (.int a1)] [] (rp_Nj s)
  refine vr_il C nd_Nj_tear_0 rfl ?_
  obtain ⟨w1, hV2, h⟩ := no_b h
  refine vr_cSip [] [.int a1] [] C nd_Nj_tear_1 rfl ml_Nj_69 my_Nj_isRow (co_Nj_isRow a1 w1 hV2) (em_E _) rfl rfl ⟨rfl, rfl, rfl, rfl⟩ (Nat.zero_le _) (Nat.zero_le _) rfl ?_
  refine vr_ifb_ne C nd_Nj_tear_4 (fun hc => ?_) (fun hc => ?_)
  · have h := no_bt hc h
    refine vr_al C nd_Nj_tear_9 rfl ?_
    refine vr_get (v := .ref 1) C nd_Nj_tear_10 rfl fl_Nj_11 (at_Nj_0 s) rfl ?_
    refine vr_il C nd_Nj_tear_13 rfl ?_
    obtain ⟨hN3, h⟩ := no_i h
    refine vr_aald3 (y := (2 + 2 * (nj_n a1))) C nd_Nj_tear_14 rfl (at_Nj_1 s) hN3 rfl ?_
    obtain ⟨w4, hV5, h⟩ := no_b h
    refine vr_cVip [(2 + 2 * (nj_n a1)), (3 + 2 * (nj_n a1))] [] [] C nd_Nj_tear_15 rfl ml_Nj_88 my_Row_isMissing (co_Row_isMissing ((nj_rows s) (nj_n a1)) w4 hV5) (em_Nj_Row s (nj_n a1) (nj_lt_of hN3)) ⟨_, _, _, rfl, rfl, rfl⟩ rfl rfl ⟨rfl, rfl, rfl, rfl⟩ (Nat.zero_le _) (Nat.zero_le _) rfl ?_
    refine vr_ifb_eq C nd_Nj_tear_18 (fun hc => ?_) (fun hc => ?_)
    · have h := no_bf hc h
      refine vr_al C nd_Nj_tear_27 rfl ?_
      refine vr_get (v := .ref 1) C nd_Nj_tear_28 rfl fl_Nj_11 (at_Nj_0 s) rfl ?_
      refine vr_il C nd_Nj_tear_31 rfl ?_
      obtain ⟨hN6, h⟩ := no_i h
      refine vr_aald3 (y := (2 + 2 * (nj_n a1))) C nd_Nj_tear_32 rfl (at_Nj_1 s) hN6 rfl ?_
      refine vr_ic C nd_Nj_tear_33 ?_
      refine vr_puti (hp' := (rp_Nj (ns_rows s (va_up (nj_rows s) (nj_n a1) (rs_size ((nj_rows s) (nj_n a1)) (-1 : Int32)))))) C nd_Nj_tear_34 rfl fl_Nj_92 (at_Nj_Row_0 s (nj_n a1) (nj_lt_of hN6)) rfl (st_Nj_Row_0_1 s (nj_n a1) (nj_lt_of hN6) (-1 : Int32)) ?_
      refine vr_ic C nd_Nj_tear_37 ?_
      have h := no_s h
      subst h
      exact vr_iret C hq nd_Nj_tear_38 rfl
    · have h := no_bt hc h
      refine vr_al C nd_Nj_tear_21 rfl ?_
      refine vr_ic C nd_Nj_tear_22 ?_
      obtain ⟨w7, hV8, h⟩ := no_b h
      refine vr_sVi (hp' := (rp_Nj (w7.2))) [.int (1 : Int32)] [] C nd_Nj_tear_23 rfl ml_Nj_73 my_Nj_found (co_Nj_found s (1 : Int32) w7 hV8) ⟨_, _, _, rfl, rfl, rfl⟩ rfl rfl ⟨rfl, rfl, rfl, rfl⟩ (Nat.zero_le _) (Nat.zero_le _) rfl ?_
      have h := no_s h
      subst h
      exact vr_iret C hq nd_Nj_tear_26 rfl
  · have h := no_bf hc h
    refine vr_ic C nd_Nj_tear_7 ?_
    have h := no_s h
    subst h
    exact vr_iret C hq nd_Nj_tear_8 rfl
abbrev nr_Nj_copy : Room := { frames := 1, cells := 0, slots := 0, locals := 40 }
theorem co_Nj_copy (s : NjS) (a1 : Int32) (a2 : Int32) (a3 : Int32) (a4 : Int32) (a5 : Int32) (x : Int32 × NjS) (h : mo_Nj_copy s a1 a2 a3 a4 a5 = some x) : nj_Con ny_Nj_copy nb_Nj_copy 6 (some .int) nr_Nj_copy (rp_Nj s) [.ref 0, .int a1, .int a2, .int a3, .int a4, .int a5] (some (.int (x.1))) (rp_Nj (x.2)) := by
  rw [mo_Nj_copy] at h
  refine nj_con (by decide) rfl 0 rfl (fun G ad C hq => ?_)
  have C : nj_C G nb_Nj_copy 6 "NobodyJoins" nr_Nj_copy := C
  show nj_V G ad 0 0 0 [some (.ref 0), some (.int a1), some (.int a2), some (.int a3), some (.int a4), some (.int a5)] [] (rp_Nj s)
  refine vr_il C nd_Nj_copy_0 rfl ?_
  obtain ⟨w1, hV2, h⟩ := no_b h
  refine vr_cSip [] [.int a1] [] C nd_Nj_copy_1 rfl ml_Nj_69 my_Nj_isRow (co_Nj_isRow a1 w1 hV2) (em_E _) rfl rfl ⟨rfl, rfl, rfl, rfl⟩ (Nat.zero_le _) (Nat.zero_le _) rfl ?_
  refine vr_ifb_eq C nd_Nj_copy_4 (fun hc => ?_) (fun hc => ?_)
  · have h := no_bf hc h
    refine vr_ic C nd_Nj_copy_14 ?_
    have h := no_s h
    subst h
    exact vr_iret C hq nd_Nj_copy_15 rfl
  · have h := no_bt hc h
    refine vr_il C nd_Nj_copy_7 rfl ?_
    obtain ⟨w3, hV4, h⟩ := no_b h
    refine vr_cSip [] [.int a3] [] C nd_Nj_copy_8 rfl ml_Nj_69 my_Nj_isRow (co_Nj_isRow a3 w3 hV4) (em_E _) rfl rfl ⟨rfl, rfl, rfl, rfl⟩ (Nat.zero_le _) (Nat.zero_le _) rfl ?_
    refine vr_ifb_ne C nd_Nj_copy_11 (fun hc => ?_) (fun hc => ?_)
    · have h := no_bt hc h
      refine vr_il C nd_Nj_copy_16 rfl ?_
      refine vr_if_ge C nd_Nj_copy_18 (fun hc => ?_) (fun hc => ?_)
      · have h := no_t hc h
        refine vr_al C nd_Nj_copy_27 rfl ?_
        refine vr_get (v := .ref 1) C nd_Nj_copy_28 rfl fl_Nj_11 (at_Nj_0 s) rfl ?_
        refine vr_il C nd_Nj_copy_31 rfl ?_
        obtain ⟨hN5, h⟩ := no_i h
        refine vr_aald3 (y := (2 + 2 * (nj_n a1))) C nd_Nj_copy_32 rfl (at_Nj_1 s) hN5 rfl ?_
        obtain ⟨w6, hV7, h⟩ := no_b h
        refine vr_cVip [(2 + 2 * (nj_n a1)), (3 + 2 * (nj_n a1))] [] [] C nd_Nj_copy_33 rfl ml_Nj_88 my_Row_isMissing (co_Row_isMissing ((nj_rows s) (nj_n a1)) w6 hV7) (em_Nj_Row s (nj_n a1) (nj_lt_of hN5)) ⟨_, _, _, rfl, rfl, rfl⟩ rfl rfl ⟨rfl, rfl, rfl, rfl⟩ (Nat.zero_le _) (Nat.zero_le _) rfl ?_
        refine vr_ifb_ne C nd_Nj_copy_36 (fun hc => ?_) (fun hc => ?_)
        · have h := no_bt hc h
          refine vr_al C nd_Nj_copy_51 rfl ?_
          refine vr_ic C nd_Nj_copy_52 ?_
          obtain ⟨w8, hV9, h⟩ := no_b h
          refine vr_sVi (hp' := (rp_Nj (w8.2))) [.int (1 : Int32)] [] C nd_Nj_copy_53 rfl ml_Nj_73 my_Nj_found (co_Nj_found s (1 : Int32) w8 hV9) ⟨_, _, _, rfl, rfl, rfl⟩ rfl rfl ⟨rfl, rfl, rfl, rfl⟩ (Nat.zero_le _) (Nat.zero_le _) rfl ?_
          have h := no_s h
          subst h
          exact vr_iret C hq nd_Nj_copy_56 rfl
        · have h := no_bf hc h
          refine vr_al C nd_Nj_copy_39 rfl ?_
          refine vr_get (v := .ref 1) C nd_Nj_copy_40 rfl fl_Nj_11 (at_Nj_0 s) rfl ?_
          refine vr_il C nd_Nj_copy_43 rfl ?_
          obtain ⟨hN10, h⟩ := no_i h
          refine vr_aald3 (y := (2 + 2 * (nj_n a3))) C nd_Nj_copy_44 rfl (at_Nj_1 s) hN10 rfl ?_
          obtain ⟨w11, hV12, h⟩ := no_b h
          refine vr_cVip [(2 + 2 * (nj_n a3)), (3 + 2 * (nj_n a3))] [] [] C nd_Nj_copy_45 rfl ml_Nj_88 my_Row_isMissing (co_Row_isMissing ((nj_rows s) (nj_n a3)) w11 hV12) (em_Nj_Row s (nj_n a3) (nj_lt_of hN10)) ⟨_, _, _, rfl, rfl, rfl⟩ rfl rfl ⟨rfl, rfl, rfl, rfl⟩ (Nat.zero_le _) (Nat.zero_le _) rfl ?_
          refine vr_ifb_eq C nd_Nj_copy_48 (fun hc => ?_) (fun hc => ?_)
          · have h := no_bf hc h
            refine vr_al C nd_Nj_copy_57 rfl ?_
            refine vr_get (v := .ref 1) C nd_Nj_copy_58 rfl fl_Nj_11 (at_Nj_0 s) rfl ?_
            refine vr_il C nd_Nj_copy_61 rfl ?_
            obtain ⟨hN13, h⟩ := no_i h
            refine vr_aald3 (y := (2 + 2 * (nj_n a1))) C nd_Nj_copy_62 rfl (at_Nj_1 s) hN13 rfl ?_
            refine vr_il C nd_Nj_copy_63 rfl ?_
            refine vr_il C nd_Nj_copy_64 rfl ?_
            obtain ⟨w14, hV15, h⟩ := no_b h
            refine vr_cVip [(2 + 2 * (nj_n a1)), (3 + 2 * (nj_n a1))] [.int a2, .int a5] [] C nd_Nj_copy_66 rfl ml_Nj_95 my_Row_hasPlaces (co_Row_hasPlaces ((nj_rows s) (nj_n a1)) a2 a5 w14 hV15) (em_Nj_Row s (nj_n a1) (nj_lt_of hN13)) ⟨_, _, _, rfl, rfl, rfl⟩ rfl rfl ⟨rfl, rfl, rfl, rfl⟩ (Nat.zero_le _) (Nat.zero_le _) rfl ?_
            refine vr_ifb_eq C nd_Nj_copy_69 (fun hc => ?_) (fun hc => ?_)
            · have h := no_bf hc h
              refine vr_al C nd_Nj_copy_88 rfl ?_
              refine vr_ic C nd_Nj_copy_89 ?_
              obtain ⟨w16, hV17, h⟩ := no_b h
              refine vr_sVi (hp' := (rp_Nj (w16.2))) [.int (2 : Int32)] [] C nd_Nj_copy_90 rfl ml_Nj_73 my_Nj_found (co_Nj_found s (2 : Int32) w16 hV17) ⟨_, _, _, rfl, rfl, rfl⟩ rfl rfl ⟨rfl, rfl, rfl, rfl⟩ (Nat.zero_le _) (Nat.zero_le _) rfl ?_
              have h := no_s h
              subst h
              exact vr_iret C hq nd_Nj_copy_93 rfl
            · have h := no_bt hc h
              refine vr_al C nd_Nj_copy_72 rfl ?_
              refine vr_get (v := .ref 1) C nd_Nj_copy_73 rfl fl_Nj_11 (at_Nj_0 s) rfl ?_
              refine vr_il C nd_Nj_copy_76 rfl ?_
              obtain ⟨hN18, h⟩ := no_i h
              refine vr_aald3 (y := (2 + 2 * (nj_n a3))) C nd_Nj_copy_77 rfl (at_Nj_1 s) hN18 rfl ?_
              refine vr_il C nd_Nj_copy_78 rfl ?_
              refine vr_il C nd_Nj_copy_80 rfl ?_
              obtain ⟨w19, hV20, h⟩ := no_b h
              refine vr_cVip [(2 + 2 * (nj_n a3)), (3 + 2 * (nj_n a3))] [.int a4, .int a5] [] C nd_Nj_copy_82 rfl ml_Nj_95 my_Row_hasPlaces (co_Row_hasPlaces ((nj_rows s) (nj_n a3)) a4 a5 w19 hV20) (em_Nj_Row s (nj_n a3) (nj_lt_of hN18)) ⟨_, _, _, rfl, rfl, rfl⟩ rfl rfl ⟨rfl, rfl, rfl, rfl⟩ (Nat.zero_le _) (Nat.zero_le _) rfl ?_
              refine vr_ifb_ne C nd_Nj_copy_85 (fun hc => ?_) (fun hc => ?_)
              · have h := no_bt hc h
                refine vr_al C nd_Nj_copy_94 rfl ?_
                refine vr_get (v := .ref 1) C nd_Nj_copy_95 rfl fl_Nj_11 (at_Nj_0 s) rfl ?_
                refine vr_il C nd_Nj_copy_98 rfl ?_
                obtain ⟨hN21, h⟩ := no_i h
                refine vr_aald3 (y := (2 + 2 * (nj_n a1))) C nd_Nj_copy_99 rfl (at_Nj_1 s) hN21 rfl ?_
                refine vr_get (v := .ref (3 + 2 * (nj_n a1))) C nd_Nj_copy_100 rfl fl_Nj_85 (at_Nj_Row_0 s (nj_n a1) (nj_lt_of hN21)) rfl ?_
                refine vr_il C nd_Nj_copy_103 rfl ?_
                refine vr_al C nd_Nj_copy_104 rfl ?_
                refine vr_get (v := .ref 1) C nd_Nj_copy_105 rfl fl_Nj_11 (at_Nj_0 s) rfl ?_
                refine vr_il C nd_Nj_copy_108 rfl ?_
                obtain ⟨hN22, h⟩ := no_i h
                refine vr_aald3 (y := (2 + 2 * (nj_n a3))) C nd_Nj_copy_109 rfl (at_Nj_1 s) hN22 rfl ?_
                refine vr_get (v := .ref (3 + 2 * (nj_n a3))) C nd_Nj_copy_110 rfl fl_Nj_85 (at_Nj_Row_0 s (nj_n a3) (nj_lt_of hN22)) rfl ?_
                refine vr_il C nd_Nj_copy_113 rfl ?_
                refine vr_il C nd_Nj_copy_115 rfl ?_
                obtain ⟨hN23, h⟩ := no_if h
                refine vr_acpy (f := (ro_places ((nj_rows s) (nj_n a1)))) (g := (ro_places ((nj_rows s) (nj_n a3)))) (hp' := (rp_Nj (ns_rows s (va_up (nj_rows s) (nj_n a3) (rs_places ((nj_rows s) (nj_n a3)) (va_cpy (ro_places ((nj_rows s) (nj_n a1))) (ro_places ((nj_rows s) (nj_n a3))) (nj_n a2) (nj_n a4) (nj_n a5))))))) C nd_Nj_copy_117 rfl ml_Nj_99 sy_n sy_s sy_i (at_Nj_Row_1 s (nj_n a1) (nj_lt_of hN21)) (at_Nj_Row_1 s (nj_n a3) (nj_lt_of hN22)) hN23.1 hN23.2.1 hN23.2.2.1 hN23.2.2.2.1 hN23.2.2.2.2 rfl rfl rfl (st_Nj_Row_1 s (nj_n a3) (nj_lt_of hN22) (va_cpy (ro_places ((nj_rows s) (nj_n a1))) (ro_places ((nj_rows s) (nj_n a3))) (nj_n a2) (nj_n a4) (nj_n a5))) ?_
                refine vr_ic C nd_Nj_copy_120 ?_
                have h := no_s h
                subst h
                exact vr_iret C hq nd_Nj_copy_121 rfl
              · have h := no_bf hc h
                refine vr_al C nd_Nj_copy_88 rfl ?_
                refine vr_ic C nd_Nj_copy_89 ?_
                obtain ⟨w24, hV25, h⟩ := no_b h
                refine vr_sVi (hp' := (rp_Nj (w24.2))) [.int (2 : Int32)] [] C nd_Nj_copy_90 rfl ml_Nj_73 my_Nj_found (co_Nj_found s (2 : Int32) w24 hV25) ⟨_, _, _, rfl, rfl, rfl⟩ rfl rfl ⟨rfl, rfl, rfl, rfl⟩ (Nat.zero_le _) (Nat.zero_le _) rfl ?_
                have h := no_s h
                subst h
                exact vr_iret C hq nd_Nj_copy_93 rfl
          · have h := no_bt hc h
            refine vr_al C nd_Nj_copy_51 rfl ?_
            refine vr_ic C nd_Nj_copy_52 ?_
            obtain ⟨w26, hV27, h⟩ := no_b h
            refine vr_sVi (hp' := (rp_Nj (w26.2))) [.int (1 : Int32)] [] C nd_Nj_copy_53 rfl ml_Nj_73 my_Nj_found (co_Nj_found s (1 : Int32) w26 hV27) ⟨_, _, _, rfl, rfl, rfl⟩ rfl rfl ⟨rfl, rfl, rfl, rfl⟩ (Nat.zero_le _) (Nat.zero_le _) rfl ?_
            have h := no_s h
            subst h
            exact vr_iret C hq nd_Nj_copy_56 rfl
      · have h := no_f hc h
        refine vr_al C nd_Nj_copy_21 rfl ?_
        refine vr_ic C nd_Nj_copy_22 ?_
        obtain ⟨w28, hV29, h⟩ := no_b h
        refine vr_sVi (hp' := (rp_Nj (w28.2))) [.int (5 : Int32)] [] C nd_Nj_copy_23 rfl ml_Nj_73 my_Nj_found (co_Nj_found s (5 : Int32) w28 hV29) ⟨_, _, _, rfl, rfl, rfl⟩ rfl rfl ⟨rfl, rfl, rfl, rfl⟩ (Nat.zero_le _) (Nat.zero_le _) rfl ?_
        have h := no_s h
        subst h
        exact vr_iret C hq nd_Nj_copy_26 rfl
    · have h := no_bf hc h
      refine vr_ic C nd_Nj_copy_14 ?_
      have h := no_s h
      subst h
      exact vr_iret C hq nd_Nj_copy_15 rfl
abbrev nr_Nj_mean : Room := { frames := 1, cells := 0, slots := 0, locals := 23 }
theorem co_Nj_mean (s : NjS) (a1 : Int32) (x : Int32 × NjS) (h : mo_Nj_mean s a1 = some x) : nj_Con ny_Nj_mean nb_Nj_mean 3 (some .int) nr_Nj_mean (rp_Nj s) [.ref 0, .int a1] (some (.int (x.1))) (rp_Nj (x.2)) := by
  rw [mo_Nj_mean] at h
  refine nj_con (by decide) rfl 1 rfl (fun G ad C hq => ?_)
  have C : nj_C G nb_Nj_mean 3 "NobodyJoins" nr_Nj_mean := C
  show nj_V G ad 0 0 0 [some (.ref 0), some (.int a1), none] [] (rp_Nj s)
  refine vr_il C nd_Nj_mean_0 rfl ?_
  obtain ⟨w1, hV2, h⟩ := no_b h
  refine vr_cSip [] [.int a1] [] C nd_Nj_mean_1 rfl ml_Nj_69 my_Nj_isRow (co_Nj_isRow a1 w1 hV2) (em_E _) rfl rfl ⟨rfl, rfl, rfl, rfl⟩ (Nat.zero_le _) (Nat.zero_le _) rfl ?_
  refine vr_ifb_ne C nd_Nj_mean_4 (fun hc => ?_) (fun hc => ?_)
  · have h := no_bt hc h
    refine vr_al C nd_Nj_mean_9 rfl ?_
    refine vr_get (v := .ref 1) C nd_Nj_mean_10 rfl fl_Nj_11 (at_Nj_0 s) rfl ?_
    refine vr_il C nd_Nj_mean_13 rfl ?_
    obtain ⟨hN3, h⟩ := no_i h
    refine vr_aald3 (y := (2 + 2 * (nj_n a1))) C nd_Nj_mean_14 rfl (at_Nj_1 s) hN3 rfl ?_
    refine vr_as (ls' := [some (.ref 0), some (.int a1), some (.ref (2 + 2 * (nj_n a1)))]) C nd_Nj_mean_15 rfl rfl ?_
    refine vr_al C nd_Nj_mean_16 rfl ?_
    obtain ⟨w4, hV5, h⟩ := no_b h
    refine vr_cVip [(2 + 2 * (nj_n a1)), (3 + 2 * (nj_n a1))] [] [] C nd_Nj_mean_17 rfl ml_Nj_88 my_Row_isMissing (co_Row_isMissing ((nj_rows s) (nj_n a1)) w4 hV5) (em_Nj_Row s (nj_n a1) (nj_lt_of hN3)) ⟨_, _, _, rfl, rfl, rfl⟩ rfl rfl ⟨rfl, rfl, rfl, rfl⟩ (Nat.zero_le _) (Nat.zero_le _) rfl ?_
    refine vr_ifb_eq C nd_Nj_mean_20 (fun hc => ?_) (fun hc => ?_)
    · have h := no_bf hc h
      refine vr_al C nd_Nj_mean_29 rfl ?_
      refine vr_get (v := .int (ro_size ((nj_rows s) (nj_n a1)))) C nd_Nj_mean_30 rfl fl_Nj_92 (at_Nj_Row_0 s (nj_n a1) (nj_lt_of hN3)) rfl ?_
      refine vr_if_ne C nd_Nj_mean_33 (fun hc => ?_) (fun hc => ?_)
      · have h := no_f hc h
        refine vr_al C nd_Nj_mean_42 rfl ?_
        refine vr_al C nd_Nj_mean_43 rfl ?_
        obtain ⟨w6, hV7, h⟩ := no_b h
        refine vr_cVlp [(2 + 2 * (nj_n a1)), (3 + 2 * (nj_n a1))] [] [.ref 0] C nd_Nj_mean_44 rfl ml_Nj_105 my_Row_sum (co_Row_sum ((nj_rows s) (nj_n a1)) w6 hV7) (em_Nj_Row s (nj_n a1) (nj_lt_of hN3)) ⟨_, _, _, rfl, rfl, rfl⟩ rfl rfl ⟨rfl, rfl, rfl, rfl⟩ (Nat.zero_le _) (Nat.zero_le _) rfl ?_
        refine vr_al C nd_Nj_mean_47 rfl ?_
        refine vr_get (v := .int (ro_size ((nj_rows s) (nj_n a1)))) C nd_Nj_mean_48 rfl fl_Nj_92 (at_Nj_Row_0 s (nj_n a1) (nj_lt_of hN3)) rfl ?_
        refine vr_i2l C nd_Nj_mean_51 rfl ?_
        obtain ⟨hN8, h⟩ := no_if h
        refine vr_ldiv C nd_Nj_mean_52 rfl hN8 ?_
        refine vr_l2i C nd_Nj_mean_53 rfl ?_
        refine vr_puti (hp' := (rp_Nj (ns_an s (Int64.toInt32 (w6 / (Int32.toInt64 (ro_size ((nj_rows s) (nj_n a1))))))))) C nd_Nj_mean_54 rfl fl_Nj_57 (at_Nj_0 s) rfl (st_Nj_0_9 s (Int64.toInt32 (w6 / (Int32.toInt64 (ro_size ((nj_rows s) (nj_n a1))))))) ?_
        refine vr_ic C nd_Nj_mean_57 ?_
        have h := no_s h
        subst h
        exact vr_iret C hq nd_Nj_mean_58 rfl
      · have h := no_t hc h
        refine vr_al C nd_Nj_mean_36 rfl ?_
        refine vr_ic C nd_Nj_mean_37 ?_
        obtain ⟨w9, hV10, h⟩ := no_b h
        refine vr_sVi (hp' := (rp_Nj (w9.2))) [.int (4 : Int32)] [] C nd_Nj_mean_38 rfl ml_Nj_73 my_Nj_found (co_Nj_found s (4 : Int32) w9 hV10) ⟨_, _, _, rfl, rfl, rfl⟩ rfl rfl ⟨rfl, rfl, rfl, rfl⟩ (Nat.zero_le _) (Nat.zero_le _) rfl ?_
        have h := no_s h
        subst h
        exact vr_iret C hq nd_Nj_mean_41 rfl
    · have h := no_bt hc h
      refine vr_al C nd_Nj_mean_23 rfl ?_
      refine vr_ic C nd_Nj_mean_24 ?_
      obtain ⟨w11, hV12, h⟩ := no_b h
      refine vr_sVi (hp' := (rp_Nj (w11.2))) [.int (1 : Int32)] [] C nd_Nj_mean_25 rfl ml_Nj_73 my_Nj_found (co_Nj_found s (1 : Int32) w11 hV12) ⟨_, _, _, rfl, rfl, rfl⟩ rfl rfl ⟨rfl, rfl, rfl, rfl⟩ (Nat.zero_le _) (Nat.zero_le _) rfl ?_
      have h := no_s h
      subst h
      exact vr_iret C hq nd_Nj_mean_28 rfl
  · have h := no_bf hc h
    refine vr_ic C nd_Nj_mean_7 ?_
    have h := no_s h
    subst h
    exact vr_iret C hq nd_Nj_mean_8 rfl
abbrev nr_Nj_isText : Room := { frames := 0, cells := 0, slots := 0, locals := 0 }
theorem co_Nj_isText  (a0 : Int32) (x : Bool) (h : mo_Nj_isText a0 = some x) : nj_Con ny_Nj_isText nb_Nj_isText 1 (some .boolean) nr_Nj_isText [] [.int a0] (some (.int (nj_b x))) [] := by
  rw [mo_Nj_isText] at h
  refine nj_con (by decide) rfl 0 rfl (fun G ad C hq => ?_)
  have C : nj_C G nb_Nj_isText 1 "NobodyJoins" nr_Nj_isText := C
  show nj_V G ad 0 0 0 [some (.int a0)] [] []
  refine vr_il C nd_Nj_isText_0 rfl ?_
  refine vr_if_lt C nd_Nj_isText_1 (fun hc => ?_) (fun hc => ?_)
  · have h := no_t hc h
    refine vr_ic C nd_Nj_isText_13 ?_
    have h := no_s h
    subst h
    exact vr_zret false C hq nd_Nj_isText_14 rfl
  · have h := no_f hc h
    refine vr_il C nd_Nj_isText_4 rfl ?_
    refine vr_ic C nd_Nj_isText_5 ?_
    refine vr_cm_ge C nd_Nj_isText_6 (fun hc => ?_) (fun hc => ?_)
    · have h := no_t hc h
      refine vr_ic C nd_Nj_isText_13 ?_
      have h := no_s h
      subst h
      exact vr_zret false C hq nd_Nj_isText_14 rfl
    · have h := no_f hc h
      refine vr_ic C nd_Nj_isText_9 ?_
      refine vr_go C nd_Nj_isText_10 ?_
      have h := no_s h
      subst h
      exact vr_zret true C hq nd_Nj_isText_14 rfl
abbrev nr_Nj_text : Room := { frames := 1, cells := 0, slots := 0, locals := 22 }
theorem co_Nj_text (s : NjS) (a1 : Int32) (a2 : Int32) (x : Int32 × NjS) (h : mo_Nj_text s a1 a2 = some x) : nj_Con ny_Nj_text nb_Nj_text 3 (some .int) nr_Nj_text (rp_Nj s) [.ref 0, .int a1, .int a2] (some (.int (x.1))) (rp_Nj (x.2)) := by
  rw [mo_Nj_text] at h
  refine nj_con (by decide) rfl 0 rfl (fun G ad C hq => ?_)
  have C : nj_C G nb_Nj_text 3 "NobodyJoins" nr_Nj_text := C
  show nj_V G ad 0 0 0 [some (.ref 0), some (.int a1), some (.int a2)] [] (rp_Nj s)
  refine vr_il C nd_Nj_text_0 rfl ?_
  obtain ⟨w1, hV2, h⟩ := no_b h
  refine vr_cSip [] [.int a1] [] C nd_Nj_text_1 rfl ml_Nj_109 my_Nj_isText (co_Nj_isText a1 w1 hV2) (em_E _) rfl rfl ⟨rfl, rfl, rfl, rfl⟩ (Nat.zero_le _) (Nat.zero_le _) rfl ?_
  refine vr_ifb_eq C nd_Nj_text_4 (fun hc => ?_) (fun hc => ?_)
  · have h := no_bf hc h
    refine vr_ic C nd_Nj_text_13 ?_
    have h := no_s h
    subst h
    exact vr_iret C hq nd_Nj_text_14 rfl
  · have h := no_bt hc h
    refine vr_il C nd_Nj_text_7 rfl ?_
    refine vr_ic C nd_Nj_text_8 ?_
    refine vr_cm_le C nd_Nj_text_10 (fun hc => ?_) (fun hc => ?_)
    · have h := no_t hc h
      refine vr_il C nd_Nj_text_15 rfl ?_
      refine vr_if_ge C nd_Nj_text_16 (fun hc => ?_) (fun hc => ?_)
      · have h := no_t hc h
        refine vr_al C nd_Nj_text_25 rfl ?_
        refine vr_get (v := .ref 14) C nd_Nj_text_26 rfl fl_Nj_17 (at_Nj_0 s) rfl ?_
        refine vr_il C nd_Nj_text_29 rfl ?_
        obtain ⟨hN3, h⟩ := no_i h
        refine vr_aald4 (y := (15 + 2 * (nj_n a1))) C nd_Nj_text_30 rfl (at_Nj_14 s) hN3 rfl ?_
        refine vr_il C nd_Nj_text_31 rfl ?_
        obtain ⟨w4, hV5, h⟩ := no_b h
        refine vr_cVv (hp' := (rp_Nj (ns_texts s (va_up (nj_texts s) (nj_n a1) w4)))) [(15 + 2 * (nj_n a1)), (16 + 2 * (nj_n a1))] [.int a2] [] C nd_Nj_text_32 rfl ml_Nj_112 my_Text_renew (co_Text_renew ((nj_texts s) (nj_n a1)) a2 w4 hV5) (em_Nj_Text s (nj_n a1) (nj_lt_of hN3)) ⟨_, _, _, rfl, rfl, rfl⟩ rfl rfl ⟨rfl, rfl, rfl, rfl⟩ (Nat.zero_le _) (Nat.zero_le _) rfl (pa_Nj_Text s (nj_n a1) (nj_lt_of hN3) w4) ?_
        refine vr_il C nd_Nj_text_35 rfl ?_
        have h := no_s h
        subst h
        exact vr_iret C hq nd_Nj_text_36 rfl
      · have h := no_f hc h
        refine vr_al C nd_Nj_text_19 rfl ?_
        refine vr_ic C nd_Nj_text_20 ?_
        obtain ⟨w6, hV7, h⟩ := no_b h
        refine vr_sVi (hp' := (rp_Nj (w6.2))) [.int (5 : Int32)] [] C nd_Nj_text_21 rfl ml_Nj_73 my_Nj_found (co_Nj_found s (5 : Int32) w6 hV7) ⟨_, _, _, rfl, rfl, rfl⟩ rfl rfl ⟨rfl, rfl, rfl, rfl⟩ (Nat.zero_le _) (Nat.zero_le _) rfl ?_
        have h := no_s h
        subst h
        exact vr_iret C hq nd_Nj_text_24 rfl
    · have h := no_f hc h
      refine vr_ic C nd_Nj_text_13 ?_
      have h := no_s h
      subst h
      exact vr_iret C hq nd_Nj_text_14 rfl
abbrev nr_Nj_put : Room := { frames := 1, cells := 0, slots := 0, locals := 21 }
theorem co_Nj_put (s : NjS) (a1 : Int32) (a2 : Int32) (a3 : Int32) (x : Int32 × NjS) (h : mo_Nj_put s a1 a2 a3 = some x) : nj_Con ny_Nj_put nb_Nj_put 6 (some .int) nr_Nj_put (rp_Nj s) [.ref 0, .int a1, .int a2, .int a3] (some (.int (x.1))) (rp_Nj (x.2)) := by
  rw [mo_Nj_put] at h
  refine nj_con (by decide) rfl 2 rfl (fun G ad C hq => ?_)
  have C : nj_C G nb_Nj_put 6 "NobodyJoins" nr_Nj_put := C
  show nj_V G ad 0 0 0 [some (.ref 0), some (.int a1), some (.int a2), some (.int a3), none, none] [] (rp_Nj s)
  refine vr_il C nd_Nj_put_0 rfl ?_
  obtain ⟨w1, hV2, h⟩ := no_b h
  refine vr_cSip [] [.int a1] [] C nd_Nj_put_1 rfl ml_Nj_109 my_Nj_isText (co_Nj_isText a1 w1 hV2) (em_E _) rfl rfl ⟨rfl, rfl, rfl, rfl⟩ (Nat.zero_le _) (Nat.zero_le _) rfl ?_
  refine vr_ifb_ne C nd_Nj_put_4 (fun hc => ?_) (fun hc => ?_)
  · have h := no_bt hc h
    refine vr_al C nd_Nj_put_9 rfl ?_
    refine vr_get (v := .ref 14) C nd_Nj_put_10 rfl fl_Nj_17 (at_Nj_0 s) rfl ?_
    refine vr_il C nd_Nj_put_13 rfl ?_
    obtain ⟨hN3, h⟩ := no_i h
    refine vr_aald4 (y := (15 + 2 * (nj_n a1))) C nd_Nj_put_14 rfl (at_Nj_14 s) hN3 rfl ?_
    refine vr_as (ls' := [some (.ref 0), some (.int a1), some (.int a2), some (.int a3), some (.ref (15 + 2 * (nj_n a1))), none]) C nd_Nj_put_15 rfl rfl ?_
    refine vr_al C nd_Nj_put_17 rfl ?_
    obtain ⟨w4, hV5, h⟩ := no_b h
    refine vr_cVip [(15 + 2 * (nj_n a1)), (16 + 2 * (nj_n a1))] [] [] C nd_Nj_put_19 rfl ml_Nj_113 my_Text_isMissing (co_Text_isMissing ((nj_texts s) (nj_n a1)) w4 hV5) (em_Nj_Text s (nj_n a1) (nj_lt_of hN3)) ⟨_, _, _, rfl, rfl, rfl⟩ rfl rfl ⟨rfl, rfl, rfl, rfl⟩ (Nat.zero_le _) (Nat.zero_le _) rfl ?_
    refine vr_ifb_eq C nd_Nj_put_22 (fun hc => ?_) (fun hc => ?_)
    · have h := no_bf hc h
      refine vr_al C nd_Nj_put_31 rfl ?_
      refine vr_il C nd_Nj_put_33 rfl ?_
      obtain ⟨w6, hV7, h⟩ := no_b h
      refine vr_cVip [(15 + 2 * (nj_n a1)), (16 + 2 * (nj_n a1))] [.int a2] [] C nd_Nj_put_34 rfl ml_Nj_114 my_Text_hasPlace (co_Text_hasPlace ((nj_texts s) (nj_n a1)) a2 w6 hV7) (em_Nj_Text s (nj_n a1) (nj_lt_of hN3)) ⟨_, _, _, rfl, rfl, rfl⟩ rfl rfl ⟨rfl, rfl, rfl, rfl⟩ (Nat.zero_le _) (Nat.zero_le _) rfl ?_
      refine vr_ifb_ne C nd_Nj_put_37 (fun hc => ?_) (fun hc => ?_)
      · have h := no_bt hc h
        refine vr_al C nd_Nj_put_46 rfl ?_
        refine vr_get (v := .ref (16 + 2 * (nj_n a1))) C nd_Nj_put_48 rfl fl_Nj_117 (at_Nj_Text_0 s (nj_n a1) (nj_lt_of hN3)) rfl ?_
        refine vr_il C nd_Nj_put_51 rfl ?_
        obtain ⟨hN8, h⟩ := no_i h
        refine vr_balk (j := (nj_n a2)) (f := (te_bytes ((nj_texts s) (nj_n a1)))) C nd_Nj_put_52 rfl (at_Nj_Text_1 s (nj_n a1) (nj_lt_of hN3)) hN8 rfl ?_
        refine vr_is (ls' := [some (.ref 0), some (.int a1), some (.int a2), some (.int a3), some (.ref (15 + 2 * (nj_n a1))), some (.int ((te_bytes ((nj_texts s) (nj_n a1))) (nj_n a2)))]) C nd_Nj_put_53 rfl rfl ?_
        refine vr_al C nd_Nj_put_55 rfl ?_
        refine vr_get (v := .ref (16 + 2 * (nj_n a1))) C nd_Nj_put_57 rfl fl_Nj_117 (at_Nj_Text_0 s (nj_n a1) (nj_lt_of hN3)) rfl ?_
        refine vr_il C nd_Nj_put_60 rfl ?_
        refine vr_il C nd_Nj_put_61 rfl ?_
        refine vr_i2b C nd_Nj_put_62 rfl ?_
        obtain ⟨hN9, h⟩ := no_i h
        refine vr_bask (j := (nj_n a2)) (f := (te_bytes ((nj_texts s) (nj_n a1)))) (hp' := (rp_Nj (ns_texts s (va_up (nj_texts s) (nj_n a1) (ts_bytes ((nj_texts s) (nj_n a1)) (upd (te_bytes ((nj_texts s) (nj_n a1))) (nj_n a2) (vp_nar .byte (nj_i2b a3)))))))) C nd_Nj_put_63 rfl (at_Nj_Text_1 s (nj_n a1) (nj_lt_of hN3)) hN9 rfl (st_Nj_Text_1 s (nj_n a1) (nj_lt_of hN3) (upd (te_bytes ((nj_texts s) (nj_n a1))) (nj_n a2) (vp_nar .byte (nj_i2b a3)))) ?_
        refine vr_il C nd_Nj_put_64 rfl ?_
        refine vr_ic C nd_Nj_put_66 ?_
        refine vr_iadd C nd_Nj_put_69 rfl ?_
        have h := no_s h
        subst h
        exact vr_iret C hq nd_Nj_put_70 rfl
      · have h := no_bf hc h
        refine vr_al C nd_Nj_put_40 rfl ?_
        refine vr_ic C nd_Nj_put_41 ?_
        obtain ⟨w10, hV11, h⟩ := no_b h
        refine vr_sVi (hp' := (rp_Nj (w10.2))) [.int (2 : Int32)] [] C nd_Nj_put_42 rfl ml_Nj_73 my_Nj_found (co_Nj_found s (2 : Int32) w10 hV11) ⟨_, _, _, rfl, rfl, rfl⟩ rfl rfl ⟨rfl, rfl, rfl, rfl⟩ (Nat.zero_le _) (Nat.zero_le _) rfl ?_
        have h := no_s h
        subst h
        exact vr_iret C hq nd_Nj_put_45 rfl
    · have h := no_bt hc h
      refine vr_al C nd_Nj_put_25 rfl ?_
      refine vr_ic C nd_Nj_put_26 ?_
      obtain ⟨w12, hV13, h⟩ := no_b h
      refine vr_sVi (hp' := (rp_Nj (w12.2))) [.int (1 : Int32)] [] C nd_Nj_put_27 rfl ml_Nj_73 my_Nj_found (co_Nj_found s (1 : Int32) w12 hV13) ⟨_, _, _, rfl, rfl, rfl⟩ rfl rfl ⟨rfl, rfl, rfl, rfl⟩ (Nat.zero_le _) (Nat.zero_le _) rfl ?_
      have h := no_s h
      subst h
      exact vr_iret C hq nd_Nj_put_30 rfl
  · have h := no_bf hc h
    refine vr_ic C nd_Nj_put_7 ?_
    have h := no_s h
    subst h
    exact vr_iret C hq nd_Nj_put_8 rfl
abbrev nr_Nj_fault : Room := { frames := 5, cells := 0, slots := 0, locals := 113 }
theorem co_Nj_fault (s : NjS) (a1 : Int32) (x : Int32 × NjS) (h : mo_Nj_fault s a1 = some x) : nj_Con ny_Nj_fault nb_Nj_fault 2 (some .int) nr_Nj_fault (rp_Nj s) [.ref 0, .int a1] (some (.int (x.1))) (rp_Nj (x.2)) := by
  rw [mo_Nj_fault] at h
  refine nj_con (by decide) rfl 0 rfl (fun G ad C hq => ?_)
  have C : nj_C G nb_Nj_fault 2 "NobodyJoins" nr_Nj_fault := C
  show nj_V G ad 0 0 0 [some (.ref 0), some (.int a1)] [] (rp_Nj s)
  refine vr_il C nd_Nj_fault_0 rfl ?_
  obtain ⟨w1, hV2, h⟩ := no_b h
  refine vr_cSip [] [.int a1] [] C nd_Nj_fault_1 rfl ml_Nj_109 my_Nj_isText (co_Nj_isText a1 w1 hV2) (em_E _) rfl rfl ⟨rfl, rfl, rfl, rfl⟩ (Nat.zero_le _) (Nat.zero_le _) rfl ?_
  refine vr_ifb_ne C nd_Nj_fault_4 (fun hc => ?_) (fun hc => ?_)
  · have h := no_bt hc h
    refine vr_al C nd_Nj_fault_9 rfl ?_
    refine vr_get (v := .ref 14) C nd_Nj_fault_10 rfl fl_Nj_17 (at_Nj_0 s) rfl ?_
    refine vr_il C nd_Nj_fault_13 rfl ?_
    obtain ⟨hN3, h⟩ := no_i h
    refine vr_aald4 (y := (15 + 2 * (nj_n a1))) C nd_Nj_fault_14 rfl (at_Nj_14 s) hN3 rfl ?_
    obtain ⟨w4, hV5, h⟩ := no_b h
    refine vr_cVip [(15 + 2 * (nj_n a1)), (16 + 2 * (nj_n a1))] [] [] C nd_Nj_fault_15 rfl ml_Nj_113 my_Text_isMissing (co_Text_isMissing ((nj_texts s) (nj_n a1)) w4 hV5) (em_Nj_Text s (nj_n a1) (nj_lt_of hN3)) ⟨_, _, _, rfl, rfl, rfl⟩ rfl rfl ⟨rfl, rfl, rfl, rfl⟩ (Nat.zero_le _) (Nat.zero_le _) rfl ?_
    refine vr_ifb_eq C nd_Nj_fault_18 (fun hc => ?_) (fun hc => ?_)
    · have h := no_bf hc h
      refine vr_al C nd_Nj_fault_27 rfl ?_
      refine vr_get (v := .ref 49) C nd_Nj_fault_28 rfl fl_Nj_38 (at_Nj_0 s) rfl ?_
      refine vr_al C nd_Nj_fault_31 rfl ?_
      refine vr_get (v := .ref 14) C nd_Nj_fault_32 rfl fl_Nj_17 (at_Nj_0 s) rfl ?_
      refine vr_il C nd_Nj_fault_35 rfl ?_
      obtain ⟨hN6, h⟩ := no_i h
      refine vr_aald4 (y := (15 + 2 * (nj_n a1))) C nd_Nj_fault_36 rfl (at_Nj_14 s) hN6 rfl ?_
      refine vr_al C nd_Nj_fault_37 rfl ?_
      refine vr_get (v := .ref 28) C nd_Nj_fault_38 rfl fl_Nj_28 (at_Nj_0 s) rfl ?_
      obtain ⟨w7, hV8, h⟩ := no_b h
      refine vr_cVi (hp' := (rp_Nj (ns_draft (ns_rd s (w7.2.1)) (w7.2.2)))) [49, (15 + 2 * (nj_n a1)), (16 + 2 * (nj_n a1)), 28, 29, 30, 31, 32] [.ref 1, .ref 3] [] C nd_Nj_fault_41 rfl ml_Nj_121 my_Reader_readClub (co_Reader_readClub (nj_rd s) ((nj_texts s) (nj_n a1)) (nj_draft s) w7 hV8) (em_Nj_Rdr s (nj_n a1) (nj_lt_of hN6)) ⟨_, _, _, rfl, rfl, rfl⟩ rfl rfl ⟨rfl, rfl, rfl, rfl⟩ (Nat.zero_le _) (Nat.zero_le _) rfl (pa_Nj_Rdr s (nj_n a1) (nj_lt_of hN6) (w7.2.1) (w7.2.2)) ?_
      have h := no_s h
      subst h
      exact vr_iret C hq nd_Nj_fault_44 rfl
    · have h := no_bt hc h
      refine vr_al C nd_Nj_fault_21 rfl ?_
      refine vr_ic C nd_Nj_fault_22 ?_
      obtain ⟨w9, hV10, h⟩ := no_b h
      refine vr_sVi (hp' := (rp_Nj (w9.2))) [.int (1 : Int32)] [] C nd_Nj_fault_23 rfl ml_Nj_73 my_Nj_found (co_Nj_found s (1 : Int32) w9 hV10) ⟨_, _, _, rfl, rfl, rfl⟩ rfl rfl ⟨rfl, rfl, rfl, rfl⟩ (Nat.zero_le _) (Nat.zero_le _) rfl ?_
      have h := no_s h
      subst h
      exact vr_iret C hq nd_Nj_fault_26 rfl
  · have h := no_bf hc h
    refine vr_ic C nd_Nj_fault_7 ?_
    have h := no_s h
    subst h
    exact vr_iret C hq nd_Nj_fault_8 rfl
abbrev nr_Nj_club : Room := { frames := 5, cells := 0, slots := 0, locals := 113 }
theorem lw_Nj_club_65 {G : nj_G} {ad : Nat → Nat} (C : nj_C G nb_Nj_club 3 "NobodyJoins" nr_Nj_club)  : ∀ (n : Nat) (s : NjS) (v2 : Int32) (x : NjS), lo_Nj_club_65  n s v2 = some x → nj_V G ad 0 0 85 [some (.ref 0), none, none] [] (rp_Nj x) → nj_V G ad 0 0 65 [some (.ref 0), none, some (.int v2)] [] (rp_Nj s) := by
  intro n
  induction n with
  | zero => intro s v2 x h; rw [lo_Nj_club_65] at h; cases h
  | succ n ih =>
    intro s v2 x h hk
    rw [lo_Nj_club_65] at h
    refine vr_il C nd_Nj_club_65 rfl ?_
    refine vr_ic C nd_Nj_club_66 ?_
    refine vr_cm_ge C nd_Nj_club_67 (fun hc => ?_) (fun hc => ?_)
    · have h := no_t hc h
      have h := no_s h
      subst h
      exact vr_wk [2] rfl hk
    · have h := no_f hc h
      refine vr_al C nd_Nj_club_70 rfl ?_
      refine vr_get (v := .ref 33) C nd_Nj_club_71 rfl fl_Nj_31 (at_Nj_0 s) rfl ?_
      refine vr_il C nd_Nj_club_74 rfl ?_
      obtain ⟨hN11, h⟩ := no_i h
      refine vr_aald5 (y := (34 + 5 * (nj_n v2))) C nd_Nj_club_75 rfl (at_Nj_33 s) hN11 rfl ?_
      obtain ⟨w12, hV13, h⟩ := no_b h
      refine vr_cVv (hp' := (rp_Nj (ns_kept s (va_up (nj_kept s) (nj_n v2) w12)))) [(34 + 5 * (nj_n v2)), (35 + 5 * (nj_n v2)), (36 + 5 * (nj_n v2)), (37 + 5 * (nj_n v2)), (38 + 5 * (nj_n v2))] [] [] C nd_Nj_club_76 rfl ml_Nj_129 my_Club_clear (co_Club_clear ((nj_kept s) (nj_n v2)) w12 hV13) (em_Nj_Kept s (nj_n v2) (nj_lt_of hN11)) ⟨_, _, _, rfl, rfl, rfl⟩ rfl rfl ⟨rfl, rfl, rfl, rfl⟩ (Nat.zero_le _) (Nat.zero_le _) rfl (pa_Nj_Kept s (nj_n v2) (nj_lt_of hN11) w12) ?_
      refine vr_inc (v := (v2 + (1 : Int32))) (ls' := [some (.ref 0), none, some (.int (v2 + (1 : Int32)))]) C nd_Nj_club_79 rfl rfl rfl rfl rfl ?_
      refine vr_go C nd_Nj_club_82 ?_
      exact (ih _ _ _ h hk)
theorem co_Nj_club (s : NjS) (a1 : Int32) (x : Int32 × NjS) (h : mo_Nj_club s a1 = some x) : nj_Con ny_Nj_club nb_Nj_club 3 (some .int) nr_Nj_club (rp_Nj s) [.ref 0, .int a1] (some (.int (x.1))) (rp_Nj (x.2)) := by
  rw [mo_Nj_club] at h
  refine nj_con (by decide) rfl 1 rfl (fun G ad C hq => ?_)
  have C : nj_C G nb_Nj_club 3 "NobodyJoins" nr_Nj_club := C
  show nj_V G ad 0 0 0 [some (.ref 0), some (.int a1), none] [] (rp_Nj s)
  refine vr_il C nd_Nj_club_0 rfl ?_
  obtain ⟨w1, hV2, h⟩ := no_b h
  refine vr_cSip [] [.int a1] [] C nd_Nj_club_1 rfl ml_Nj_109 my_Nj_isText (co_Nj_isText a1 w1 hV2) (em_E _) rfl rfl ⟨rfl, rfl, rfl, rfl⟩ (Nat.zero_le _) (Nat.zero_le _) rfl ?_
  refine vr_ifb_ne C nd_Nj_club_4 (fun hc => ?_) (fun hc => ?_)
  · have h := no_bt hc h
    refine vr_al C nd_Nj_club_9 rfl ?_
    refine vr_get (v := .ref 14) C nd_Nj_club_10 rfl fl_Nj_17 (at_Nj_0 s) rfl ?_
    refine vr_il C nd_Nj_club_13 rfl ?_
    obtain ⟨hN3, h⟩ := no_i h
    refine vr_aald4 (y := (15 + 2 * (nj_n a1))) C nd_Nj_club_14 rfl (at_Nj_14 s) hN3 rfl ?_
    obtain ⟨w4, hV5, h⟩ := no_b h
    refine vr_cVip [(15 + 2 * (nj_n a1)), (16 + 2 * (nj_n a1))] [] [] C nd_Nj_club_15 rfl ml_Nj_113 my_Text_isMissing (co_Text_isMissing ((nj_texts s) (nj_n a1)) w4 hV5) (em_Nj_Text s (nj_n a1) (nj_lt_of hN3)) ⟨_, _, _, rfl, rfl, rfl⟩ rfl rfl ⟨rfl, rfl, rfl, rfl⟩ (Nat.zero_le _) (Nat.zero_le _) rfl ?_
    refine vr_ifb_eq C nd_Nj_club_18 (fun hc => ?_) (fun hc => ?_)
    · have h := no_bf hc h
      refine vr_al C nd_Nj_club_27 rfl ?_
      refine vr_get (v := .ref 49) C nd_Nj_club_28 rfl fl_Nj_38 (at_Nj_0 s) rfl ?_
      refine vr_al C nd_Nj_club_31 rfl ?_
      refine vr_get (v := .ref 14) C nd_Nj_club_32 rfl fl_Nj_17 (at_Nj_0 s) rfl ?_
      refine vr_il C nd_Nj_club_35 rfl ?_
      obtain ⟨hN6, h⟩ := no_i h
      refine vr_aald4 (y := (15 + 2 * (nj_n a1))) C nd_Nj_club_36 rfl (at_Nj_14 s) hN6 rfl ?_
      refine vr_al C nd_Nj_club_37 rfl ?_
      refine vr_get (v := .ref 28) C nd_Nj_club_38 rfl fl_Nj_28 (at_Nj_0 s) rfl ?_
      obtain ⟨w7, hV8, h⟩ := no_b h
      refine vr_cVi (hp' := (rp_Nj (ns_draft (ns_rd s (w7.2.1)) (w7.2.2)))) [49, (15 + 2 * (nj_n a1)), (16 + 2 * (nj_n a1)), 28, 29, 30, 31, 32] [.ref 1, .ref 3] [] C nd_Nj_club_41 rfl ml_Nj_121 my_Reader_readClub (co_Reader_readClub (nj_rd s) ((nj_texts s) (nj_n a1)) (nj_draft s) w7 hV8) (em_Nj_Rdr s (nj_n a1) (nj_lt_of hN6)) ⟨_, _, _, rfl, rfl, rfl⟩ rfl rfl ⟨rfl, rfl, rfl, rfl⟩ (Nat.zero_le _) (Nat.zero_le _) rfl (pa_Nj_Rdr s (nj_n a1) (nj_lt_of hN6) (w7.2.1) (w7.2.2)) ?_
      refine vr_ic C nd_Nj_club_44 ?_
      refine vr_cm_eq C nd_Nj_club_46 (fun hc => ?_) (fun hc => ?_)
      · have h := no_t hc h
        refine vr_al C nd_Nj_club_52 rfl ?_
        refine vr_get (v := .ref 23) C nd_Nj_club_53 rfl fl_Nj_24 (at_Nj_0 (ns_draft (ns_rd s (w7.2.1)) (w7.2.2))) rfl ?_
        refine vr_al C nd_Nj_club_56 rfl ?_
        refine vr_get (v := .ref 28) C nd_Nj_club_57 rfl fl_Nj_28 (at_Nj_0 (ns_draft (ns_rd s (w7.2.1)) (w7.2.2))) rfl ?_
        obtain ⟨w9, hV10, h⟩ := no_b h
        refine vr_cVv (hp' := (rp_Nj (ns_club (ns_draft (ns_rd s (w7.2.1)) (w7.2.2)) w9))) [23, 24, 25, 26, 27, 28, 29, 30, 31, 32] [.ref 5] [] C nd_Nj_club_60 rfl ml_Nj_125 my_Club_become (co_Club_become (nj_club s) (w7.2.2) w9 hV10) (em_Nj_ClubDraft (ns_draft (ns_rd s (w7.2.1)) (w7.2.2))) ⟨_, _, _, rfl, rfl, rfl⟩ rfl rfl ⟨rfl, rfl, rfl, rfl⟩ (Nat.zero_le _) (Nat.zero_le _) rfl (pa_Nj_ClubDraft (ns_draft (ns_rd s (w7.2.1)) (w7.2.2)) w9) ?_
        refine vr_ic C nd_Nj_club_63 ?_
        refine vr_is (ls' := [some (.ref 0), some (.int a1), some (.int (0 : Int32))]) C nd_Nj_club_64 rfl rfl ?_
        refine vr_wk (ls' := [some (.ref 0), none, some (.int (0 : Int32))]) [1] rfl ?_
        obtain ⟨x14, hX15, h⟩ := no_b h
        refine lw_Nj_club_65 C  nj_fu _ _ x14 hX15 ?_
        refine vr_al C nd_Nj_club_85 rfl ?_
        refine vr_get (v := .ref 23) C nd_Nj_club_86 rfl fl_Nj_24 (at_Nj_0 x14) rfl ?_
        refine vr_get (v := .int (cl_children (nj_club x14))) C nd_Nj_club_89 rfl fl_Nj_132 (at_Nj_23 x14) rfl ?_
        have h := no_s h
        subst h
        exact vr_iret C hq nd_Nj_club_92 rfl
      · have h := no_f hc h
        refine vr_ic C nd_Nj_club_49 ?_
        have h := no_s h
        subst h
        exact vr_iret C hq nd_Nj_club_51 rfl
    · have h := no_bt hc h
      refine vr_al C nd_Nj_club_21 rfl ?_
      refine vr_ic C nd_Nj_club_22 ?_
      obtain ⟨w16, hV17, h⟩ := no_b h
      refine vr_sVi (hp' := (rp_Nj (w16.2))) [.int (1 : Int32)] [] C nd_Nj_club_23 rfl ml_Nj_73 my_Nj_found (co_Nj_found s (1 : Int32) w16 hV17) ⟨_, _, _, rfl, rfl, rfl⟩ rfl rfl ⟨rfl, rfl, rfl, rfl⟩ (Nat.zero_le _) (Nat.zero_le _) rfl ?_
      have h := no_s h
      subst h
      exact vr_iret C hq nd_Nj_club_26 rfl
  · have h := no_bf hc h
    refine vr_ic C nd_Nj_club_7 ?_
    have h := no_s h
    subst h
    exact vr_iret C hq nd_Nj_club_8 rfl
abbrev nr_Nj_isChild : Room := { frames := 0, cells := 0, slots := 0, locals := 0 }
theorem co_Nj_isChild (s : NjS) (a1 : Int32) (x : Bool) (h : mo_Nj_isChild s a1 = some x) : nj_Con ny_Nj_isChild nb_Nj_isChild 2 (some .boolean) nr_Nj_isChild (rp_Nj s) [.ref 0, .int a1] (some (.int (nj_b x))) (rp_Nj s) := by
  rw [mo_Nj_isChild] at h
  refine nj_con (by decide) rfl 0 rfl (fun G ad C hq => ?_)
  have C : nj_C G nb_Nj_isChild 2 "NobodyJoins" nr_Nj_isChild := C
  show nj_V G ad 0 0 0 [some (.ref 0), some (.int a1)] [] (rp_Nj s)
  refine vr_il C nd_Nj_isChild_0 rfl ?_
  refine vr_if_lt C nd_Nj_isChild_1 (fun hc => ?_) (fun hc => ?_)
  · have h := no_t hc h
    refine vr_ic C nd_Nj_isChild_19 ?_
    have h := no_s h
    subst h
    exact vr_zret false C hq nd_Nj_isChild_20 rfl
  · have h := no_f hc h
    refine vr_il C nd_Nj_isChild_4 rfl ?_
    refine vr_al C nd_Nj_isChild_5 rfl ?_
    refine vr_get (v := .ref 23) C nd_Nj_isChild_6 rfl fl_Nj_24 (at_Nj_0 s) rfl ?_
    refine vr_get (v := .int (cl_children (nj_club s))) C nd_Nj_isChild_9 rfl fl_Nj_132 (at_Nj_23 s) rfl ?_
    refine vr_cm_ge C nd_Nj_isChild_12 (fun hc => ?_) (fun hc => ?_)
    · have h := no_t hc h
      refine vr_ic C nd_Nj_isChild_19 ?_
      have h := no_s h
      subst h
      exact vr_zret false C hq nd_Nj_isChild_20 rfl
    · have h := no_f hc h
      refine vr_ic C nd_Nj_isChild_15 ?_
      refine vr_go C nd_Nj_isChild_16 ?_
      have h := no_s h
      subst h
      exact vr_zret true C hq nd_Nj_isChild_20 rfl
abbrev nr_Nj_child : Room := { frames := 2, cells := 0, slots := 0, locals := 45 }
theorem co_Nj_child (s : NjS) (a1 : Int32) (a2 : Int32) (x : Int32 × NjS) (h : mo_Nj_child s a1 a2 = some x) : nj_Con ny_Nj_child nb_Nj_child 3 (some .int) nr_Nj_child (rp_Nj s) [.ref 0, .int a1, .int a2] (some (.int (x.1))) (rp_Nj (x.2)) := by
  rw [mo_Nj_child] at h
  refine nj_con (by decide) rfl 0 rfl (fun G ad C hq => ?_)
  have C : nj_C G nb_Nj_child 3 "NobodyJoins" nr_Nj_child := C
  show nj_V G ad 0 0 0 [some (.ref 0), some (.int a1), some (.int a2)] [] (rp_Nj s)
  refine vr_al C nd_Nj_child_0 rfl ?_
  refine vr_il C nd_Nj_child_1 rfl ?_
  obtain ⟨w1, hV2, h⟩ := no_b h
  refine vr_sVi (hp' := (rp_Nj s)) [.int a1] [] C nd_Nj_child_2 rfl ml_Nj_135 my_Nj_isChild (co_Nj_isChild s a1 w1 hV2) ⟨_, _, _, rfl, rfl, rfl⟩ rfl rfl ⟨rfl, rfl, rfl, rfl⟩ (Nat.zero_le _) (Nat.zero_le _) rfl ?_
  refine vr_ifb_eq C nd_Nj_child_5 (fun hc => ?_) (fun hc => ?_)
  · have h := no_bf hc h
    refine vr_ic C nd_Nj_child_18 ?_
    have h := no_s h
    subst h
    exact vr_iret C hq nd_Nj_child_19 rfl
  · have h := no_bt hc h
    refine vr_il C nd_Nj_child_8 rfl ?_
    refine vr_if_lt C nd_Nj_child_9 (fun hc => ?_) (fun hc => ?_)
    · have h := no_t hc h
      refine vr_ic C nd_Nj_child_18 ?_
      have h := no_s h
      subst h
      exact vr_iret C hq nd_Nj_child_19 rfl
    · have h := no_f hc h
      refine vr_il C nd_Nj_child_12 rfl ?_
      refine vr_ic C nd_Nj_child_13 ?_
      refine vr_cm_lt C nd_Nj_child_15 (fun hc => ?_) (fun hc => ?_)
      · have h := no_t hc h
        refine vr_al C nd_Nj_child_20 rfl ?_
        refine vr_al C nd_Nj_child_21 rfl ?_
        refine vr_get (v := .ref 23) C nd_Nj_child_22 rfl fl_Nj_24 (at_Nj_0 s) rfl ?_
        refine vr_il C nd_Nj_child_25 rfl ?_
        refine vr_il C nd_Nj_child_26 rfl ?_
        obtain ⟨w3, hV4, h⟩ := no_b h
        refine vr_cVip [23, 24, 25, 26, 27] [.int a1, .int a2] [.ref 0] C nd_Nj_child_27 rfl ml_Nj_138 my_Club_valueOf (co_Club_valueOf (nj_club s) a1 a2 w3 hV4) (em_Nj_Club s) ⟨_, _, _, rfl, rfl, rfl⟩ rfl rfl ⟨rfl, rfl, rfl, rfl⟩ (Nat.zero_le _) (Nat.zero_le _) rfl ?_
        refine vr_puti (hp' := (rp_Nj (ns_an s w3))) C nd_Nj_child_30 rfl fl_Nj_57 (at_Nj_0 s) rfl (st_Nj_0_9 s w3) ?_
        refine vr_ic C nd_Nj_child_33 ?_
        have h := no_s h
        subst h
        exact vr_iret C hq nd_Nj_child_34 rfl
      · have h := no_f hc h
        refine vr_ic C nd_Nj_child_18 ?_
        have h := no_s h
        subst h
        exact vr_iret C hq nd_Nj_child_19 rfl
abbrev nr_Nj_mark : Room := { frames := 2, cells := 0, slots := 0, locals := 45 }
theorem co_Nj_mark (s : NjS) (a1 : Int32) (a2 : Int32) (x : Int32 × NjS) (h : mo_Nj_mark s a1 a2 = some x) : nj_Con ny_Nj_mark nb_Nj_mark 3 (some .int) nr_Nj_mark (rp_Nj s) [.ref 0, .int a1, .int a2] (some (.int (x.1))) (rp_Nj (x.2)) := by
  rw [mo_Nj_mark] at h
  refine nj_con (by decide) rfl 0 rfl (fun G ad C hq => ?_)
  have C : nj_C G nb_Nj_mark 3 "NobodyJoins" nr_Nj_mark := C
  show nj_V G ad 0 0 0 [some (.ref 0), some (.int a1), some (.int a2)] [] (rp_Nj s)
  refine vr_al C nd_Nj_mark_0 rfl ?_
  refine vr_il C nd_Nj_mark_1 rfl ?_
  obtain ⟨w1, hV2, h⟩ := no_b h
  refine vr_sVi (hp' := (rp_Nj s)) [.int a1] [] C nd_Nj_mark_2 rfl ml_Nj_135 my_Nj_isChild (co_Nj_isChild s a1 w1 hV2) ⟨_, _, _, rfl, rfl, rfl⟩ rfl rfl ⟨rfl, rfl, rfl, rfl⟩ (Nat.zero_le _) (Nat.zero_le _) rfl ?_
  refine vr_ifb_eq C nd_Nj_mark_5 (fun hc => ?_) (fun hc => ?_)
  · have h := no_bf hc h
    refine vr_ic C nd_Nj_mark_18 ?_
    have h := no_s h
    subst h
    exact vr_iret C hq nd_Nj_mark_19 rfl
  · have h := no_bt hc h
    refine vr_il C nd_Nj_mark_8 rfl ?_
    refine vr_ic C nd_Nj_mark_9 ?_
    refine vr_cm_lt C nd_Nj_mark_10 (fun hc => ?_) (fun hc => ?_)
    · have h := no_t hc h
      refine vr_ic C nd_Nj_mark_18 ?_
      have h := no_s h
      subst h
      exact vr_iret C hq nd_Nj_mark_19 rfl
    · have h := no_f hc h
      refine vr_il C nd_Nj_mark_13 rfl ?_
      refine vr_ic C nd_Nj_mark_14 ?_
      refine vr_cm_le C nd_Nj_mark_15 (fun hc => ?_) (fun hc => ?_)
      · have h := no_t hc h
        refine vr_al C nd_Nj_mark_20 rfl ?_
        refine vr_get (v := .ref 23) C nd_Nj_mark_21 rfl fl_Nj_24 (at_Nj_0 s) rfl ?_
        refine vr_il C nd_Nj_mark_24 rfl ?_
        refine vr_il C nd_Nj_mark_25 rfl ?_
        obtain ⟨w3, hV4, h⟩ := no_b h
        refine vr_cVip [23, 24, 25, 26, 27] [.int a1, .int a2] [] C nd_Nj_mark_26 rfl ml_Nj_141 my_Club_isOfKind (co_Club_isOfKind (nj_club s) a1 a2 w3 hV4) (em_Nj_Club s) ⟨_, _, _, rfl, rfl, rfl⟩ rfl rfl ⟨rfl, rfl, rfl, rfl⟩ (Nat.zero_le _) (Nat.zero_le _) rfl ?_
        refine vr_ifb_ne C nd_Nj_mark_29 (fun hc => ?_) (fun hc => ?_)
        · have h := no_bt hc h
          refine vr_al C nd_Nj_mark_38 rfl ?_
          refine vr_get (v := .ref 23) C nd_Nj_mark_39 rfl fl_Nj_24 (at_Nj_0 s) rfl ?_
          refine vr_il C nd_Nj_mark_42 rfl ?_
          refine vr_il C nd_Nj_mark_43 rfl ?_
          obtain ⟨w5, hV6, h⟩ := no_b h
          refine vr_cVip [23, 24, 25, 26, 27] [.int a1, .int a2] [] C nd_Nj_mark_44 rfl ml_Nj_144 my_Club_markOf (co_Club_markOf (nj_club s) a1 a2 w5 hV6) (em_Nj_Club s) ⟨_, _, _, rfl, rfl, rfl⟩ rfl rfl ⟨rfl, rfl, rfl, rfl⟩ (Nat.zero_le _) (Nat.zero_le _) rfl ?_
          have h := no_s h
          subst h
          exact vr_iret C hq nd_Nj_mark_47 rfl
        · have h := no_bf hc h
          refine vr_al C nd_Nj_mark_32 rfl ?_
          refine vr_ic C nd_Nj_mark_33 ?_
          obtain ⟨w7, hV8, h⟩ := no_b h
          refine vr_sVi (hp' := (rp_Nj (w7.2))) [.int (3 : Int32)] [] C nd_Nj_mark_34 rfl ml_Nj_73 my_Nj_found (co_Nj_found s (3 : Int32) w7 hV8) ⟨_, _, _, rfl, rfl, rfl⟩ rfl rfl ⟨rfl, rfl, rfl, rfl⟩ (Nat.zero_le _) (Nat.zero_le _) rfl ?_
          have h := no_s h
          subst h
          exact vr_iret C hq nd_Nj_mark_37 rfl
      · have h := no_f hc h
        refine vr_ic C nd_Nj_mark_18 ?_
        have h := no_s h
        subst h
        exact vr_iret C hq nd_Nj_mark_19 rfl
abbrev nr_Nj_rule : Room := { frames := 0, cells := 0, slots := 0, locals := 0 }
theorem co_Nj_rule (s : NjS) (a1 : Int32) (x : Int32 × NjS) (h : mo_Nj_rule s a1 = some x) : nj_Con ny_Nj_rule nb_Nj_rule 3 (some .int) nr_Nj_rule (rp_Nj s) [.ref 0, .int a1] (some (.int (x.1))) (rp_Nj (x.2)) := by
  rw [mo_Nj_rule] at h
  refine nj_con (by decide) rfl 1 rfl (fun G ad C hq => ?_)
  have C : nj_C G nb_Nj_rule 3 "NobodyJoins" nr_Nj_rule := C
  show nj_V G ad 0 0 0 [some (.ref 0), some (.int a1), none] [] (rp_Nj s)
  refine vr_il C nd_Nj_rule_0 rfl ?_
  refine vr_if_lt C nd_Nj_rule_1 (fun hc => ?_) (fun hc => ?_)
  · have h := no_t hc h
    refine vr_ic C nd_Nj_rule_9 ?_
    have h := no_s h
    subst h
    exact vr_iret C hq nd_Nj_rule_10 rfl
  · have h := no_f hc h
    refine vr_il C nd_Nj_rule_4 rfl ?_
    refine vr_ic C nd_Nj_rule_5 ?_
    refine vr_cm_lt C nd_Nj_rule_6 (fun hc => ?_) (fun hc => ?_)
    · have h := no_t hc h
      refine vr_al C nd_Nj_rule_11 rfl ?_
      refine vr_get (v := .ref 23) C nd_Nj_rule_12 rfl fl_Nj_24 (at_Nj_0 s) rfl ?_
      refine vr_get (v := .int (cl_children (nj_club s))) C nd_Nj_rule_15 rfl fl_Nj_132 (at_Nj_23 s) rfl ?_
      refine vr_if_eq C nd_Nj_rule_18 (fun hc => ?_) (fun hc => ?_)
      · have h := no_t hc h
        refine vr_ic C nd_Nj_rule_31 ?_
        have h := no_s h
        subst h
        exact vr_iret C hq nd_Nj_rule_33 rfl
      · have h := no_f hc h
        refine vr_al C nd_Nj_rule_21 rfl ?_
        refine vr_get (v := .ref 23) C nd_Nj_rule_22 rfl fl_Nj_24 (at_Nj_0 s) rfl ?_
        refine vr_get (v := .int (cl_dc (nj_club s))) C nd_Nj_rule_25 rfl fl_Nj_147 (at_Nj_23 s) rfl ?_
        refine vr_if_le C nd_Nj_rule_28 (fun hc => ?_) (fun hc => ?_)
        · have h := no_t hc h
          refine vr_al C nd_Nj_rule_34 rfl ?_
          refine vr_get (v := .ref 23) C nd_Nj_rule_35 rfl fl_Nj_24 (at_Nj_0 s) rfl ?_
          refine vr_get (v := .int (cl_rule (nj_club s))) C nd_Nj_rule_38 rfl fl_Nj_150 (at_Nj_23 s) rfl ?_
          refine vr_is (ls' := [some (.ref 0), some (.int a1), some (.int (cl_rule (nj_club s)))]) C nd_Nj_rule_41 rfl rfl ?_
          refine vr_al C nd_Nj_rule_42 rfl ?_
          refine vr_get (v := .ref 23) C nd_Nj_rule_43 rfl fl_Nj_24 (at_Nj_0 s) rfl ?_
          refine vr_il C nd_Nj_rule_46 rfl ?_
          refine vr_puti (hp' := (rp_Nj (ns_club s (cs_rule (nj_club s) a1)))) C nd_Nj_rule_47 rfl fl_Nj_150 (at_Nj_23 s) rfl (st_Nj_23_5 s a1) ?_
          refine vr_il C nd_Nj_rule_50 rfl ?_
          have h := no_s h
          subst h
          exact vr_iret C hq nd_Nj_rule_51 rfl
        · have h := no_f hc h
          refine vr_ic C nd_Nj_rule_31 ?_
          have h := no_s h
          subst h
          exact vr_iret C hq nd_Nj_rule_33 rfl
    · have h := no_f hc h
      refine vr_ic C nd_Nj_rule_9 ?_
      have h := no_s h
      subst h
      exact vr_iret C hq nd_Nj_rule_10 rfl
abbrev nr_Nj_oust : Room := { frames := 5, cells := 0, slots := 0, locals := 118 }
theorem co_Nj_oust (s : NjS) (a1 : Int32) (x : Int32 × NjS) (h : mo_Nj_oust s a1 = some x) : nj_Con ny_Nj_oust nb_Nj_oust 2 (some .int) nr_Nj_oust (rp_Nj s) [.ref 0, .int a1] (some (.int (x.1))) (rp_Nj (x.2)) := by
  rw [mo_Nj_oust] at h
  refine nj_con (by decide) rfl 0 rfl (fun G ad C hq => ?_)
  have C : nj_C G nb_Nj_oust 2 "NobodyJoins" nr_Nj_oust := C
  show nj_V G ad 0 0 0 [some (.ref 0), some (.int a1)] [] (rp_Nj s)
  refine vr_al C nd_Nj_oust_0 rfl ?_
  refine vr_il C nd_Nj_oust_1 rfl ?_
  obtain ⟨w1, hV2, h⟩ := no_b h
  refine vr_sVi (hp' := (rp_Nj s)) [.int a1] [] C nd_Nj_oust_2 rfl ml_Nj_135 my_Nj_isChild (co_Nj_isChild s a1 w1 hV2) ⟨_, _, _, rfl, rfl, rfl⟩ rfl rfl ⟨rfl, rfl, rfl, rfl⟩ (Nat.zero_le _) (Nat.zero_le _) rfl ?_
  refine vr_ifb_ne C nd_Nj_oust_5 (fun hc => ?_) (fun hc => ?_)
  · have h := no_bt hc h
    refine vr_al C nd_Nj_oust_10 rfl ?_
    refine vr_get (v := .ref 23) C nd_Nj_oust_11 rfl fl_Nj_24 (at_Nj_0 s) rfl ?_
    refine vr_al C nd_Nj_oust_14 rfl ?_
    refine vr_get (v := .ref 23) C nd_Nj_oust_15 rfl fl_Nj_24 (at_Nj_0 s) rfl ?_
    refine vr_get (v := .int (cl_inn (nj_club s))) C nd_Nj_oust_18 rfl fl_Nj_153 (at_Nj_23 s) rfl ?_
    obtain ⟨w3, hV4, h⟩ := no_b h
    refine vr_cVip [23, 24, 25, 26, 27] [.int (cl_inn (nj_club s))] [] C nd_Nj_oust_21 rfl ml_Nj_156 my_Club_putOutOf (co_Club_putOutOf (nj_club s) (cl_inn (nj_club s)) w3 hV4) (em_Nj_Club s) ⟨_, _, _, rfl, rfl, rfl⟩ rfl rfl ⟨rfl, rfl, rfl, rfl⟩ (Nat.zero_le _) (Nat.zero_le _) rfl ?_
    refine vr_ic C nd_Nj_oust_24 ?_
    refine vr_il C nd_Nj_oust_25 rfl ?_
    refine vr_ishl C nd_Nj_oust_26 rfl ?_
    refine vr_iand C nd_Nj_oust_27 rfl ?_
    refine vr_if_ne C nd_Nj_oust_28 (fun hc => ?_) (fun hc => ?_)
    · have h := no_f hc h
      refine vr_al C nd_Nj_oust_34 rfl ?_
      refine vr_get (v := .ref 23) C nd_Nj_oust_35 rfl fl_Nj_24 (at_Nj_0 s) rfl ?_
      refine vr_get (v := .int (cl_dc (nj_club s))) C nd_Nj_oust_38 rfl fl_Nj_147 (at_Nj_23 s) rfl ?_
      refine vr_ic C nd_Nj_oust_41 ?_
      refine vr_cm_lt C nd_Nj_oust_43 (fun hc => ?_) (fun hc => ?_)
      · have h := no_t hc h
        refine vr_al C nd_Nj_oust_49 rfl ?_
        refine vr_get (v := .ref 23) C nd_Nj_oust_50 rfl fl_Nj_24 (at_Nj_0 s) rfl ?_
        refine vr_il C nd_Nj_oust_53 rfl ?_
        obtain ⟨w5, hV6, h⟩ := no_b h
        refine vr_cVv (hp' := (rp_Nj (ns_club s w5))) [23, 24, 25, 26, 27] [.int a1] [] C nd_Nj_oust_54 rfl ml_Nj_159 my_Club_putOut (co_Club_putOut (nj_club s) a1 w5 hV6) (em_Nj_Club s) ⟨_, _, _, rfl, rfl, rfl⟩ rfl rfl ⟨rfl, rfl, rfl, rfl⟩ (Nat.zero_le _) (Nat.zero_le _) rfl (pa_Nj_Club s w5) ?_
        refine vr_al C nd_Nj_oust_57 rfl ?_
        refine vr_get (v := .ref 23) C nd_Nj_oust_58 rfl fl_Nj_24 (at_Nj_0 (ns_club s w5)) rfl ?_
        refine vr_get (v := .int (cl_inn w5)) C nd_Nj_oust_61 rfl fl_Nj_153 (at_Nj_23 (ns_club s w5)) rfl ?_
        obtain ⟨w7, hV8, h⟩ := no_b h
        refine vr_cSip [] [.int (cl_inn w5)] [] C nd_Nj_oust_64 rfl ml_Nj_162 my_Integer_bitCount (co_Integer_bitCount (cl_inn w5) w7 hV8) (em_E _) rfl rfl ⟨rfl, rfl, rfl, rfl⟩ (Nat.zero_le _) (Nat.zero_le _) rfl ?_
        have h := no_s h
        subst h
        exact vr_iret C hq nd_Nj_oust_67 rfl
      · have h := no_f hc h
        refine vr_ic C nd_Nj_oust_46 ?_
        have h := no_s h
        subst h
        exact vr_iret C hq nd_Nj_oust_48 rfl
    · have h := no_t hc h
      refine vr_ic C nd_Nj_oust_31 ?_
      have h := no_s h
      subst h
      exact vr_iret C hq nd_Nj_oust_33 rfl
  · have h := no_bf hc h
    refine vr_ic C nd_Nj_oust_8 ?_
    have h := no_s h
    subst h
    exact vr_iret C hq nd_Nj_oust_9 rfl
abbrev nr_Nj_join : Room := { frames := 2, cells := 0, slots := 0, locals := 43 }
theorem co_Nj_join (s : NjS) (a1 : Int32) (x : Int32 × NjS) (h : mo_Nj_join s a1 = some x) : nj_Con ny_Nj_join nb_Nj_join 2 (some .int) nr_Nj_join (rp_Nj s) [.ref 0, .int a1] (some (.int (x.1))) (rp_Nj (x.2)) := by
  rw [mo_Nj_join] at h
  refine nj_con (by decide) rfl 0 rfl (fun G ad C hq => ?_)
  have C : nj_C G nb_Nj_join 2 "NobodyJoins" nr_Nj_join := C
  show nj_V G ad 0 0 0 [some (.ref 0), some (.int a1)] [] (rp_Nj s)
  refine vr_al C nd_Nj_join_0 rfl ?_
  refine vr_il C nd_Nj_join_1 rfl ?_
  obtain ⟨w1, hV2, h⟩ := no_b h
  refine vr_sVi (hp' := (rp_Nj s)) [.int a1] [] C nd_Nj_join_2 rfl ml_Nj_135 my_Nj_isChild (co_Nj_isChild s a1 w1 hV2) ⟨_, _, _, rfl, rfl, rfl⟩ rfl rfl ⟨rfl, rfl, rfl, rfl⟩ (Nat.zero_le _) (Nat.zero_le _) rfl ?_
  refine vr_ifb_ne C nd_Nj_join_5 (fun hc => ?_) (fun hc => ?_)
  · have h := no_bt hc h
    refine vr_al C nd_Nj_join_10 rfl ?_
    refine vr_get (v := .ref 23) C nd_Nj_join_11 rfl fl_Nj_24 (at_Nj_0 s) rfl ?_
    refine vr_il C nd_Nj_join_14 rfl ?_
    obtain ⟨w3, hV4, h⟩ := no_b h
    refine vr_cVip [23, 24, 25, 26, 27] [.int a1] [] C nd_Nj_join_15 rfl ml_Nj_167 my_Club_mayJoin (co_Club_mayJoin (nj_club s) a1 w3 hV4) (em_Nj_Club s) ⟨_, _, _, rfl, rfl, rfl⟩ rfl rfl ⟨rfl, rfl, rfl, rfl⟩ (Nat.zero_le _) (Nat.zero_le _) rfl ?_
    refine vr_ifb_ne C nd_Nj_join_18 (fun hc => ?_) (fun hc => ?_)
    · have h := no_bt hc h
      refine vr_al C nd_Nj_join_24 rfl ?_
      refine vr_get (v := .ref 23) C nd_Nj_join_25 rfl fl_Nj_24 (at_Nj_0 s) rfl ?_
      refine vr_get (v := .int (cl_dc (nj_club s))) C nd_Nj_join_28 rfl fl_Nj_147 (at_Nj_23 s) rfl ?_
      refine vr_ic C nd_Nj_join_31 ?_
      refine vr_cm_lt C nd_Nj_join_33 (fun hc => ?_) (fun hc => ?_)
      · have h := no_t hc h
        refine vr_al C nd_Nj_join_39 rfl ?_
        refine vr_get (v := .ref 23) C nd_Nj_join_40 rfl fl_Nj_24 (at_Nj_0 s) rfl ?_
        refine vr_il C nd_Nj_join_43 rfl ?_
        obtain ⟨w5, hV6, h⟩ := no_b h
        refine vr_cVv (hp' := (rp_Nj (ns_club s w5))) [23, 24, 25, 26, 27] [.int a1] [] C nd_Nj_join_44 rfl ml_Nj_170 my_Club_letIn (co_Club_letIn (nj_club s) a1 w5 hV6) (em_Nj_Club s) ⟨_, _, _, rfl, rfl, rfl⟩ rfl rfl ⟨rfl, rfl, rfl, rfl⟩ (Nat.zero_le _) (Nat.zero_le _) rfl (pa_Nj_Club s w5) ?_
        refine vr_al C nd_Nj_join_47 rfl ?_
        refine vr_get (v := .ref 23) C nd_Nj_join_48 rfl fl_Nj_24 (at_Nj_0 (ns_club s w5)) rfl ?_
        refine vr_get (v := .int (cl_inn w5)) C nd_Nj_join_51 rfl fl_Nj_153 (at_Nj_23 (ns_club s w5)) rfl ?_
        obtain ⟨w7, hV8, h⟩ := no_b h
        refine vr_cSip [] [.int (cl_inn w5)] [] C nd_Nj_join_54 rfl ml_Nj_162 my_Integer_bitCount (co_Integer_bitCount (cl_inn w5) w7 hV8) (em_E _) rfl rfl ⟨rfl, rfl, rfl, rfl⟩ (Nat.zero_le _) (Nat.zero_le _) rfl ?_
        have h := no_s h
        subst h
        exact vr_iret C hq nd_Nj_join_57 rfl
      · have h := no_f hc h
        refine vr_ic C nd_Nj_join_36 ?_
        have h := no_s h
        subst h
        exact vr_iret C hq nd_Nj_join_38 rfl
    · have h := no_bf hc h
      refine vr_ic C nd_Nj_join_21 ?_
      have h := no_s h
      subst h
      exact vr_iret C hq nd_Nj_join_23 rfl
  · have h := no_bf hc h
    refine vr_ic C nd_Nj_join_8 ?_
    have h := no_s h
    subst h
    exact vr_iret C hq nd_Nj_join_9 rfl
abbrev nr_Nj_fee : Room := { frames := 2, cells := 0, slots := 0, locals := 44 }
theorem co_Nj_fee (s : NjS) (x : Int32 × NjS) (h : mo_Nj_fee s = some x) : nj_Con ny_Nj_fee nb_Nj_fee 1 (some .int) nr_Nj_fee (rp_Nj s) [.ref 0] (some (.int (x.1))) (rp_Nj (x.2)) := by
  rw [mo_Nj_fee] at h
  refine nj_con (by decide) rfl 0 rfl (fun G ad C hq => ?_)
  have C : nj_C G nb_Nj_fee 1 "NobodyJoins" nr_Nj_fee := C
  show nj_V G ad 0 0 0 [some (.ref 0)] [] (rp_Nj s)
  refine vr_al C nd_Nj_fee_0 rfl ?_
  refine vr_get (v := .ref 23) C nd_Nj_fee_1 rfl fl_Nj_24 (at_Nj_0 s) rfl ?_
  refine vr_get (v := .int (cl_children (nj_club s))) C nd_Nj_fee_4 rfl fl_Nj_132 (at_Nj_23 s) rfl ?_
  refine vr_if_ne C nd_Nj_fee_7 (fun hc => ?_) (fun hc => ?_)
  · have h := no_f hc h
    refine vr_al C nd_Nj_fee_13 rfl ?_
    refine vr_get (v := .ref 23) C nd_Nj_fee_14 rfl fl_Nj_24 (at_Nj_0 s) rfl ?_
    refine vr_get (v := .int (cl_dc (nj_club s))) C nd_Nj_fee_17 rfl fl_Nj_147 (at_Nj_23 s) rfl ?_
    refine vr_ic C nd_Nj_fee_20 ?_
    refine vr_cm_lt C nd_Nj_fee_22 (fun hc => ?_) (fun hc => ?_)
    · have h := no_t hc h
      refine vr_al C nd_Nj_fee_28 rfl ?_
      refine vr_get (v := .ref 23) C nd_Nj_fee_29 rfl fl_Nj_24 (at_Nj_0 s) rfl ?_
      obtain ⟨w1, hV2, h⟩ := no_b h
      refine vr_cVv (hp' := (rp_Nj (ns_club s w1))) [23, 24, 25, 26, 27] [] [] C nd_Nj_fee_32 rfl ml_Nj_173 my_Club_payFee (co_Club_payFee (nj_club s) w1 hV2) (em_Nj_Club s) ⟨_, _, _, rfl, rfl, rfl⟩ rfl rfl ⟨rfl, rfl, rfl, rfl⟩ (Nat.zero_le _) (Nat.zero_le _) rfl (pa_Nj_Club s w1) ?_
      refine vr_al C nd_Nj_fee_35 rfl ?_
      refine vr_get (v := .ref 23) C nd_Nj_fee_36 rfl fl_Nj_24 (at_Nj_0 (ns_club s w1)) rfl ?_
      refine vr_get (v := .int (cl_tin w1)) C nd_Nj_fee_39 rfl fl_Nj_176 (at_Nj_23 (ns_club s w1)) rfl ?_
      have h := no_s h
      subst h
      exact vr_iret C hq nd_Nj_fee_42 rfl
    · have h := no_f hc h
      refine vr_ic C nd_Nj_fee_25 ?_
      have h := no_s h
      subst h
      exact vr_iret C hq nd_Nj_fee_27 rfl
  · have h := no_t hc h
    refine vr_ic C nd_Nj_fee_10 ?_
    have h := no_s h
    subst h
    exact vr_iret C hq nd_Nj_fee_12 rfl
abbrev nr_Nj_grudge : Room := { frames := 2, cells := 0, slots := 0, locals := 44 }
theorem co_Nj_grudge (s : NjS) (a1 : Int32) (a2 : Int32) (x : Int32 × NjS) (h : mo_Nj_grudge s a1 a2 = some x) : nj_Con ny_Nj_grudge nb_Nj_grudge 3 (some .int) nr_Nj_grudge (rp_Nj s) [.ref 0, .int a1, .int a2] (some (.int (x.1))) (rp_Nj (x.2)) := by
  rw [mo_Nj_grudge] at h
  refine nj_con (by decide) rfl 0 rfl (fun G ad C hq => ?_)
  have C : nj_C G nb_Nj_grudge 3 "NobodyJoins" nr_Nj_grudge := C
  show nj_V G ad 0 0 0 [some (.ref 0), some (.int a1), some (.int a2)] [] (rp_Nj s)
  refine vr_al C nd_Nj_grudge_0 rfl ?_
  refine vr_il C nd_Nj_grudge_1 rfl ?_
  obtain ⟨w1, hV2, h⟩ := no_b h
  refine vr_sVi (hp' := (rp_Nj s)) [.int a1] [] C nd_Nj_grudge_2 rfl ml_Nj_135 my_Nj_isChild (co_Nj_isChild s a1 w1 hV2) ⟨_, _, _, rfl, rfl, rfl⟩ rfl rfl ⟨rfl, rfl, rfl, rfl⟩ (Nat.zero_le _) (Nat.zero_le _) rfl ?_
  refine vr_ifb_eq C nd_Nj_grudge_5 (fun hc => ?_) (fun hc => ?_)
  · have h := no_bf hc h
    refine vr_ic C nd_Nj_grudge_21 ?_
    have h := no_s h
    subst h
    exact vr_iret C hq nd_Nj_grudge_22 rfl
  · have h := no_bt hc h
    refine vr_al C nd_Nj_grudge_8 rfl ?_
    refine vr_il C nd_Nj_grudge_9 rfl ?_
    obtain ⟨w3, hV4, h⟩ := no_b h
    refine vr_sVi (hp' := (rp_Nj s)) [.int a2] [] C nd_Nj_grudge_10 rfl ml_Nj_135 my_Nj_isChild (co_Nj_isChild s a2 w3 hV4) ⟨_, _, _, rfl, rfl, rfl⟩ rfl rfl ⟨rfl, rfl, rfl, rfl⟩ (Nat.zero_le _) (Nat.zero_le _) rfl ?_
    refine vr_ifb_eq C nd_Nj_grudge_13 (fun hc => ?_) (fun hc => ?_)
    · have h := no_bf hc h
      refine vr_ic C nd_Nj_grudge_21 ?_
      have h := no_s h
      subst h
      exact vr_iret C hq nd_Nj_grudge_22 rfl
    · have h := no_bt hc h
      refine vr_il C nd_Nj_grudge_16 rfl ?_
      refine vr_il C nd_Nj_grudge_17 rfl ?_
      refine vr_cm_ne C nd_Nj_grudge_18 (fun hc => ?_) (fun hc => ?_)
      · have h := no_f hc h
        refine vr_al C nd_Nj_grudge_23 rfl ?_
        refine vr_get (v := .ref 23) C nd_Nj_grudge_24 rfl fl_Nj_24 (at_Nj_0 s) rfl ?_
        refine vr_get (v := .int (cl_dc (nj_club s))) C nd_Nj_grudge_27 rfl fl_Nj_147 (at_Nj_23 s) rfl ?_
        refine vr_ic C nd_Nj_grudge_30 ?_
        refine vr_cm_lt C nd_Nj_grudge_32 (fun hc => ?_) (fun hc => ?_)
        · have h := no_t hc h
          refine vr_al C nd_Nj_grudge_38 rfl ?_
          refine vr_get (v := .ref 23) C nd_Nj_grudge_39 rfl fl_Nj_24 (at_Nj_0 s) rfl ?_
          refine vr_il C nd_Nj_grudge_42 rfl ?_
          refine vr_il C nd_Nj_grudge_43 rfl ?_
          obtain ⟨w5, hV6, h⟩ := no_b h
          refine vr_cVv (hp' := (rp_Nj (ns_club s w5))) [23, 24, 25, 26, 27] [.int a1, .int a2] [] C nd_Nj_grudge_44 rfl ml_Nj_179 my_Club_bearGrudge (co_Club_bearGrudge (nj_club s) a1 a2 w5 hV6) (em_Nj_Club s) ⟨_, _, _, rfl, rfl, rfl⟩ rfl rfl ⟨rfl, rfl, rfl, rfl⟩ (Nat.zero_le _) (Nat.zero_le _) rfl (pa_Nj_Club s w5) ?_
          refine vr_al C nd_Nj_grudge_47 rfl ?_
          refine vr_get (v := .ref 23) C nd_Nj_grudge_48 rfl fl_Nj_24 (at_Nj_0 (ns_club s w5)) rfl ?_
          refine vr_get (v := .ref 26) C nd_Nj_grudge_51 rfl fl_Nj_183 (at_Nj_23 (ns_club s w5)) rfl ?_
          refine vr_il C nd_Nj_grudge_54 rfl ?_
          obtain ⟨hN7, h⟩ := no_i h
          refine vr_ialk (j := (nj_n a2)) (f := (cl_liked w5)) C nd_Nj_grudge_55 rfl (at_Nj_26 (ns_club s w5)) hN7 rfl ?_
          refine vr_il C nd_Nj_grudge_56 rfl ?_
          refine vr_ishr C nd_Nj_grudge_57 rfl ?_
          refine vr_ic C nd_Nj_grudge_58 ?_
          refine vr_iand C nd_Nj_grudge_59 rfl ?_
          have h := no_s h
          subst h
          exact vr_iret C hq nd_Nj_grudge_60 rfl
        · have h := no_f hc h
          refine vr_ic C nd_Nj_grudge_35 ?_
          have h := no_s h
          subst h
          exact vr_iret C hq nd_Nj_grudge_37 rfl
      · have h := no_t hc h
        refine vr_ic C nd_Nj_grudge_21 ?_
        have h := no_s h
        subst h
        exact vr_iret C hq nd_Nj_grudge_22 rfl
abbrev nr_Nj_undo : Room := { frames := 2, cells := 0, slots := 0, locals := 43 }
theorem lw_Nj_undo_29 {G : nj_G} {ad : Nat → Nat} (C : nj_C G nb_Nj_undo 4 "NobodyJoins" nr_Nj_undo) (f2 : Int32) : ∀ (n : Nat) (s : NjS) (v3 : Int32) (x : NjS), lo_Nj_undo_29 f2 n s v3 = some x → nj_V G ad 0 0 47 [none, none, some (.int f2), none] [] (rp_Nj x) → nj_V G ad 0 0 29 [some (.ref 0), none, some (.int f2), some (.int v3)] [] (rp_Nj s) := by
  intro n
  induction n with
  | zero => intro s v3 x h; rw [lo_Nj_undo_29] at h; cases h
  | succ n ih =>
    intro s v3 x h hk
    rw [lo_Nj_undo_29] at h
    refine vr_il C nd_Nj_undo_29 rfl ?_
    refine vr_il C nd_Nj_undo_30 rfl ?_
    refine vr_cm_ge C nd_Nj_undo_31 (fun hc => ?_) (fun hc => ?_)
    · have h := no_t hc h
      have h := no_s h
      subst h
      exact vr_wk [0, 3] rfl hk
    · have h := no_f hc h
      refine vr_al C nd_Nj_undo_34 rfl ?_
      refine vr_get (v := .ref 23) C nd_Nj_undo_35 rfl fl_Nj_24 (at_Nj_0 s) rfl ?_
      obtain ⟨w1, hV2, h⟩ := no_b h
      refine vr_cVv (hp' := (rp_Nj (ns_club s w1))) [23, 24, 25, 26, 27] [] [] C nd_Nj_undo_38 rfl ml_Nj_186 my_Club_undoLast (co_Club_undoLast (nj_club s) w1 hV2) (em_Nj_Club s) ⟨_, _, _, rfl, rfl, rfl⟩ rfl rfl ⟨rfl, rfl, rfl, rfl⟩ (Nat.zero_le _) (Nat.zero_le _) rfl (pa_Nj_Club s w1) ?_
      refine vr_inc (v := (v3 + (1 : Int32))) (ls' := [some (.ref 0), none, some (.int f2), some (.int (v3 + (1 : Int32)))]) C nd_Nj_undo_41 rfl rfl rfl rfl rfl ?_
      refine vr_go C nd_Nj_undo_44 ?_
      exact (ih _ _ _ h hk)
theorem co_Nj_undo (s : NjS) (a1 : Int32) (x : Int32 × NjS) (h : mo_Nj_undo s a1 = some x) : nj_Con ny_Nj_undo nb_Nj_undo 4 (some .int) nr_Nj_undo (rp_Nj s) [.ref 0, .int a1] (some (.int (x.1))) (rp_Nj (x.2)) := by
  rw [mo_Nj_undo] at h
  refine nj_con (by decide) rfl 2 rfl (fun G ad C hq => ?_)
  have C : nj_C G nb_Nj_undo 4 "NobodyJoins" nr_Nj_undo := C
  show nj_V G ad 0 0 0 [some (.ref 0), some (.int a1), none, none] [] (rp_Nj s)
  refine vr_il C nd_Nj_undo_0 rfl ?_
  refine vr_if_lt C nd_Nj_undo_1 (fun hc => ?_) (fun hc => ?_)
  · have h := no_t hc h
    refine vr_ic C nd_Nj_undo_15 ?_
    have h := no_s h
    subst h
    exact vr_iret C hq nd_Nj_undo_16 rfl
  · have h := no_f hc h
    refine vr_il C nd_Nj_undo_4 rfl ?_
    refine vr_al C nd_Nj_undo_5 rfl ?_
    refine vr_get (v := .ref 23) C nd_Nj_undo_6 rfl fl_Nj_24 (at_Nj_0 s) rfl ?_
    refine vr_get (v := .int (cl_dc (nj_club s))) C nd_Nj_undo_9 rfl fl_Nj_147 (at_Nj_23 s) rfl ?_
    refine vr_cm_le C nd_Nj_undo_12 (fun hc => ?_) (fun hc => ?_)
    · have h := no_t hc h
      refine vr_al C nd_Nj_undo_17 rfl ?_
      refine vr_get (v := .ref 23) C nd_Nj_undo_18 rfl fl_Nj_24 (at_Nj_0 s) rfl ?_
      refine vr_get (v := .int (cl_dc (nj_club s))) C nd_Nj_undo_21 rfl fl_Nj_147 (at_Nj_23 s) rfl ?_
      refine vr_il C nd_Nj_undo_24 rfl ?_
      refine vr_isub C nd_Nj_undo_25 rfl ?_
      refine vr_is (ls' := [some (.ref 0), some (.int a1), some (.int ((cl_dc (nj_club s)) - a1)), none]) C nd_Nj_undo_26 rfl rfl ?_
      refine vr_ic C nd_Nj_undo_27 ?_
      refine vr_is (ls' := [some (.ref 0), some (.int a1), some (.int ((cl_dc (nj_club s)) - a1)), some (.int (0 : Int32))]) C nd_Nj_undo_28 rfl rfl ?_
      refine vr_wk (ls' := [some (.ref 0), none, some (.int ((cl_dc (nj_club s)) - a1)), some (.int (0 : Int32))]) [1] rfl ?_
      obtain ⟨x3, hX4, h⟩ := no_b h
      refine lw_Nj_undo_29 C ((cl_dc (nj_club s)) - a1) nj_fu _ _ x3 hX4 ?_
      refine vr_il C nd_Nj_undo_47 rfl ?_
      have h := no_s h
      subst h
      exact vr_iret C hq nd_Nj_undo_48 rfl
    · have h := no_f hc h
      refine vr_ic C nd_Nj_undo_15 ?_
      have h := no_s h
      subst h
      exact vr_iret C hq nd_Nj_undo_16 rfl
abbrev nr_Nj_isKeptPlace : Room := { frames := 0, cells := 0, slots := 0, locals := 0 }
theorem co_Nj_isKeptPlace  (a0 : Int32) (x : Bool) (h : mo_Nj_isKeptPlace a0 = some x) : nj_Con ny_Nj_isKeptPlace nb_Nj_isKeptPlace 1 (some .boolean) nr_Nj_isKeptPlace [] [.int a0] (some (.int (nj_b x))) [] := by
  rw [mo_Nj_isKeptPlace] at h
  refine nj_con (by decide) rfl 0 rfl (fun G ad C hq => ?_)
  have C : nj_C G nb_Nj_isKeptPlace 1 "NobodyJoins" nr_Nj_isKeptPlace := C
  show nj_V G ad 0 0 0 [some (.int a0)] [] []
  refine vr_il C nd_Nj_isKeptPlace_0 rfl ?_
  refine vr_if_lt C nd_Nj_isKeptPlace_1 (fun hc => ?_) (fun hc => ?_)
  · have h := no_t hc h
    refine vr_ic C nd_Nj_isKeptPlace_13 ?_
    have h := no_s h
    subst h
    exact vr_zret false C hq nd_Nj_isKeptPlace_14 rfl
  · have h := no_f hc h
    refine vr_il C nd_Nj_isKeptPlace_4 rfl ?_
    refine vr_ic C nd_Nj_isKeptPlace_5 ?_
    refine vr_cm_ge C nd_Nj_isKeptPlace_6 (fun hc => ?_) (fun hc => ?_)
    · have h := no_t hc h
      refine vr_ic C nd_Nj_isKeptPlace_13 ?_
      have h := no_s h
      subst h
      exact vr_zret false C hq nd_Nj_isKeptPlace_14 rfl
    · have h := no_f hc h
      refine vr_ic C nd_Nj_isKeptPlace_9 ?_
      refine vr_go C nd_Nj_isKeptPlace_10 ?_
      have h := no_s h
      subst h
      exact vr_zret true C hq nd_Nj_isKeptPlace_14 rfl
abbrev nr_Nj_keep : Room := { frames := 2, cells := 0, slots := 0, locals := 61 }
theorem co_Nj_keep (s : NjS) (a1 : Int32) (x : Int32 × NjS) (h : mo_Nj_keep s a1 = some x) : nj_Con ny_Nj_keep nb_Nj_keep 2 (some .int) nr_Nj_keep (rp_Nj s) [.ref 0, .int a1] (some (.int (x.1))) (rp_Nj (x.2)) := by
  rw [mo_Nj_keep] at h
  refine nj_con (by decide) rfl 0 rfl (fun G ad C hq => ?_)
  have C : nj_C G nb_Nj_keep 2 "NobodyJoins" nr_Nj_keep := C
  show nj_V G ad 0 0 0 [some (.ref 0), some (.int a1)] [] (rp_Nj s)
  refine vr_il C nd_Nj_keep_0 rfl ?_
  obtain ⟨w1, hV2, h⟩ := no_b h
  refine vr_cSip [] [.int a1] [] C nd_Nj_keep_1 rfl ml_Nj_189 my_Nj_isKeptPlace (co_Nj_isKeptPlace a1 w1 hV2) (em_E _) rfl rfl ⟨rfl, rfl, rfl, rfl⟩ (Nat.zero_le _) (Nat.zero_le _) rfl ?_
  refine vr_ifb_ne C nd_Nj_keep_4 (fun hc => ?_) (fun hc => ?_)
  · have h := no_bt hc h
    refine vr_al C nd_Nj_keep_9 rfl ?_
    refine vr_get (v := .ref 23) C nd_Nj_keep_10 rfl fl_Nj_24 (at_Nj_0 s) rfl ?_
    refine vr_get (v := .int (cl_children (nj_club s))) C nd_Nj_keep_13 rfl fl_Nj_132 (at_Nj_23 s) rfl ?_
    refine vr_if_ne C nd_Nj_keep_16 (fun hc => ?_) (fun hc => ?_)
    · have h := no_f hc h
      refine vr_al C nd_Nj_keep_22 rfl ?_
      refine vr_get (v := .ref 33) C nd_Nj_keep_23 rfl fl_Nj_31 (at_Nj_0 s) rfl ?_
      refine vr_il C nd_Nj_keep_26 rfl ?_
      obtain ⟨hN3, h⟩ := no_i h
      refine vr_aald5 (y := (34 + 5 * (nj_n a1))) C nd_Nj_keep_27 rfl (at_Nj_33 s) hN3 rfl ?_
      refine vr_al C nd_Nj_keep_28 rfl ?_
      refine vr_get (v := .ref 23) C nd_Nj_keep_29 rfl fl_Nj_24 (at_Nj_0 s) rfl ?_
      obtain ⟨w4, hV5, h⟩ := no_b h
      refine vr_cVv (hp' := (rp_Nj (ns_kept s (va_up (nj_kept s) (nj_n a1) w4)))) [(34 + 5 * (nj_n a1)), (35 + 5 * (nj_n a1)), (36 + 5 * (nj_n a1)), (37 + 5 * (nj_n a1)), (38 + 5 * (nj_n a1)), 23, 24, 25, 26, 27] [.ref 5] [] C nd_Nj_keep_32 rfl ml_Nj_125 my_Club_become (co_Club_become ((nj_kept s) (nj_n a1)) (nj_club s) w4 hV5) (em_Nj_KeptClub s (nj_n a1) (nj_lt_of hN3)) ⟨_, _, _, rfl, rfl, rfl⟩ rfl rfl ⟨rfl, rfl, rfl, rfl⟩ (Nat.zero_le _) (Nat.zero_le _) rfl (pa_Nj_KeptClub s (nj_n a1) (nj_lt_of hN3) w4) ?_
      refine vr_al C nd_Nj_keep_35 rfl ?_
      refine vr_get (v := .ref 23) C nd_Nj_keep_36 rfl fl_Nj_24 (at_Nj_0 (ns_kept s (va_up (nj_kept s) (nj_n a1) w4))) rfl ?_
      refine vr_get (v := .int (cl_dc (nj_club s))) C nd_Nj_keep_39 rfl fl_Nj_147 (at_Nj_23 (ns_kept s (va_up (nj_kept s) (nj_n a1) w4))) rfl ?_
      have h := no_s h
      subst h
      exact vr_iret C hq nd_Nj_keep_42 rfl
    · have h := no_t hc h
      refine vr_ic C nd_Nj_keep_19 ?_
      have h := no_s h
      subst h
      exact vr_iret C hq nd_Nj_keep_21 rfl
  · have h := no_bf hc h
    refine vr_ic C nd_Nj_keep_7 ?_
    have h := no_s h
    subst h
    exact vr_iret C hq nd_Nj_keep_8 rfl
abbrev nr_Nj_on : Room := { frames := 2, cells := 0, slots := 0, locals := 61 }
theorem co_Nj_on (s : NjS) (a1 : Int32) (x : Int32 × NjS) (h : mo_Nj_on s a1 = some x) : nj_Con ny_Nj_on nb_Nj_on 2 (some .int) nr_Nj_on (rp_Nj s) [.ref 0, .int a1] (some (.int (x.1))) (rp_Nj (x.2)) := by
  rw [mo_Nj_on] at h
  refine nj_con (by decide) rfl 0 rfl (fun G ad C hq => ?_)
  have C : nj_C G nb_Nj_on 2 "NobodyJoins" nr_Nj_on := C
  show nj_V G ad 0 0 0 [some (.ref 0), some (.int a1)] [] (rp_Nj s)
  refine vr_il C nd_Nj_on_0 rfl ?_
  obtain ⟨w1, hV2, h⟩ := no_b h
  refine vr_cSip [] [.int a1] [] C nd_Nj_on_1 rfl ml_Nj_189 my_Nj_isKeptPlace (co_Nj_isKeptPlace a1 w1 hV2) (em_E _) rfl rfl ⟨rfl, rfl, rfl, rfl⟩ (Nat.zero_le _) (Nat.zero_le _) rfl ?_
  refine vr_ifb_ne C nd_Nj_on_4 (fun hc => ?_) (fun hc => ?_)
  · have h := no_bt hc h
    refine vr_al C nd_Nj_on_9 rfl ?_
    refine vr_get (v := .ref 33) C nd_Nj_on_10 rfl fl_Nj_31 (at_Nj_0 s) rfl ?_
    refine vr_il C nd_Nj_on_13 rfl ?_
    obtain ⟨hN3, h⟩ := no_i h
    refine vr_aald5 (y := (34 + 5 * (nj_n a1))) C nd_Nj_on_14 rfl (at_Nj_33 s) hN3 rfl ?_
    refine vr_get (v := .int (cl_children ((nj_kept s) (nj_n a1)))) C nd_Nj_on_15 rfl fl_Nj_132 (at_Nj_Kept_0 s (nj_n a1) (nj_lt_of hN3)) rfl ?_
    refine vr_if_ne C nd_Nj_on_18 (fun hc => ?_) (fun hc => ?_)
    · have h := no_f hc h
      refine vr_al C nd_Nj_on_27 rfl ?_
      refine vr_get (v := .ref 23) C nd_Nj_on_28 rfl fl_Nj_24 (at_Nj_0 s) rfl ?_
      refine vr_al C nd_Nj_on_31 rfl ?_
      refine vr_get (v := .ref 33) C nd_Nj_on_32 rfl fl_Nj_31 (at_Nj_0 s) rfl ?_
      refine vr_il C nd_Nj_on_35 rfl ?_
      obtain ⟨hN4, h⟩ := no_i h
      refine vr_aald5 (y := (34 + 5 * (nj_n a1))) C nd_Nj_on_36 rfl (at_Nj_33 s) hN4 rfl ?_
      obtain ⟨w5, hV6, h⟩ := no_b h
      refine vr_cVv (hp' := (rp_Nj (ns_club s w5))) [23, 24, 25, 26, 27, (34 + 5 * (nj_n a1)), (35 + 5 * (nj_n a1)), (36 + 5 * (nj_n a1)), (37 + 5 * (nj_n a1)), (38 + 5 * (nj_n a1))] [.ref 5] [] C nd_Nj_on_37 rfl ml_Nj_125 my_Club_become (co_Club_become (nj_club s) ((nj_kept s) (nj_n a1)) w5 hV6) (em_Nj_ClubKept s (nj_n a1) (nj_lt_of hN4)) ⟨_, _, _, rfl, rfl, rfl⟩ rfl rfl ⟨rfl, rfl, rfl, rfl⟩ (Nat.zero_le _) (Nat.zero_le _) rfl (pa_Nj_ClubKept s (nj_n a1) (nj_lt_of hN4) w5) ?_
      refine vr_al C nd_Nj_on_40 rfl ?_
      refine vr_get (v := .ref 23) C nd_Nj_on_41 rfl fl_Nj_24 (at_Nj_0 (ns_club s w5)) rfl ?_
      refine vr_get (v := .int (cl_dc w5)) C nd_Nj_on_44 rfl fl_Nj_147 (at_Nj_23 (ns_club s w5)) rfl ?_
      have h := no_s h
      subst h
      exact vr_iret C hq nd_Nj_on_47 rfl
    · have h := no_t hc h
      refine vr_al C nd_Nj_on_21 rfl ?_
      refine vr_ic C nd_Nj_on_22 ?_
      obtain ⟨w7, hV8, h⟩ := no_b h
      refine vr_sVi (hp' := (rp_Nj (w7.2))) [.int (1 : Int32)] [] C nd_Nj_on_23 rfl ml_Nj_73 my_Nj_found (co_Nj_found s (1 : Int32) w7 hV8) ⟨_, _, _, rfl, rfl, rfl⟩ rfl rfl ⟨rfl, rfl, rfl, rfl⟩ (Nat.zero_le _) (Nat.zero_le _) rfl ?_
      have h := no_s h
      subst h
      exact vr_iret C hq nd_Nj_on_26 rfl
  · have h := no_bf hc h
    refine vr_ic C nd_Nj_on_7 ?_
    have h := no_s h
    subst h
    exact vr_iret C hq nd_Nj_on_8 rfl
abbrev nr_Nj_refusalOfOneIn : Room := { frames := 1, cells := 0, slots := 0, locals := 21 }
theorem co_Nj_refusalOfOneIn (s : NjS) (a1 : Int32) (x : Int32) (h : mo_Nj_refusalOfOneIn s a1 = some x) : nj_Con ny_Nj_refusalOfOneIn nb_Nj_refusalOfOneIn 2 (some .int) nr_Nj_refusalOfOneIn (rp_Nj s) [.ref 0, .int a1] (some (.int x)) (rp_Nj s) := by
  rw [mo_Nj_refusalOfOneIn] at h
  refine nj_con (by decide) rfl 0 rfl (fun G ad C hq => ?_)
  have C : nj_C G nb_Nj_refusalOfOneIn 2 "NobodyJoins" nr_Nj_refusalOfOneIn := C
  show nj_V G ad 0 0 0 [some (.ref 0), some (.int a1)] [] (rp_Nj s)
  refine vr_al C nd_Nj_refusalOfOneIn_0 rfl ?_
  refine vr_il C nd_Nj_refusalOfOneIn_1 rfl ?_
  obtain ⟨w1, hV2, h⟩ := no_b h
  refine vr_sVi (hp' := (rp_Nj s)) [.int a1] [] C nd_Nj_refusalOfOneIn_2 rfl ml_Nj_135 my_Nj_isChild (co_Nj_isChild s a1 w1 hV2) ⟨_, _, _, rfl, rfl, rfl⟩ rfl rfl ⟨rfl, rfl, rfl, rfl⟩ (Nat.zero_le _) (Nat.zero_le _) rfl ?_
  refine vr_ifb_ne C nd_Nj_refusalOfOneIn_5 (fun hc => ?_) (fun hc => ?_)
  · have h := no_bt hc h
    refine vr_al C nd_Nj_refusalOfOneIn_10 rfl ?_
    refine vr_get (v := .ref 23) C nd_Nj_refusalOfOneIn_11 rfl fl_Nj_24 (at_Nj_0 s) rfl ?_
    refine vr_il C nd_Nj_refusalOfOneIn_14 rfl ?_
    obtain ⟨w3, hV4, h⟩ := no_b h
    refine vr_cVip [23, 24, 25, 26, 27] [.int a1] [] C nd_Nj_refusalOfOneIn_15 rfl ml_Nj_206 my_Club_isIn (co_Club_isIn (nj_club s) a1 w3 hV4) (em_Nj_Club s) ⟨_, _, _, rfl, rfl, rfl⟩ rfl rfl ⟨rfl, rfl, rfl, rfl⟩ (Nat.zero_le _) (Nat.zero_le _) rfl ?_
    refine vr_ifb_eq C nd_Nj_refusalOfOneIn_18 (fun hc => ?_) (fun hc => ?_)
    · have h := no_bf hc h
      refine vr_ic C nd_Nj_refusalOfOneIn_25 ?_
      have h := no_s h
      subst h
      exact vr_iret C hq nd_Nj_refusalOfOneIn_27 rfl
    · have h := no_bt hc h
      refine vr_ic C nd_Nj_refusalOfOneIn_21 ?_
      refine vr_go C nd_Nj_refusalOfOneIn_22 ?_
      have h := no_s h
      subst h
      exact vr_iret C hq nd_Nj_refusalOfOneIn_27 rfl
  · have h := no_bf hc h
    refine vr_ic C nd_Nj_refusalOfOneIn_8 ?_
    have h := no_s h
    subst h
    exact vr_iret C hq nd_Nj_refusalOfOneIn_9 rfl
abbrev nr_Nj_yes : Room := { frames := 3, cells := 0, slots := 0, locals := 68 }
theorem co_Nj_yes (s : NjS) (a1 : Int32) (x : Int32 × NjS) (h : mo_Nj_yes s a1 = some x) : nj_Con ny_Nj_yes nb_Nj_yes 4 (some .int) nr_Nj_yes (rp_Nj s) [.ref 0, .int a1] (some (.int (x.1))) (rp_Nj (x.2)) := by
  rw [mo_Nj_yes] at h
  refine nj_con (by decide) rfl 2 rfl (fun G ad C hq => ?_)
  have C : nj_C G nb_Nj_yes 4 "NobodyJoins" nr_Nj_yes := C
  show nj_V G ad 0 0 0 [some (.ref 0), some (.int a1), none, none] [] (rp_Nj s)
  refine vr_al C nd_Nj_yes_0 rfl ?_
  refine vr_il C nd_Nj_yes_1 rfl ?_
  obtain ⟨w1, hV2, h⟩ := no_b h
  refine vr_sVi (hp' := (rp_Nj s)) [.int a1] [] C nd_Nj_yes_2 rfl ml_Nj_192 my_Nj_refusalOfOneIn (co_Nj_refusalOfOneIn s a1 w1 hV2) ⟨_, _, _, rfl, rfl, rfl⟩ rfl rfl ⟨rfl, rfl, rfl, rfl⟩ (Nat.zero_le _) (Nat.zero_le _) rfl ?_
  refine vr_is (ls' := [some (.ref 0), some (.int a1), some (.int w1), none]) C nd_Nj_yes_5 rfl rfl ?_
  refine vr_il C nd_Nj_yes_6 rfl ?_
  refine vr_if_eq C nd_Nj_yes_7 (fun hc => ?_) (fun hc => ?_)
  · have h := no_t hc h
    refine vr_al C nd_Nj_yes_12 rfl ?_
    refine vr_get (v := .ref 23) C nd_Nj_yes_13 rfl fl_Nj_24 (at_Nj_0 s) rfl ?_
    refine vr_il C nd_Nj_yes_16 rfl ?_
    refine vr_al C nd_Nj_yes_17 rfl ?_
    refine vr_get (v := .ref 23) C nd_Nj_yes_18 rfl fl_Nj_24 (at_Nj_0 s) rfl ?_
    refine vr_get (v := .int (cl_inn (nj_club s))) C nd_Nj_yes_21 rfl fl_Nj_153 (at_Nj_23 s) rfl ?_
    refine vr_al C nd_Nj_yes_24 rfl ?_
    refine vr_get (v := .ref 23) C nd_Nj_yes_25 rfl fl_Nj_24 (at_Nj_0 s) rfl ?_
    refine vr_get (v := .ref 26) C nd_Nj_yes_28 rfl fl_Nj_183 (at_Nj_23 s) rfl ?_
    refine vr_il C nd_Nj_yes_31 rfl ?_
    obtain ⟨hN3, h⟩ := no_i h
    refine vr_ialk (j := (nj_n a1)) (f := (cl_liked (nj_club s))) C nd_Nj_yes_32 rfl (at_Nj_26 s) hN3 rfl ?_
    obtain ⟨w4, hV5, h⟩ := no_b h
    refine vr_cVip [23, 24, 25, 26, 27] [.int a1, .int (cl_inn (nj_club s)), .int ((cl_liked (nj_club s)) (nj_n a1))] [] C nd_Nj_yes_33 rfl ml_Nj_195 my_Club_votesAgainst (co_Club_votesAgainst (nj_club s) a1 (cl_inn (nj_club s)) ((cl_liked (nj_club s)) (nj_n a1)) w4 hV5) (em_Nj_Club s) ⟨_, _, _, rfl, rfl, rfl⟩ rfl rfl ⟨rfl, rfl, rfl, rfl⟩ (Nat.zero_le _) (Nat.zero_le _) rfl ?_
    refine vr_is (ls' := [some (.ref 0), some (.int a1), some (.int w1), some (.int w4)]) C nd_Nj_yes_36 rfl rfl ?_
    refine vr_al C nd_Nj_yes_37 rfl ?_
    refine vr_al C nd_Nj_yes_38 rfl ?_
    refine vr_get (v := .ref 23) C nd_Nj_yes_39 rfl fl_Nj_24 (at_Nj_0 s) rfl ?_
    refine vr_al C nd_Nj_yes_42 rfl ?_
    refine vr_get (v := .ref 23) C nd_Nj_yes_43 rfl fl_Nj_24 (at_Nj_0 s) rfl ?_
    refine vr_get (v := .int (cl_inn (nj_club s))) C nd_Nj_yes_46 rfl fl_Nj_153 (at_Nj_23 s) rfl ?_
    obtain ⟨w6, hV7, h⟩ := no_b h
    refine vr_cVip [23, 24, 25, 26, 27] [.int (cl_inn (nj_club s))] [.ref 0] C nd_Nj_yes_49 rfl ml_Nj_199 my_Club_votesOfSet (co_Club_votesOfSet (nj_club s) (cl_inn (nj_club s)) w6 hV7) (em_Nj_Club s) ⟨_, _, _, rfl, rfl, rfl⟩ rfl rfl ⟨rfl, rfl, rfl, rfl⟩ (Nat.zero_le _) (Nat.zero_le _) rfl ?_
    refine vr_il C nd_Nj_yes_52 rfl ?_
    refine vr_isub C nd_Nj_yes_53 rfl ?_
    refine vr_puti (hp' := (rp_Nj (ns_an s (w6 - w4)))) C nd_Nj_yes_54 rfl fl_Nj_57 (at_Nj_0 s) rfl (st_Nj_0_9 s (w6 - w4)) ?_
    refine vr_il C nd_Nj_yes_57 rfl ?_
    have h := no_s h
    subst h
    exact vr_iret C hq nd_Nj_yes_58 rfl
  · have h := no_f hc h
    refine vr_il C nd_Nj_yes_10 rfl ?_
    have h := no_s h
    subst h
    exact vr_iret C hq nd_Nj_yes_11 rfl
abbrev nr_Nj_can : Room := { frames := 5, cells := 0, slots := 0, locals := 118 }
theorem lw_Nj_can_4 {G : nj_G} {ad : Nat → Nat} (C : nj_C G nb_Nj_can 3 "NobodyJoins" nr_Nj_can) (s : NjS) : ∀ (n : Nat) (v1 : Int32) (v2 : Int32) (x : Int32), lo_Nj_can_4 s n v1 v2 = some x → nj_V G ad 0 0 38 [some (.ref 0), some (.int x), none] [] (rp_Nj s) → nj_V G ad 0 0 4 [some (.ref 0), some (.int v1), some (.int v2)] [] (rp_Nj s) := by
  intro n
  induction n with
  | zero => intro v1 v2 x h; rw [lo_Nj_can_4] at h; cases h
  | succ n ih =>
    intro v1 v2 x h hk
    rw [lo_Nj_can_4] at h
    refine vr_il C nd_Nj_can_4 rfl ?_
    refine vr_al C nd_Nj_can_5 rfl ?_
    refine vr_get (v := .ref 23) C nd_Nj_can_6 rfl fl_Nj_24 (at_Nj_0 s) rfl ?_
    refine vr_get (v := .int (cl_children (nj_club s))) C nd_Nj_can_9 rfl fl_Nj_132 (at_Nj_23 s) rfl ?_
    refine vr_cm_ge C nd_Nj_can_12 (fun hc => ?_) (fun hc => ?_)
    · have h := no_t hc h
      have h := no_s h
      subst h
      exact vr_wk [2] rfl hk
    · have h := no_f hc h
      refine vr_al C nd_Nj_can_15 rfl ?_
      refine vr_get (v := .ref 23) C nd_Nj_can_16 rfl fl_Nj_24 (at_Nj_0 s) rfl ?_
      refine vr_il C nd_Nj_can_19 rfl ?_
      obtain ⟨w1, hV2, h⟩ := no_b h
      refine vr_cVip [23, 24, 25, 26, 27] [.int v2] [] C nd_Nj_can_20 rfl ml_Nj_167 my_Club_mayJoin (co_Club_mayJoin (nj_club s) v2 w1 hV2) (em_Nj_Club s) ⟨_, _, _, rfl, rfl, rfl⟩ rfl rfl ⟨rfl, rfl, rfl, rfl⟩ (Nat.zero_le _) (Nat.zero_le _) rfl ?_
      obtain ⟨p3, hP4, h⟩ := no_b h
      have hj : nj_V G ad 0 0 32 [some (.ref 0), some (.int p3), some (.int v2)] [] (rp_Nj s) := by
        refine vr_inc (v := (v2 + (1 : Int32))) (ls' := [some (.ref 0), some (.int p3), some (.int (v2 + (1 : Int32)))]) C nd_Nj_can_32 rfl rfl rfl rfl rfl ?_
        refine vr_go C nd_Nj_can_35 ?_
        exact (ih _ _ _ h hk)
      clear h
      have h := hP4
      clear hP4
      refine vr_ifb_eq C nd_Nj_can_23 (fun hc => ?_) (fun hc => ?_)
      · have h := no_bf hc h
        have h := no_s h
        subst h
        exact hj
      · have h := no_bt hc h
        refine vr_il C nd_Nj_can_26 rfl ?_
        refine vr_ic C nd_Nj_can_27 ?_
        refine vr_il C nd_Nj_can_28 rfl ?_
        refine vr_ishl C nd_Nj_can_29 rfl ?_
        refine vr_ior C nd_Nj_can_30 rfl ?_
        refine vr_is (ls' := [some (.ref 0), some (.int (v1 ||| ((1 : Int32) <<< (v2 &&& 31)))), some (.int v2)]) C nd_Nj_can_31 rfl rfl ?_
        have h := no_s h
        subst h
        exact hj
theorem co_Nj_can (s : NjS) (x : Int32 × NjS) (h : mo_Nj_can s = some x) : nj_Con ny_Nj_can nb_Nj_can 3 (some .int) nr_Nj_can (rp_Nj s) [.ref 0] (some (.int (x.1))) (rp_Nj (x.2)) := by
  rw [mo_Nj_can] at h
  refine nj_con (by decide) rfl 2 rfl (fun G ad C hq => ?_)
  have C : nj_C G nb_Nj_can 3 "NobodyJoins" nr_Nj_can := C
  show nj_V G ad 0 0 0 [some (.ref 0), none, none] [] (rp_Nj s)
  refine vr_ic C nd_Nj_can_0 ?_
  refine vr_is (ls' := [some (.ref 0), some (.int (0 : Int32)), none]) C nd_Nj_can_1 rfl rfl ?_
  refine vr_ic C nd_Nj_can_2 ?_
  refine vr_is (ls' := [some (.ref 0), some (.int (0 : Int32)), some (.int (0 : Int32))]) C nd_Nj_can_3 rfl rfl ?_
  obtain ⟨x5, hX6, h⟩ := no_b h
  refine lw_Nj_can_4 C s nj_fu _ _ x5 hX6 ?_
  refine vr_al C nd_Nj_can_38 rfl ?_
  refine vr_il C nd_Nj_can_39 rfl ?_
  refine vr_puti (hp' := (rp_Nj (ns_an s x5))) C nd_Nj_can_40 rfl fl_Nj_57 (at_Nj_0 s) rfl (st_Nj_0_9 s x5) ?_
  refine vr_al C nd_Nj_can_43 rfl ?_
  refine vr_get (v := .ref 23) C nd_Nj_can_44 rfl fl_Nj_24 (at_Nj_0 (ns_an s x5)) rfl ?_
  refine vr_al C nd_Nj_can_47 rfl ?_
  refine vr_get (v := .ref 23) C nd_Nj_can_48 rfl fl_Nj_24 (at_Nj_0 (ns_an s x5)) rfl ?_
  refine vr_get (v := .int (cl_inn (nj_club s))) C nd_Nj_can_51 rfl fl_Nj_153 (at_Nj_23 (ns_an s x5)) rfl ?_
  obtain ⟨w7, hV8, h⟩ := no_b h
  refine vr_cVip [23, 24, 25, 26, 27] [.int (cl_inn (nj_club s))] [] C nd_Nj_can_54 rfl ml_Nj_156 my_Club_putOutOf (co_Club_putOutOf (nj_club s) (cl_inn (nj_club s)) w7 hV8) (em_Nj_Club (ns_an s x5)) ⟨_, _, _, rfl, rfl, rfl⟩ rfl rfl ⟨rfl, rfl, rfl, rfl⟩ (Nat.zero_le _) (Nat.zero_le _) rfl ?_
  have h := no_s h
  subst h
  exact vr_iret C hq nd_Nj_can_57 rfl
abbrev nr_Nj_swing : Room := { frames := 4, cells := 0, slots := 0, locals := 95 }
theorem lw_Nj_swing_50 {G : nj_G} {ad : Nat → Nat} (C : nj_C G nb_Nj_swing 7 "NobodyJoins" nr_Nj_swing) (s : NjS) (f1 : Int32) (f3 : Int32) : ∀ (n : Nat) (v4 : Int32) (v5 : Int32) (x : Int32), lo_Nj_swing_50 s f1 f3 n v4 v5 = some x → nj_V G ad 0 0 139 [none, none, none, none, some (.int x), none, none] [] (rp_Nj s) → nj_V G ad 0 0 50 [some (.ref 0), some (.int f1), none, some (.int f3), some (.int v4), some (.int v5), none] [] (rp_Nj s) := by
  intro n
  induction n with
  | zero => intro v4 v5 x h; rw [lo_Nj_swing_50] at h; cases h
  | succ n ih =>
    intro v4 v5 x h hk
    rw [lo_Nj_swing_50] at h
    refine vr_il C nd_Nj_swing_50 rfl ?_
    refine vr_al C nd_Nj_swing_52 rfl ?_
    refine vr_get (v := .ref 23) C nd_Nj_swing_53 rfl fl_Nj_24 (at_Nj_0 s) rfl ?_
    refine vr_get (v := .int (cl_children (nj_club s))) C nd_Nj_swing_56 rfl fl_Nj_132 (at_Nj_23 s) rfl ?_
    refine vr_cm_ge C nd_Nj_swing_59 (fun hc => ?_) (fun hc => ?_)
    · have h := no_t hc h
      have h := no_s h
      subst h
      exact vr_wk [0, 1, 3, 5] rfl hk
    · have h := no_f hc h
      refine vr_al C nd_Nj_swing_62 rfl ?_
      refine vr_get (v := .ref 23) C nd_Nj_swing_63 rfl fl_Nj_24 (at_Nj_0 s) rfl ?_
      refine vr_get (v := .ref 26) C nd_Nj_swing_66 rfl fl_Nj_183 (at_Nj_23 s) rfl ?_
      refine vr_il C nd_Nj_swing_69 rfl ?_
      obtain ⟨hN6, h⟩ := no_i h
      refine vr_ialk (j := (nj_n f1)) (f := (cl_liked (nj_club s))) C nd_Nj_swing_70 rfl (at_Nj_26 s) hN6 rfl ?_
      refine vr_ic C nd_Nj_swing_71 ?_
      refine vr_il C nd_Nj_swing_72 rfl ?_
      refine vr_ishl C nd_Nj_swing_74 rfl ?_
      refine vr_ixor C nd_Nj_swing_75 rfl ?_
      refine vr_is (ls' := [some (.ref 0), some (.int f1), none, some (.int f3), some (.int v4), some (.int v5), some (.int (((cl_liked (nj_club s)) (nj_n f1)) ^^^ ((1 : Int32) <<< (v5 &&& 31))))]) C nd_Nj_swing_76 rfl rfl ?_
      refine vr_il C nd_Nj_swing_78 rfl ?_
      refine vr_il C nd_Nj_swing_80 rfl ?_
      obtain ⟨p7, hP12, h⟩ := no_b h
      have hj : nj_V G ad 0 0 133 [some (.ref 0), some (.int f1), none, some (.int f3), some (.int p7), some (.int v5), none] [] (rp_Nj s) := by
        refine vr_inc (v := (v5 + (1 : Int32))) (ls' := [some (.ref 0), some (.int f1), none, some (.int f3), some (.int p7), some (.int (v5 + (1 : Int32))), none]) C nd_Nj_swing_133 rfl rfl rfl rfl rfl ?_
        refine vr_go C nd_Nj_swing_136 ?_
        exact (ih _ _ _ h hk)
      clear h
      have h := hP12
      clear hP12
      refine vr_cm_eq C nd_Nj_swing_81 (fun hc => ?_) (fun hc => ?_)
      · have h := no_t hc h
        have h := no_s h
        subst h
        exact vr_wk [6] rfl hj
      · have h := no_f hc h
        refine vr_al C nd_Nj_swing_84 rfl ?_
        refine vr_get (v := .ref 23) C nd_Nj_swing_85 rfl fl_Nj_24 (at_Nj_0 s) rfl ?_
        refine vr_il C nd_Nj_swing_88 rfl ?_
        obtain ⟨w8, hV9, h⟩ := no_b h
        refine vr_cVip [23, 24, 25, 26, 27] [.int v5] [] C nd_Nj_swing_90 rfl ml_Nj_206 my_Club_isIn (co_Club_isIn (nj_club s) v5 w8 hV9) (em_Nj_Club s) ⟨_, _, _, rfl, rfl, rfl⟩ rfl rfl ⟨rfl, rfl, rfl, rfl⟩ (Nat.zero_le _) (Nat.zero_le _) rfl ?_
        refine vr_ifb_eq C nd_Nj_swing_93 (fun hc => ?_) (fun hc => ?_)
        · have h := no_bf hc h
          have h := no_s h
          subst h
          exact vr_wk [6] rfl hj
        · have h := no_bt hc h
          refine vr_al C nd_Nj_swing_96 rfl ?_
          refine vr_get (v := .ref 23) C nd_Nj_swing_97 rfl fl_Nj_24 (at_Nj_0 s) rfl ?_
          refine vr_il C nd_Nj_swing_100 rfl ?_
          refine vr_al C nd_Nj_swing_101 rfl ?_
          refine vr_get (v := .ref 23) C nd_Nj_swing_102 rfl fl_Nj_24 (at_Nj_0 s) rfl ?_
          refine vr_get (v := .int (cl_inn (nj_club s))) C nd_Nj_swing_105 rfl fl_Nj_153 (at_Nj_23 s) rfl ?_
          refine vr_il C nd_Nj_swing_108 rfl ?_
          refine vr_al C nd_Nj_swing_110 rfl ?_
          refine vr_get (v := .ref 23) C nd_Nj_swing_111 rfl fl_Nj_24 (at_Nj_0 s) rfl ?_
          refine vr_get (v := .int (cl_rule (nj_club s))) C nd_Nj_swing_114 rfl fl_Nj_150 (at_Nj_23 s) rfl ?_
          obtain ⟨w10, hV11, h⟩ := no_b h
          refine vr_cVip [23, 24, 25, 26, 27] [.int f1, .int (cl_inn (nj_club s)), .int (((cl_liked (nj_club s)) (nj_n f1)) ^^^ ((1 : Int32) <<< (v5 &&& 31))), .int (cl_rule (nj_club s))] [] C nd_Nj_swing_117 rfl ml_Nj_202 my_Club_isPutOut (co_Club_isPutOut (nj_club s) f1 (cl_inn (nj_club s)) (((cl_liked (nj_club s)) (nj_n f1)) ^^^ ((1 : Int32) <<< (v5 &&& 31))) (cl_rule (nj_club s)) w10 hV11) (em_Nj_Club s) ⟨_, _, _, rfl, rfl, rfl⟩ rfl rfl ⟨rfl, rfl, rfl, rfl⟩ (Nat.zero_le _) (Nat.zero_le _) rfl ?_
          refine vr_il C nd_Nj_swing_120 rfl ?_
          refine vr_cm_eq C nd_Nj_swing_121 (fun hc => ?_) (fun hc => ?_)
          · have h := no_t hc h
            have h := no_s h
            subst h
            exact vr_wk [6] rfl hj
          · have h := no_f hc h
            refine vr_il C nd_Nj_swing_124 rfl ?_
            refine vr_ic C nd_Nj_swing_126 ?_
            refine vr_il C nd_Nj_swing_127 rfl ?_
            refine vr_ishl C nd_Nj_swing_129 rfl ?_
            refine vr_ior C nd_Nj_swing_130 rfl ?_
            refine vr_is (ls' := [some (.ref 0), some (.int f1), none, some (.int f3), some (.int (v4 ||| ((1 : Int32) <<< (v5 &&& 31)))), some (.int v5), some (.int (((cl_liked (nj_club s)) (nj_n f1)) ^^^ ((1 : Int32) <<< (v5 &&& 31))))]) C nd_Nj_swing_131 rfl rfl ?_
            have h := no_s h
            subst h
            exact vr_wk [6] rfl hj
theorem co_Nj_swing (s : NjS) (a1 : Int32) (x : Int32) (h : mo_Nj_swing s a1 = some x) : nj_Con ny_Nj_swing nb_Nj_swing 7 (some .int) nr_Nj_swing (rp_Nj s) [.ref 0, .int a1] (some (.int x)) (rp_Nj s) := by
  rw [mo_Nj_swing] at h
  refine nj_con (by decide) rfl 5 rfl (fun G ad C hq => ?_)
  have C : nj_C G nb_Nj_swing 7 "NobodyJoins" nr_Nj_swing := C
  show nj_V G ad 0 0 0 [some (.ref 0), some (.int a1), none, none, none, none, none] [] (rp_Nj s)
  refine vr_al C nd_Nj_swing_0 rfl ?_
  refine vr_il C nd_Nj_swing_1 rfl ?_
  obtain ⟨w1, hV2, h⟩ := no_b h
  refine vr_sVi (hp' := (rp_Nj s)) [.int a1] [] C nd_Nj_swing_2 rfl ml_Nj_192 my_Nj_refusalOfOneIn (co_Nj_refusalOfOneIn s a1 w1 hV2) ⟨_, _, _, rfl, rfl, rfl⟩ rfl rfl ⟨rfl, rfl, rfl, rfl⟩ (Nat.zero_le _) (Nat.zero_le _) rfl ?_
  refine vr_is (ls' := [some (.ref 0), some (.int a1), some (.int w1), none, none, none, none]) C nd_Nj_swing_5 rfl rfl ?_
  refine vr_il C nd_Nj_swing_6 rfl ?_
  refine vr_if_eq C nd_Nj_swing_7 (fun hc => ?_) (fun hc => ?_)
  · have h := no_t hc h
    refine vr_al C nd_Nj_swing_12 rfl ?_
    refine vr_get (v := .ref 23) C nd_Nj_swing_13 rfl fl_Nj_24 (at_Nj_0 s) rfl ?_
    refine vr_il C nd_Nj_swing_16 rfl ?_
    refine vr_al C nd_Nj_swing_17 rfl ?_
    refine vr_get (v := .ref 23) C nd_Nj_swing_18 rfl fl_Nj_24 (at_Nj_0 s) rfl ?_
    refine vr_get (v := .int (cl_inn (nj_club s))) C nd_Nj_swing_21 rfl fl_Nj_153 (at_Nj_23 s) rfl ?_
    refine vr_al C nd_Nj_swing_24 rfl ?_
    refine vr_get (v := .ref 23) C nd_Nj_swing_25 rfl fl_Nj_24 (at_Nj_0 s) rfl ?_
    refine vr_get (v := .ref 26) C nd_Nj_swing_28 rfl fl_Nj_183 (at_Nj_23 s) rfl ?_
    refine vr_il C nd_Nj_swing_31 rfl ?_
    obtain ⟨hN3, h⟩ := no_i h
    refine vr_ialk (j := (nj_n a1)) (f := (cl_liked (nj_club s))) C nd_Nj_swing_32 rfl (at_Nj_26 s) hN3 rfl ?_
    refine vr_al C nd_Nj_swing_33 rfl ?_
    refine vr_get (v := .ref 23) C nd_Nj_swing_34 rfl fl_Nj_24 (at_Nj_0 s) rfl ?_
    refine vr_get (v := .int (cl_rule (nj_club s))) C nd_Nj_swing_37 rfl fl_Nj_150 (at_Nj_23 s) rfl ?_
    obtain ⟨w4, hV5, h⟩ := no_b h
    refine vr_cVip [23, 24, 25, 26, 27] [.int a1, .int (cl_inn (nj_club s)), .int ((cl_liked (nj_club s)) (nj_n a1)), .int (cl_rule (nj_club s))] [] C nd_Nj_swing_40 rfl ml_Nj_202 my_Club_isPutOut (co_Club_isPutOut (nj_club s) a1 (cl_inn (nj_club s)) ((cl_liked (nj_club s)) (nj_n a1)) (cl_rule (nj_club s)) w4 hV5) (em_Nj_Club s) ⟨_, _, _, rfl, rfl, rfl⟩ rfl rfl ⟨rfl, rfl, rfl, rfl⟩ (Nat.zero_le _) (Nat.zero_le _) rfl ?_
    refine vr_is (ls' := [some (.ref 0), some (.int a1), some (.int w1), some (.int (nj_b w4)), none, none, none]) C nd_Nj_swing_43 rfl rfl ?_
    refine vr_ic C nd_Nj_swing_44 ?_
    refine vr_is (ls' := [some (.ref 0), some (.int a1), some (.int w1), some (.int (nj_b w4)), some (.int (0 : Int32)), none, none]) C nd_Nj_swing_45 rfl rfl ?_
    refine vr_ic C nd_Nj_swing_47 ?_
    refine vr_is (ls' := [some (.ref 0), some (.int a1), some (.int w1), some (.int (nj_b w4)), some (.int (0 : Int32)), some (.int (0 : Int32)), none]) C nd_Nj_swing_48 rfl rfl ?_
    refine vr_wk (ls' := [some (.ref 0), some (.int a1), none, some (.int (nj_b w4)), some (.int (0 : Int32)), some (.int (0 : Int32)), none]) [2] rfl ?_
    obtain ⟨x13, hX14, h⟩ := no_b h
    refine lw_Nj_swing_50 C s a1 (nj_b w4) nj_fu _ _ x13 hX14 ?_
    refine vr_il C nd_Nj_swing_139 rfl ?_
    have h := no_s h
    subst h
    exact vr_iret C hq nd_Nj_swing_141 rfl
  · have h := no_f hc h
    refine vr_il C nd_Nj_swing_10 rfl ?_
    have h := no_s h
    subst h
    exact vr_iret C hq nd_Nj_swing_11 rfl
abbrev nr_Nj_rules : Room := { frames := 4, cells := 0, slots := 0, locals := 95 }
theorem lw_Nj_rules_17 {G : nj_G} {ad : Nat → Nat} (C : nj_C G nb_Nj_rules 5 "NobodyJoins" nr_Nj_rules) (s : NjS) (f1 : Int32) : ∀ (n : Nat) (v3 : Int32) (v4 : Int32) (x : Int32), lo_Nj_rules_17 s f1 n v3 v4 = some x → nj_V G ad 0 0 65 [none, none, none, some (.int x), none] [] (rp_Nj s) → nj_V G ad 0 0 17 [some (.ref 0), some (.int f1), none, some (.int v3), some (.int v4)] [] (rp_Nj s) := by
  intro n
  induction n with
  | zero => intro v3 v4 x h; rw [lo_Nj_rules_17] at h; cases h
  | succ n ih =>
    intro v3 v4 x h hk
    rw [lo_Nj_rules_17] at h
    refine vr_il C nd_Nj_rules_17 rfl ?_
    refine vr_ic C nd_Nj_rules_19 ?_
    refine vr_cm_ge C nd_Nj_rules_20 (fun hc => ?_) (fun hc => ?_)
    · have h := no_t hc h
      have h := no_s h
      subst h
      exact vr_wk [0, 1, 4] rfl hk
    · have h := no_f hc h
      refine vr_al C nd_Nj_rules_23 rfl ?_
      refine vr_get (v := .ref 23) C nd_Nj_rules_24 rfl fl_Nj_24 (at_Nj_0 s) rfl ?_
      refine vr_il C nd_Nj_rules_27 rfl ?_
      refine vr_al C nd_Nj_rules_28 rfl ?_
      refine vr_get (v := .ref 23) C nd_Nj_rules_29 rfl fl_Nj_24 (at_Nj_0 s) rfl ?_
      refine vr_get (v := .int (cl_inn (nj_club s))) C nd_Nj_rules_32 rfl fl_Nj_153 (at_Nj_23 s) rfl ?_
      refine vr_al C nd_Nj_rules_35 rfl ?_
      refine vr_get (v := .ref 23) C nd_Nj_rules_36 rfl fl_Nj_24 (at_Nj_0 s) rfl ?_
      refine vr_get (v := .ref 26) C nd_Nj_rules_39 rfl fl_Nj_183 (at_Nj_23 s) rfl ?_
      refine vr_il C nd_Nj_rules_42 rfl ?_
      obtain ⟨hN3, h⟩ := no_i h
      refine vr_ialk (j := (nj_n f1)) (f := (cl_liked (nj_club s))) C nd_Nj_rules_43 rfl (at_Nj_26 s) hN3 rfl ?_
      refine vr_il C nd_Nj_rules_44 rfl ?_
      obtain ⟨w4, hV5, h⟩ := no_b h
      refine vr_cVip [23, 24, 25, 26, 27] [.int f1, .int (cl_inn (nj_club s)), .int ((cl_liked (nj_club s)) (nj_n f1)), .int v4] [] C nd_Nj_rules_46 rfl ml_Nj_202 my_Club_isPutOut (co_Club_isPutOut (nj_club s) f1 (cl_inn (nj_club s)) ((cl_liked (nj_club s)) (nj_n f1)) v4 w4 hV5) (em_Nj_Club s) ⟨_, _, _, rfl, rfl, rfl⟩ rfl rfl ⟨rfl, rfl, rfl, rfl⟩ (Nat.zero_le _) (Nat.zero_le _) rfl ?_
      obtain ⟨p6, hP7, h⟩ := no_b h
      have hj : nj_V G ad 0 0 59 [some (.ref 0), some (.int f1), none, some (.int p6), some (.int v4)] [] (rp_Nj s) := by
        refine vr_inc (v := (v4 + (1 : Int32))) (ls' := [some (.ref 0), some (.int f1), none, some (.int p6), some (.int (v4 + (1 : Int32)))]) C nd_Nj_rules_59 rfl rfl rfl rfl rfl ?_
        refine vr_go C nd_Nj_rules_62 ?_
        exact (ih _ _ _ h hk)
      clear h
      have h := hP7
      clear hP7
      refine vr_ifb_eq C nd_Nj_rules_49 (fun hc => ?_) (fun hc => ?_)
      · have h := no_bf hc h
        have h := no_s h
        subst h
        exact hj
      · have h := no_bt hc h
        refine vr_il C nd_Nj_rules_52 rfl ?_
        refine vr_ic C nd_Nj_rules_53 ?_
        refine vr_il C nd_Nj_rules_54 rfl ?_
        refine vr_ishl C nd_Nj_rules_56 rfl ?_
        refine vr_ior C nd_Nj_rules_57 rfl ?_
        refine vr_is (ls' := [some (.ref 0), some (.int f1), none, some (.int (v3 ||| ((1 : Int32) <<< (v4 &&& 31)))), some (.int v4)]) C nd_Nj_rules_58 rfl rfl ?_
        have h := no_s h
        subst h
        exact hj
theorem co_Nj_rules (s : NjS) (a1 : Int32) (x : Int32) (h : mo_Nj_rules s a1 = some x) : nj_Con ny_Nj_rules nb_Nj_rules 5 (some .int) nr_Nj_rules (rp_Nj s) [.ref 0, .int a1] (some (.int x)) (rp_Nj s) := by
  rw [mo_Nj_rules] at h
  refine nj_con (by decide) rfl 3 rfl (fun G ad C hq => ?_)
  have C : nj_C G nb_Nj_rules 5 "NobodyJoins" nr_Nj_rules := C
  show nj_V G ad 0 0 0 [some (.ref 0), some (.int a1), none, none, none] [] (rp_Nj s)
  refine vr_al C nd_Nj_rules_0 rfl ?_
  refine vr_il C nd_Nj_rules_1 rfl ?_
  obtain ⟨w1, hV2, h⟩ := no_b h
  refine vr_sVi (hp' := (rp_Nj s)) [.int a1] [] C nd_Nj_rules_2 rfl ml_Nj_192 my_Nj_refusalOfOneIn (co_Nj_refusalOfOneIn s a1 w1 hV2) ⟨_, _, _, rfl, rfl, rfl⟩ rfl rfl ⟨rfl, rfl, rfl, rfl⟩ (Nat.zero_le _) (Nat.zero_le _) rfl ?_
  refine vr_is (ls' := [some (.ref 0), some (.int a1), some (.int w1), none, none]) C nd_Nj_rules_5 rfl rfl ?_
  refine vr_il C nd_Nj_rules_6 rfl ?_
  refine vr_if_eq C nd_Nj_rules_7 (fun hc => ?_) (fun hc => ?_)
  · have h := no_t hc h
    refine vr_ic C nd_Nj_rules_12 ?_
    refine vr_is (ls' := [some (.ref 0), some (.int a1), some (.int w1), some (.int (0 : Int32)), none]) C nd_Nj_rules_13 rfl rfl ?_
    refine vr_ic C nd_Nj_rules_14 ?_
    refine vr_is (ls' := [some (.ref 0), some (.int a1), some (.int w1), some (.int (0 : Int32)), some (.int (0 : Int32))]) C nd_Nj_rules_15 rfl rfl ?_
    refine vr_wk (ls' := [some (.ref 0), some (.int a1), none, some (.int (0 : Int32)), some (.int (0 : Int32))]) [2] rfl ?_
    obtain ⟨x8, hX9, h⟩ := no_b h
    refine lw_Nj_rules_17 C s a1 nj_fu _ _ x8 hX9 ?_
    refine vr_il C nd_Nj_rules_65 rfl ?_
    have h := no_s h
    subst h
    exact vr_iret C hq nd_Nj_rules_66 rfl
  · have h := no_f hc h
    refine vr_il C nd_Nj_rules_10 rfl ?_
    have h := no_s h
    subst h
    exact vr_iret C hq nd_Nj_rules_11 rfl
abbrev nr_Nj_longest : Room := { frames := 7, cells := 0, slots := 0, locals := 169 }
theorem co_Nj_longest (s : NjS) (a1 : Int32) (x : Int32 × NjS) (h : mo_Nj_longest s a1 = some x) : nj_Con ny_Nj_longest nb_Nj_longest 2 (some .int) nr_Nj_longest (rp_Nj s) [.ref 0, .int a1] (some (.int (x.1))) (rp_Nj (x.2)) := by
  rw [mo_Nj_longest] at h
  refine nj_con (by decide) rfl 0 rfl (fun G ad C hq => ?_)
  have C : nj_C G nb_Nj_longest 2 "NobodyJoins" nr_Nj_longest := C
  show nj_V G ad 0 0 0 [some (.ref 0), some (.int a1)] [] (rp_Nj s)
  refine vr_il C nd_Nj_longest_0 rfl ?_
  obtain ⟨w1, hV2, h⟩ := no_b h
  refine vr_cSip [] [.int a1] [] C nd_Nj_longest_1 rfl ml_Nj_69 my_Nj_isRow (co_Nj_isRow a1 w1 hV2) (em_E _) rfl rfl ⟨rfl, rfl, rfl, rfl⟩ (Nat.zero_le _) (Nat.zero_le _) rfl ?_
  refine vr_ifb_ne C nd_Nj_longest_4 (fun hc => ?_) (fun hc => ?_)
  · have h := no_bt hc h
    refine vr_al C nd_Nj_longest_9 rfl ?_
    refine vr_get (v := .ref 23) C nd_Nj_longest_10 rfl fl_Nj_24 (at_Nj_0 s) rfl ?_
    refine vr_get (v := .int (cl_children (nj_club s))) C nd_Nj_longest_13 rfl fl_Nj_132 (at_Nj_23 s) rfl ?_
    refine vr_if_ne C nd_Nj_longest_16 (fun hc => ?_) (fun hc => ?_)
    · have h := no_f hc h
      refine vr_al C nd_Nj_longest_22 rfl ?_
      refine vr_get (v := .ref 50) C nd_Nj_longest_23 rfl fl_Nj_45 (at_Nj_0 s) rfl ?_
      refine vr_al C nd_Nj_longest_26 rfl ?_
      refine vr_get (v := .ref 23) C nd_Nj_longest_27 rfl fl_Nj_24 (at_Nj_0 s) rfl ?_
      refine vr_al C nd_Nj_longest_30 rfl ?_
      refine vr_get (v := .ref 1) C nd_Nj_longest_31 rfl fl_Nj_11 (at_Nj_0 s) rfl ?_
      refine vr_il C nd_Nj_longest_34 rfl ?_
      obtain ⟨hN3, h⟩ := no_i h
      refine vr_aald3 (y := (2 + 2 * (nj_n a1))) C nd_Nj_longest_35 rfl (at_Nj_1 s) hN3 rfl ?_
      obtain ⟨w4, hV5, h⟩ := no_b h
      refine vr_cVi (hp' := (rp_Nj (ns_os (ns_rows s (va_up (nj_rows s) (nj_n a1) (w4.2.2))) (w4.2.1)))) [50, 51, 23, 24, 25, 26, 27, (2 + 2 * (nj_n a1)), (3 + 2 * (nj_n a1))] [.ref 2, .ref 7] [] C nd_Nj_longest_36 rfl ml_Nj_209 my_Orders_layLongest (co_Orders_layLongest (nj_os s) (nj_club s) ((nj_rows s) (nj_n a1)) w4 hV5) (em_Nj_OrdR s (nj_n a1) (nj_lt_of hN3)) ⟨_, _, _, rfl, rfl, rfl⟩ rfl rfl ⟨rfl, rfl, rfl, rfl⟩ (Nat.zero_le _) (Nat.zero_le _) rfl (pa_Nj_OrdR s (nj_n a1) (nj_lt_of hN3) (w4.2.1) (w4.2.2)) ?_
      have h := no_s h
      subst h
      exact vr_iret C hq nd_Nj_longest_39 rfl
    · have h := no_t hc h
      refine vr_ic C nd_Nj_longest_19 ?_
      have h := no_s h
      subst h
      exact vr_iret C hq nd_Nj_longest_21 rfl
  · have h := no_bf hc h
    refine vr_ic C nd_Nj_longest_7 ?_
    have h := no_s h
    subst h
    exact vr_iret C hq nd_Nj_longest_8 rfl
abbrev nr_Nj_tellNumber : Room := { frames := 0, cells := 0, slots := 0, locals := 0 }
theorem co_Nj_tellNumber (s : NjS) (a1 : Int64) (x : NjS) (h : mo_Nj_tellNumber s a1 = some x) : nj_Con ny_Nj_tellNumber nb_Nj_tellNumber 3 none nr_Nj_tellNumber (rp_Nj s) [.ref 0, .long a1] none (rp_Nj x) := by
  rw [mo_Nj_tellNumber] at h
  refine nj_con (by decide) rfl 0 rfl (fun G ad C hq => ?_)
  have C : nj_C G nb_Nj_tellNumber 3 "NobodyJoins" nr_Nj_tellNumber := C
  show nj_V G ad 0 0 0 [some (.ref 0), some (.long a1), none] [] (rp_Nj s)
  refine vr_al C nd_Nj_tellNumber_0 rfl ?_
  refine vr_ll C nd_Nj_tellNumber_1 rfl ?_
  refine vr_putl (hp' := (rp_Nj (ns_up s a1))) C nd_Nj_tellNumber_2 rfl fl_Nj_60 (at_Nj_0 s) rfl (st_Nj_0_10 s a1) ?_
  refine vr_al C nd_Nj_tellNumber_5 rfl ?_
  refine vr_lc (v := (1 : Int64)) C nd_Nj_tellNumber_6 rfl (by decide) ?_
  refine vr_putl (hp' := (rp_Nj (ns_lo (ns_up s a1) (1 : Int64)))) C nd_Nj_tellNumber_7 rfl fl_Nj_64 (at_Nj_0 (ns_up s a1)) rfl (st_Nj_0_11 (ns_up s a1) (1 : Int64)) ?_
  have h := no_s h
  subst h
  exact vr_vret C hq nd_Nj_tellNumber_10 rfl
abbrev nr_Nj_ways : Room := { frames := 7, cells := 0, slots := 0, locals := 163 }
theorem co_Nj_ways (s : NjS) (a1 : Int32) (x : Int32 × NjS) (h : mo_Nj_ways s a1 = some x) : nj_Con ny_Nj_ways nb_Nj_ways 2 (some .int) nr_Nj_ways (rp_Nj s) [.ref 0, .int a1] (some (.int (x.1))) (rp_Nj (x.2)) := by
  rw [mo_Nj_ways] at h
  refine nj_con (by decide) rfl 0 rfl (fun G ad C hq => ?_)
  have C : nj_C G nb_Nj_ways 2 "NobodyJoins" nr_Nj_ways := C
  show nj_V G ad 0 0 0 [some (.ref 0), some (.int a1)] [] (rp_Nj s)
  refine vr_al C nd_Nj_ways_0 rfl ?_
  refine vr_il C nd_Nj_ways_1 rfl ?_
  obtain ⟨w1, hV2, h⟩ := no_b h
  refine vr_sVi (hp' := (rp_Nj s)) [.int a1] [] C nd_Nj_ways_2 rfl ml_Nj_135 my_Nj_isChild (co_Nj_isChild s a1 w1 hV2) ⟨_, _, _, rfl, rfl, rfl⟩ rfl rfl ⟨rfl, rfl, rfl, rfl⟩ (Nat.zero_le _) (Nat.zero_le _) rfl ?_
  refine vr_ifb_ne C nd_Nj_ways_5 (fun hc => ?_) (fun hc => ?_)
  · have h := no_bt hc h
    refine vr_al C nd_Nj_ways_10 rfl ?_
    refine vr_get (v := .ref 50) C nd_Nj_ways_11 rfl fl_Nj_45 (at_Nj_0 s) rfl ?_
    refine vr_al C nd_Nj_ways_14 rfl ?_
    refine vr_get (v := .ref 23) C nd_Nj_ways_15 rfl fl_Nj_24 (at_Nj_0 s) rfl ?_
    obtain ⟨w3, hV4, h⟩ := no_b h
    refine vr_cVv (hp' := (rp_Nj (ns_os (ns_club s (nj_club s)) w3))) [50, 51, 23, 24, 25, 26, 27] [.ref 2] [] C nd_Nj_ways_18 rfl ml_Nj_213 my_Orders_countPaths (co_Orders_countPaths (nj_os s) (nj_club s) w3 hV4) (em_Nj_Ord s) ⟨_, _, _, rfl, rfl, rfl⟩ rfl rfl ⟨rfl, rfl, rfl, rfl⟩ (Nat.zero_le _) (Nat.zero_le _) rfl (pa_Nj_Ord s w3 (nj_club s)) ?_
    refine vr_al C nd_Nj_ways_21 rfl ?_
    refine vr_al C nd_Nj_ways_22 rfl ?_
    refine vr_get (v := .ref 50) C nd_Nj_ways_23 rfl fl_Nj_45 (at_Nj_0 (ns_os (ns_club s (nj_club s)) w3)) rfl ?_
    refine vr_al C nd_Nj_ways_26 rfl ?_
    refine vr_get (v := .ref 23) C nd_Nj_ways_27 rfl fl_Nj_24 (at_Nj_0 (ns_os (ns_club s (nj_club s)) w3)) rfl ?_
    refine vr_ic C nd_Nj_ways_30 ?_
    refine vr_il C nd_Nj_ways_31 rfl ?_
    refine vr_ishl C nd_Nj_ways_32 rfl ?_
    obtain ⟨w5, hV6, h⟩ := no_b h
    refine vr_cVip [50, 51, 23, 24, 25, 26, 27] [.ref 2, .int ((1 : Int32) <<< (a1 &&& 31))] [.ref 0] C nd_Nj_ways_33 rfl ml_Nj_216 my_Orders_endsWith (co_Orders_endsWith w3 (nj_club s) ((1 : Int32) <<< (a1 &&& 31)) w5 hV6) (em_Nj_Ord (ns_os (ns_club s (nj_club s)) w3)) ⟨_, _, _, rfl, rfl, rfl⟩ rfl rfl ⟨rfl, rfl, rfl, rfl⟩ (Nat.zero_le _) (Nat.zero_le _) rfl ?_
    refine vr_puti (hp' := (rp_Nj (ns_an (ns_os (ns_club s (nj_club s)) w3) w5))) C nd_Nj_ways_36 rfl fl_Nj_57 (at_Nj_0 (ns_os (ns_club s (nj_club s)) w3)) rfl (st_Nj_0_9 (ns_os (ns_club s (nj_club s)) w3) w5) ?_
    refine vr_al C nd_Nj_ways_39 rfl ?_
    refine vr_al C nd_Nj_ways_40 rfl ?_
    refine vr_get (v := .ref 50) C nd_Nj_ways_41 rfl fl_Nj_45 (at_Nj_0 (ns_an (ns_os (ns_club s (nj_club s)) w3) w5)) rfl ?_
    refine vr_al C nd_Nj_ways_44 rfl ?_
    refine vr_get (v := .ref 23) C nd_Nj_ways_45 rfl fl_Nj_24 (at_Nj_0 (ns_an (ns_os (ns_club s (nj_club s)) w3) w5)) rfl ?_
    refine vr_ic C nd_Nj_ways_48 ?_
    obtain ⟨w7, hV8, h⟩ := no_b h
    refine vr_cVip [50, 51, 23, 24, 25, 26, 27] [.ref 2, .int (0 : Int32)] [.ref 0] C nd_Nj_ways_49 rfl ml_Nj_216 my_Orders_endsWith (co_Orders_endsWith w3 (nj_club s) (0 : Int32) w7 hV8) (em_Nj_Ord (ns_an (ns_os (ns_club s (nj_club s)) w3) w5)) ⟨_, _, _, rfl, rfl, rfl⟩ rfl rfl ⟨rfl, rfl, rfl, rfl⟩ (Nat.zero_le _) (Nat.zero_le _) rfl ?_
    refine vr_i2l C nd_Nj_ways_52 rfl ?_
    obtain ⟨w9, hV10, h⟩ := no_b h
    refine vr_sVv (hp' := (rp_Nj w9)) [.long (Int32.toInt64 w7)] [] C nd_Nj_ways_53 rfl ml_Nj_220 my_Nj_tellNumber (co_Nj_tellNumber (ns_an (ns_os (ns_club s (nj_club s)) w3) w5) (Int32.toInt64 w7) w9 hV10) ⟨_, _, _, rfl, rfl, rfl⟩ rfl rfl ⟨rfl, rfl, rfl, rfl⟩ (Nat.zero_le _) (Nat.zero_le _) rfl ?_
    refine vr_ic C nd_Nj_ways_56 ?_
    have h := no_s h
    subst h
    exact vr_iret C hq nd_Nj_ways_57 rfl
  · have h := no_bf hc h
    refine vr_ic C nd_Nj_ways_8 ?_
    have h := no_s h
    subst h
    exact vr_iret C hq nd_Nj_ways_9 rfl
abbrev nr_Nj_alone : Room := { frames := 7, cells := 0, slots := 0, locals := 165 }
theorem co_Nj_alone (s : NjS) (x : Int32 × NjS) (h : mo_Nj_alone s = some x) : nj_Con ny_Nj_alone nb_Nj_alone 1 (some .int) nr_Nj_alone (rp_Nj s) [.ref 0] (some (.int (x.1))) (rp_Nj (x.2)) := by
  rw [mo_Nj_alone] at h
  refine nj_con (by decide) rfl 0 rfl (fun G ad C hq => ?_)
  have C : nj_C G nb_Nj_alone 1 "NobodyJoins" nr_Nj_alone := C
  show nj_V G ad 0 0 0 [some (.ref 0)] [] (rp_Nj s)
  refine vr_al C nd_Nj_alone_0 rfl ?_
  refine vr_get (v := .ref 50) C nd_Nj_alone_1 rfl fl_Nj_45 (at_Nj_0 s) rfl ?_
  refine vr_al C nd_Nj_alone_4 rfl ?_
  refine vr_get (v := .ref 23) C nd_Nj_alone_5 rfl fl_Nj_24 (at_Nj_0 s) rfl ?_
  obtain ⟨w1, hV2, h⟩ := no_b h
  refine vr_cVi (hp' := (rp_Nj (ns_os (ns_club s (nj_club s)) (w1.2)))) [50, 51, 23, 24, 25, 26, 27] [.ref 2] [] C nd_Nj_alone_8 rfl ml_Nj_224 my_Orders_lastOnes (co_Orders_lastOnes (nj_os s) (nj_club s) w1 hV2) (em_Nj_Ord s) ⟨_, _, _, rfl, rfl, rfl⟩ rfl rfl ⟨rfl, rfl, rfl, rfl⟩ (Nat.zero_le _) (Nat.zero_le _) rfl (pa_Nj_Ord s (w1.2) (nj_club s)) ?_
  have h := no_s h
  subst h
  exact vr_iret C hq nd_Nj_alone_11 rfl
abbrev nr_Nj_stands : Room := { frames := 6, cells := 0, slots := 0, locals := 139 }
theorem lw_Nj_stands_6 {G : nj_G} {ad : Nat → Nat} (C : nj_C G nb_Nj_stands 4 "NobodyJoins" nr_Nj_stands) (s : NjS) : ∀ (n : Nat) (v1 : Int32) (v2 : Int32) (v3 : Int32) (x : Int32 × Int32), lo_Nj_stands_6 s n v1 v2 v3 = some x → nj_V G ad 0 0 52 [some (.ref 0), some (.int (x.1)), some (.int (x.2)), none] [] (rp_Nj s) → nj_V G ad 0 0 6 [some (.ref 0), some (.int v1), some (.int v2), some (.int v3)] [] (rp_Nj s) := by
  intro n
  induction n with
  | zero => intro v1 v2 v3 x h; rw [lo_Nj_stands_6] at h; cases h
  | succ n ih =>
    intro v1 v2 v3 x h hk
    rw [lo_Nj_stands_6] at h
    refine vr_il C nd_Nj_stands_6 rfl ?_
    refine vr_ic C nd_Nj_stands_7 ?_
    refine vr_al C nd_Nj_stands_8 rfl ?_
    refine vr_get (v := .ref 23) C nd_Nj_stands_9 rfl fl_Nj_24 (at_Nj_0 s) rfl ?_
    refine vr_get (v := .int (cl_children (nj_club s))) C nd_Nj_stands_12 rfl fl_Nj_132 (at_Nj_23 s) rfl ?_
    refine vr_ishl C nd_Nj_stands_15 rfl ?_
    refine vr_cm_ge C nd_Nj_stands_16 (fun hc => ?_) (fun hc => ?_)
    · have h := no_t hc h
      have h := no_s h
      subst h
      exact vr_wk [3] rfl hk
    · have h := no_f hc h
      refine vr_al C nd_Nj_stands_19 rfl ?_
      refine vr_get (v := .ref 23) C nd_Nj_stands_20 rfl fl_Nj_24 (at_Nj_0 s) rfl ?_
      refine vr_il C nd_Nj_stands_23 rfl ?_
      obtain ⟨w1, hV2, h⟩ := no_b h
      refine vr_cVip [23, 24, 25, 26, 27] [.int v3] [] C nd_Nj_stands_24 rfl ml_Nj_228 my_Club_standsStill (co_Club_standsStill (nj_club s) v3 w1 hV2) (em_Nj_Club s) ⟨_, _, _, rfl, rfl, rfl⟩ rfl rfl ⟨rfl, rfl, rfl, rfl⟩ (Nat.zero_le _) (Nat.zero_le _) rfl ?_
      obtain ⟨p3, hP8, h⟩ := no_b h
      have hj : nj_V G ad 0 0 46 [some (.ref 0), some (.int (p3.1)), some (.int (p3.2)), some (.int v3)] [] (rp_Nj s) := by
        refine vr_inc (v := (v3 + (1 : Int32))) (ls' := [some (.ref 0), some (.int (p3.1)), some (.int (p3.2)), some (.int (v3 + (1 : Int32)))]) C nd_Nj_stands_46 rfl rfl rfl rfl rfl ?_
        refine vr_go C nd_Nj_stands_49 ?_
        exact (ih _ _ _ _ h hk)
      clear h
      have h := hP8
      clear hP8
      refine vr_ifb_eq C nd_Nj_stands_27 (fun hc => ?_) (fun hc => ?_)
      · have h := no_bf hc h
        have h := no_s h
        subst h
        exact hj
      · have h := no_bt hc h
        refine vr_inc (v := (v1 + (1 : Int32))) (ls' := [some (.ref 0), some (.int (v1 + (1 : Int32))), some (.int v2), some (.int v3)]) C nd_Nj_stands_30 rfl rfl rfl rfl rfl ?_
        refine vr_il C nd_Nj_stands_33 rfl ?_
        obtain ⟨w4, hV5, h⟩ := no_b h
        refine vr_cSip [] [.int v3] [] C nd_Nj_stands_34 rfl ml_Nj_162 my_Integer_bitCount (co_Integer_bitCount v3 w4 hV5) (em_E _) rfl rfl ⟨rfl, rfl, rfl, rfl⟩ (Nat.zero_le _) (Nat.zero_le _) rfl ?_
        refine vr_il C nd_Nj_stands_37 rfl ?_
        obtain ⟨w6, hV7, h⟩ := no_b h
        refine vr_cSip [] [.int v2] [.int w4] C nd_Nj_stands_38 rfl ml_Nj_162 my_Integer_bitCount (co_Integer_bitCount v2 w6 hV7) (em_E _) rfl rfl ⟨rfl, rfl, rfl, rfl⟩ (Nat.zero_le _) (Nat.zero_le _) rfl ?_
        refine vr_cm_le C nd_Nj_stands_41 (fun hc => ?_) (fun hc => ?_)
        · have h := no_t hc h
          have h := no_s h
          subst h
          exact hj
        · have h := no_f hc h
          refine vr_il C nd_Nj_stands_44 rfl ?_
          refine vr_is (ls' := [some (.ref 0), some (.int (v1 + (1 : Int32))), some (.int v3), some (.int v3)]) C nd_Nj_stands_45 rfl rfl ?_
          have h := no_s h
          subst h
          exact hj
theorem co_Nj_stands (s : NjS) (x : Int32 × NjS) (h : mo_Nj_stands s = some x) : nj_Con ny_Nj_stands nb_Nj_stands 4 (some .int) nr_Nj_stands (rp_Nj s) [.ref 0] (some (.int (x.1))) (rp_Nj (x.2)) := by
  rw [mo_Nj_stands] at h
  refine nj_con (by decide) rfl 3 rfl (fun G ad C hq => ?_)
  have C : nj_C G nb_Nj_stands 4 "NobodyJoins" nr_Nj_stands := C
  show nj_V G ad 0 0 0 [some (.ref 0), none, none, none] [] (rp_Nj s)
  refine vr_ic C nd_Nj_stands_0 ?_
  refine vr_is (ls' := [some (.ref 0), some (.int (0 : Int32)), none, none]) C nd_Nj_stands_1 rfl rfl ?_
  refine vr_ic C nd_Nj_stands_2 ?_
  refine vr_is (ls' := [some (.ref 0), some (.int (0 : Int32)), some (.int (0 : Int32)), none]) C nd_Nj_stands_3 rfl rfl ?_
  refine vr_ic C nd_Nj_stands_4 ?_
  refine vr_is (ls' := [some (.ref 0), some (.int (0 : Int32)), some (.int (0 : Int32)), some (.int (1 : Int32))]) C nd_Nj_stands_5 rfl rfl ?_
  obtain ⟨x9, hX10, h⟩ := no_b h
  refine lw_Nj_stands_6 C s nj_fu _ _ _ x9 hX10 ?_
  refine vr_al C nd_Nj_stands_52 rfl ?_
  refine vr_il C nd_Nj_stands_53 rfl ?_
  refine vr_puti (hp' := (rp_Nj (ns_an s (x9.2)))) C nd_Nj_stands_54 rfl fl_Nj_57 (at_Nj_0 s) rfl (st_Nj_0_9 s (x9.2)) ?_
  refine vr_il C nd_Nj_stands_57 rfl ?_
  have h := no_s h
  subst h
  exact vr_iret C hq nd_Nj_stands_58 rfl
abbrev nr_Nj_refusalOfClubAndRow : Room := { frames := 1, cells := 0, slots := 0, locals := 21 }
theorem co_Nj_refusalOfClubAndRow (s : NjS) (a1 : Int32) (x : Int32 × NjS) (h : mo_Nj_refusalOfClubAndRow s a1 = some x) : nj_Con ny_Nj_refusalOfClubAndRow nb_Nj_refusalOfClubAndRow 2 (some .int) nr_Nj_refusalOfClubAndRow (rp_Nj s) [.ref 0, .int a1] (some (.int (x.1))) (rp_Nj (x.2)) := by
  rw [mo_Nj_refusalOfClubAndRow] at h
  refine nj_con (by decide) rfl 0 rfl (fun G ad C hq => ?_)
  have C : nj_C G nb_Nj_refusalOfClubAndRow 2 "NobodyJoins" nr_Nj_refusalOfClubAndRow := C
  show nj_V G ad 0 0 0 [some (.ref 0), some (.int a1)] [] (rp_Nj s)
  refine vr_il C nd_Nj_refusalOfClubAndRow_0 rfl ?_
  obtain ⟨w1, hV2, h⟩ := no_b h
  refine vr_cSip [] [.int a1] [] C nd_Nj_refusalOfClubAndRow_1 rfl ml_Nj_69 my_Nj_isRow (co_Nj_isRow a1 w1 hV2) (em_E _) rfl rfl ⟨rfl, rfl, rfl, rfl⟩ (Nat.zero_le _) (Nat.zero_le _) rfl ?_
  refine vr_ifb_ne C nd_Nj_refusalOfClubAndRow_4 (fun hc => ?_) (fun hc => ?_)
  · have h := no_bt hc h
    refine vr_al C nd_Nj_refusalOfClubAndRow_9 rfl ?_
    refine vr_get (v := .ref 23) C nd_Nj_refusalOfClubAndRow_10 rfl fl_Nj_24 (at_Nj_0 s) rfl ?_
    refine vr_get (v := .int (cl_children (nj_club s))) C nd_Nj_refusalOfClubAndRow_13 rfl fl_Nj_132 (at_Nj_23 s) rfl ?_
    refine vr_if_ne C nd_Nj_refusalOfClubAndRow_16 (fun hc => ?_) (fun hc => ?_)
    · have h := no_f hc h
      refine vr_al C nd_Nj_refusalOfClubAndRow_22 rfl ?_
      refine vr_get (v := .ref 1) C nd_Nj_refusalOfClubAndRow_23 rfl fl_Nj_11 (at_Nj_0 s) rfl ?_
      refine vr_il C nd_Nj_refusalOfClubAndRow_26 rfl ?_
      obtain ⟨hN3, h⟩ := no_i h
      refine vr_aald3 (y := (2 + 2 * (nj_n a1))) C nd_Nj_refusalOfClubAndRow_27 rfl (at_Nj_1 s) hN3 rfl ?_
      obtain ⟨w4, hV5, h⟩ := no_b h
      refine vr_cVip [(2 + 2 * (nj_n a1)), (3 + 2 * (nj_n a1))] [] [] C nd_Nj_refusalOfClubAndRow_28 rfl ml_Nj_88 my_Row_isMissing (co_Row_isMissing ((nj_rows s) (nj_n a1)) w4 hV5) (em_Nj_Row s (nj_n a1) (nj_lt_of hN3)) ⟨_, _, _, rfl, rfl, rfl⟩ rfl rfl ⟨rfl, rfl, rfl, rfl⟩ (Nat.zero_le _) (Nat.zero_le _) rfl ?_
      refine vr_ifb_eq C nd_Nj_refusalOfClubAndRow_31 (fun hc => ?_) (fun hc => ?_)
      · have h := no_bf hc h
        refine vr_ic C nd_Nj_refusalOfClubAndRow_42 ?_
        have h := no_s h
        subst h
        exact vr_iret C hq nd_Nj_refusalOfClubAndRow_43 rfl
      · have h := no_bt hc h
        refine vr_al C nd_Nj_refusalOfClubAndRow_34 rfl ?_
        refine vr_ic C nd_Nj_refusalOfClubAndRow_35 ?_
        obtain ⟨w6, hV7, h⟩ := no_b h
        refine vr_sVi (hp' := (rp_Nj (w6.2))) [.int (1 : Int32)] [] C nd_Nj_refusalOfClubAndRow_36 rfl ml_Nj_73 my_Nj_found (co_Nj_found s (1 : Int32) w6 hV7) ⟨_, _, _, rfl, rfl, rfl⟩ rfl rfl ⟨rfl, rfl, rfl, rfl⟩ (Nat.zero_le _) (Nat.zero_le _) rfl ?_
        refine vr_go C nd_Nj_refusalOfClubAndRow_39 ?_
        have h := no_s h
        subst h
        exact vr_iret C hq nd_Nj_refusalOfClubAndRow_43 rfl
    · have h := no_t hc h
      refine vr_ic C nd_Nj_refusalOfClubAndRow_19 ?_
      have h := no_s h
      subst h
      exact vr_iret C hq nd_Nj_refusalOfClubAndRow_21 rfl
  · have h := no_bf hc h
    refine vr_ic C nd_Nj_refusalOfClubAndRow_7 ?_
    have h := no_s h
    subst h
    exact vr_iret C hq nd_Nj_refusalOfClubAndRow_8 rfl
abbrev nr_Nj_namesChildren : Room := { frames := 1, cells := 0, slots := 0, locals := 21 }
theorem lw_Nj_namesChildren_2 {G : nj_G} {ad : Nat → Nat} (C : nj_C G nb_Nj_namesChildren 4 "NobodyJoins" nr_Nj_namesChildren) (s : NjS) (rI : Nat) (f2 : Int32) (hrI : rI < 6) : ∀ (n : Nat) (v3 : Int32) (x : Bool), lo_Nj_namesChildren_2 s rI f2 n v3 = some x → nj_Rt G ad (some (.int (nj_b x))) (rp_Nj s) (some .boolean) → nj_V G ad 0 0 2 [some (.ref 0), some (.ref (2 + 2 * rI)), some (.int f2), some (.int v3)] [] (rp_Nj s) := by
  intro n
  induction n with
  | zero => intro v3 x h; rw [lo_Nj_namesChildren_2] at h; cases h
  | succ n ih =>
    intro v3 x h hq
    rw [lo_Nj_namesChildren_2] at h
    refine vr_il C nd_Nj_namesChildren_2 rfl ?_
    refine vr_al C nd_Nj_namesChildren_3 rfl ?_
    refine vr_get (v := .int (ro_size ((nj_rows s) rI))) C nd_Nj_namesChildren_4 rfl fl_Nj_92 (at_Nj_Row_0 s rI hrI) rfl ?_
    refine vr_cm_ge C nd_Nj_namesChildren_7 (fun hc => ?_) (fun hc => ?_)
    · have h := no_t hc h
      refine vr_ic C nd_Nj_namesChildren_32 ?_
      have h := no_s h
      subst h
      exact vr_zret true C hq nd_Nj_namesChildren_33 rfl
    · have h := no_f hc h
      refine vr_al C nd_Nj_namesChildren_10 rfl ?_
      refine vr_al C nd_Nj_namesChildren_11 rfl ?_
      refine vr_get (v := .ref (3 + 2 * rI)) C nd_Nj_namesChildren_12 rfl fl_Nj_85 (at_Nj_Row_0 s rI hrI) rfl ?_
      refine vr_il C nd_Nj_namesChildren_15 rfl ?_
      obtain ⟨hN1, h⟩ := no_i h
      refine vr_ialk (j := (nj_n v3)) (f := (ro_places ((nj_rows s) rI))) C nd_Nj_namesChildren_16 rfl (at_Nj_Row_1 s rI hrI) hN1 rfl ?_
      obtain ⟨w2, hV3, h⟩ := no_b h
      refine vr_sVi (hp' := (rp_Nj s)) [.int ((ro_places ((nj_rows s) rI)) (nj_n v3))] [] C nd_Nj_namesChildren_17 rfl ml_Nj_135 my_Nj_isChild (co_Nj_isChild s ((ro_places ((nj_rows s) rI)) (nj_n v3)) w2 hV3) ⟨_, _, _, rfl, rfl, rfl⟩ rfl rfl ⟨rfl, rfl, rfl, rfl⟩ (Nat.zero_le _) (Nat.zero_le _) rfl ?_
      refine vr_ifb_ne C nd_Nj_namesChildren_20 (fun hc => ?_) (fun hc => ?_)
      · have h := no_bt hc h
        refine vr_il C nd_Nj_namesChildren_25 rfl ?_
        refine vr_il C nd_Nj_namesChildren_26 rfl ?_
        refine vr_iadd C nd_Nj_namesChildren_27 rfl ?_
        refine vr_is (ls' := [some (.ref 0), some (.ref (2 + 2 * rI)), some (.int f2), some (.int (v3 + f2))]) C nd_Nj_namesChildren_28 rfl rfl ?_
        refine vr_go C nd_Nj_namesChildren_29 ?_
        exact (ih _ _ h hq)
      · have h := no_bf hc h
        refine vr_ic C nd_Nj_namesChildren_23 ?_
        have h := no_s h
        subst h
        exact vr_zret false C hq nd_Nj_namesChildren_24 rfl
theorem co_Nj_namesChildren (s : NjS) (rI : Nat) (hrI : rI < 6) (a2 : Int32) (x : Bool) (h : mo_Nj_namesChildren s rI a2 = some x) : nj_Con ny_Nj_namesChildren nb_Nj_namesChildren 4 (some .boolean) nr_Nj_namesChildren (rp_Nj s) [.ref 0, .ref (2 + 2 * rI), .int a2] (some (.int (nj_b x))) (rp_Nj s) := by
  rw [mo_Nj_namesChildren] at h
  refine nj_con (by decide) rfl 1 rfl (fun G ad C hq => ?_)
  have C : nj_C G nb_Nj_namesChildren 4 "NobodyJoins" nr_Nj_namesChildren := C
  show nj_V G ad 0 0 0 [some (.ref 0), some (.ref (2 + 2 * rI)), some (.int a2), none] [] (rp_Nj s)
  refine vr_ic C nd_Nj_namesChildren_0 ?_
  refine vr_is (ls' := [some (.ref 0), some (.ref (2 + 2 * rI)), some (.int a2), some (.int (0 : Int32))]) C nd_Nj_namesChildren_1 rfl rfl ?_
  exact lw_Nj_namesChildren_2 C s rI a2 hrI nj_fu _ _ h hq
abbrev nr_Nj_run : Room := { frames := 6, cells := 0, slots := 0, locals := 142 }
theorem co_Nj_run (s : NjS) (a1 : Int32) (x : Int32 × NjS) (h : mo_Nj_run s a1 = some x) : nj_Con ny_Nj_run nb_Nj_run 5 (some .int) nr_Nj_run (rp_Nj s) [.ref 0, .int a1] (some (.int (x.1))) (rp_Nj (x.2)) := by
  rw [mo_Nj_run] at h
  refine nj_con (by decide) rfl 3 rfl (fun G ad C hq => ?_)
  have C : nj_C G nb_Nj_run 5 "NobodyJoins" nr_Nj_run := C
  show nj_V G ad 0 0 0 [some (.ref 0), some (.int a1), none, none, none] [] (rp_Nj s)
  refine vr_al C nd_Nj_run_0 rfl ?_
  refine vr_il C nd_Nj_run_1 rfl ?_
  obtain ⟨w1, hV2, h⟩ := no_b h
  refine vr_sVi (hp' := (rp_Nj (w1.2))) [.int a1] [] C nd_Nj_run_2 rfl ml_Nj_231 my_Nj_refusalOfClubAndRow (co_Nj_refusalOfClubAndRow s a1 w1 hV2) ⟨_, _, _, rfl, rfl, rfl⟩ rfl rfl ⟨rfl, rfl, rfl, rfl⟩ (Nat.zero_le _) (Nat.zero_le _) rfl ?_
  refine vr_is (ls' := [some (.ref 0), some (.int a1), some (.int (w1.1)), none, none]) C nd_Nj_run_5 rfl rfl ?_
  refine vr_il C nd_Nj_run_6 rfl ?_
  refine vr_if_eq C nd_Nj_run_7 (fun hc => ?_) (fun hc => ?_)
  · have h := no_t hc h
    refine vr_al C nd_Nj_run_12 rfl ?_
    refine vr_get (v := .ref 1) C nd_Nj_run_13 rfl fl_Nj_11 (at_Nj_0 (w1.2)) rfl ?_
    refine vr_il C nd_Nj_run_16 rfl ?_
    obtain ⟨hN3, h⟩ := no_i h
    refine vr_aald3 (y := (2 + 2 * (nj_n a1))) C nd_Nj_run_17 rfl (at_Nj_1 (w1.2)) hN3 rfl ?_
    refine vr_as (ls' := [some (.ref 0), some (.int a1), some (.int (w1.1)), some (.ref (2 + 2 * (nj_n a1))), none]) C nd_Nj_run_18 rfl rfl ?_
    refine vr_al C nd_Nj_run_19 rfl ?_
    refine vr_get (v := .int (ro_size ((nj_rows (w1.2)) (nj_n a1)))) C nd_Nj_run_20 rfl fl_Nj_92 (at_Nj_Row_0 (w1.2) (nj_n a1) (nj_lt_of hN3)) rfl ?_
    refine vr_ic C nd_Nj_run_23 ?_
    refine vr_cm_le C nd_Nj_run_25 (fun hc => ?_) (fun hc => ?_)
    · have h := no_t hc h
      refine vr_al C nd_Nj_run_34 rfl ?_
      refine vr_al C nd_Nj_run_35 rfl ?_
      refine vr_ic C nd_Nj_run_36 ?_
      obtain ⟨w4, hV5, h⟩ := no_b h
      refine vr_sVi (hp' := (rp_Nj (w1.2))) [.ref (2 + 2 * (nj_n a1)), .int (1 : Int32)] [] C nd_Nj_run_37 rfl ml_Nj_234 my_Nj_namesChildren (co_Nj_namesChildren (w1.2) (nj_n a1) (nj_lt_of hN3) (1 : Int32) w4 hV5) ⟨_, _, _, rfl, rfl, rfl⟩ rfl rfl ⟨rfl, rfl, rfl, rfl⟩ (Nat.zero_le _) (Nat.zero_le _) rfl ?_
      refine vr_ifb_ne C nd_Nj_run_40 (fun hc => ?_) (fun hc => ?_)
      · have h := no_bt hc h
        refine vr_al C nd_Nj_run_49 rfl ?_
        refine vr_get (v := .ref 23) C nd_Nj_run_50 rfl fl_Nj_24 (at_Nj_0 (w1.2)) rfl ?_
        refine vr_al C nd_Nj_run_53 rfl ?_
        obtain ⟨w6, hV7, h⟩ := no_b h
        refine vr_cSip [(2 + 2 * (nj_n a1)), (3 + 2 * (nj_n a1)), 23, 24, 25, 26, 27] [.ref 2, .ref 0] [] C nd_Nj_run_54 rfl ml_Nj_238 my_Orders_leftBy (co_Orders_leftBy ((nj_rows (w1.2)) (nj_n a1)) (nj_club (w1.2)) w6 hV7) (em_Nj_RoC (w1.2) (nj_n a1) (nj_lt_of hN3)) rfl rfl ⟨rfl, rfl, rfl, rfl⟩ (Nat.zero_le _) (Nat.zero_le _) rfl ?_
        refine vr_is (ls' := [some (.ref 0), some (.int a1), some (.int (w1.1)), some (.ref (2 + 2 * (nj_n a1))), some (.int w6)]) C nd_Nj_run_57 rfl rfl ?_
        refine vr_al C nd_Nj_run_59 rfl ?_
        refine vr_il C nd_Nj_run_60 rfl ?_
        refine vr_puti (hp' := (rp_Nj (ns_an (w1.2) w6))) C nd_Nj_run_62 rfl fl_Nj_57 (at_Nj_0 (w1.2)) rfl (st_Nj_0_9 (w1.2) w6) ?_
        refine vr_al C nd_Nj_run_65 rfl ?_
        refine vr_get (v := .ref 23) C nd_Nj_run_66 rfl fl_Nj_24 (at_Nj_0 (ns_an (w1.2) w6)) rfl ?_
        refine vr_get (v := .int (cl_inn (nj_club (w1.2)))) C nd_Nj_run_69 rfl fl_Nj_153 (at_Nj_23 (ns_an (w1.2) w6)) rfl ?_
        obtain ⟨w8, hV9, h⟩ := no_b h
        refine vr_cSip [] [.int (cl_inn (nj_club (w1.2)))] [] C nd_Nj_run_72 rfl ml_Nj_162 my_Integer_bitCount (co_Integer_bitCount (cl_inn (nj_club (w1.2))) w8 hV9) (em_E _) rfl rfl ⟨rfl, rfl, rfl, rfl⟩ (Nat.zero_le _) (Nat.zero_le _) rfl ?_
        refine vr_il C nd_Nj_run_75 rfl ?_
        obtain ⟨w10, hV11, h⟩ := no_b h
        refine vr_cSip [] [.int w6] [.int w8] C nd_Nj_run_77 rfl ml_Nj_162 my_Integer_bitCount (co_Integer_bitCount w6 w10 hV11) (em_E _) rfl rfl ⟨rfl, rfl, rfl, rfl⟩ (Nat.zero_le _) (Nat.zero_le _) rfl ?_
        refine vr_isub C nd_Nj_run_80 rfl ?_
        have h := no_s h
        subst h
        exact vr_iret C hq nd_Nj_run_81 rfl
      · have h := no_bf hc h
        refine vr_al C nd_Nj_run_43 rfl ?_
        refine vr_ic C nd_Nj_run_44 ?_
        obtain ⟨w12, hV13, h⟩ := no_b h
        refine vr_sVi (hp' := (rp_Nj (w12.2))) [.int (3 : Int32)] [] C nd_Nj_run_45 rfl ml_Nj_73 my_Nj_found (co_Nj_found (w1.2) (3 : Int32) w12 hV13) ⟨_, _, _, rfl, rfl, rfl⟩ rfl rfl ⟨rfl, rfl, rfl, rfl⟩ (Nat.zero_le _) (Nat.zero_le _) rfl ?_
        have h := no_s h
        subst h
        exact vr_iret C hq nd_Nj_run_48 rfl
    · have h := no_f hc h
      refine vr_al C nd_Nj_run_28 rfl ?_
      refine vr_ic C nd_Nj_run_29 ?_
      obtain ⟨w14, hV15, h⟩ := no_b h
      refine vr_sVi (hp' := (rp_Nj (w14.2))) [.int (5 : Int32)] [] C nd_Nj_run_30 rfl ml_Nj_73 my_Nj_found (co_Nj_found (w1.2) (5 : Int32) w14 hV15) ⟨_, _, _, rfl, rfl, rfl⟩ rfl rfl ⟨rfl, rfl, rfl, rfl⟩ (Nat.zero_le _) (Nat.zero_le _) rfl ?_
      have h := no_s h
      subst h
      exact vr_iret C hq nd_Nj_run_33 rfl
  · have h := no_f hc h
    refine vr_il C nd_Nj_run_10 rfl ?_
    have h := no_s h
    subst h
    exact vr_iret C hq nd_Nj_run_11 rfl
abbrev nr_Nj_splits : Room := { frames := 6, cells := 0, slots := 0, locals := 139 }
theorem lw_Nj_splits_25 {G : nj_G} {ad : Nat → Nat} (C : nj_C G nb_Nj_splits 6 "NobodyJoins" nr_Nj_splits) (s : NjS) (f1 : Int32) : ∀ (n : Nat) (v2 : Int32) (v3 : Int32) (v4 : Int32) (x : Int32 × Int32), lo_Nj_splits_25 s f1 n v2 v3 v4 = some x → nj_V G ad 0 0 123 [some (.ref 0), none, some (.int (x.1)), some (.int (x.2)), none, none] [] (rp_Nj s) → nj_V G ad 0 0 25 [some (.ref 0), some (.int f1), some (.int v2), some (.int v3), some (.int v4), none] [] (rp_Nj s) := by
  intro n
  induction n with
  | zero => intro v2 v3 v4 x h; rw [lo_Nj_splits_25] at h; cases h
  | succ n ih =>
    intro v2 v3 v4 x h hk
    rw [lo_Nj_splits_25] at h
    refine vr_il C nd_Nj_splits_25 rfl ?_
    refine vr_al C nd_Nj_splits_27 rfl ?_
    refine vr_get (v := .ref 23) C nd_Nj_splits_28 rfl fl_Nj_24 (at_Nj_0 s) rfl ?_
    refine vr_get (v := .int (cl_inn (nj_club s))) C nd_Nj_splits_31 rfl fl_Nj_153 (at_Nj_23 s) rfl ?_
    refine vr_cm_ge C nd_Nj_splits_34 (fun hc => ?_) (fun hc => ?_)
    · have h := no_t hc h
      have h := no_s h
      subst h
      exact vr_wk [1, 4] rfl hk
    · have h := no_f hc h
      refine vr_il C nd_Nj_splits_37 rfl ?_
      refine vr_al C nd_Nj_splits_39 rfl ?_
      refine vr_get (v := .ref 23) C nd_Nj_splits_40 rfl fl_Nj_24 (at_Nj_0 s) rfl ?_
      refine vr_get (v := .int (cl_inn (nj_club s))) C nd_Nj_splits_43 rfl fl_Nj_153 (at_Nj_23 s) rfl ?_
      refine vr_ic C nd_Nj_splits_46 ?_
      refine vr_ixor C nd_Nj_splits_47 rfl ?_
      refine vr_iand C nd_Nj_splits_48 rfl ?_
      obtain ⟨p1, hP8, h⟩ := no_b h
      have hj : nj_V G ad 0 0 64 [some (.ref 0), some (.int f1), some (.int v2), some (.int v3), some (.int v4), none] [.int p1] (rp_Nj s) := by
        refine vr_is (ls' := [some (.ref 0), some (.int f1), some (.int v2), some (.int v3), some (.int v4), some (.int p1)]) C nd_Nj_splits_64 rfl rfl ?_
        refine vr_il C nd_Nj_splits_66 rfl ?_
        obtain ⟨p2, hP7, h⟩ := no_b h
        have hj : nj_V G ad 0 0 117 [some (.ref 0), some (.int f1), some (.int (p2.1)), some (.int (p2.2)), some (.int v4), none] [] (rp_Nj s) := by
          refine vr_inc (v := (v4 + (1 : Int32))) (ls' := [some (.ref 0), some (.int f1), some (.int (p2.1)), some (.int (p2.2)), some (.int (v4 + (1 : Int32))), none]) C nd_Nj_splits_117 rfl rfl rfl rfl rfl ?_
          refine vr_go C nd_Nj_splits_120 ?_
          exact (ih _ _ _ _ h hk)
        clear h
        have h := hP7
        clear hP7
        refine vr_if_eq C nd_Nj_splits_68 (fun hc => ?_) (fun hc => ?_)
        · have h := no_t hc h
          have h := no_s h
          subst h
          exact vr_wk [5] rfl hj
        · have h := no_f hc h
          refine vr_al C nd_Nj_splits_71 rfl ?_
          refine vr_get (v := .ref 23) C nd_Nj_splits_72 rfl fl_Nj_24 (at_Nj_0 s) rfl ?_
          refine vr_il C nd_Nj_splits_75 rfl ?_
          obtain ⟨w3, hV4, h⟩ := no_b h
          refine vr_cVip [23, 24, 25, 26, 27] [.int v4] [] C nd_Nj_splits_77 rfl ml_Nj_228 my_Club_standsStill (co_Club_standsStill (nj_club s) v4 w3 hV4) (em_Nj_Club s) ⟨_, _, _, rfl, rfl, rfl⟩ rfl rfl ⟨rfl, rfl, rfl, rfl⟩ (Nat.zero_le _) (Nat.zero_le _) rfl ?_
          refine vr_ifb_eq C nd_Nj_splits_80 (fun hc => ?_) (fun hc => ?_)
          · have h := no_bf hc h
            have h := no_s h
            subst h
            exact vr_wk [5] rfl hj
          · have h := no_bt hc h
            refine vr_al C nd_Nj_splits_83 rfl ?_
            refine vr_get (v := .ref 23) C nd_Nj_splits_84 rfl fl_Nj_24 (at_Nj_0 s) rfl ?_
            refine vr_al C nd_Nj_splits_87 rfl ?_
            refine vr_get (v := .ref 23) C nd_Nj_splits_88 rfl fl_Nj_24 (at_Nj_0 s) rfl ?_
            refine vr_get (v := .int (cl_inn (nj_club s))) C nd_Nj_splits_91 rfl fl_Nj_153 (at_Nj_23 s) rfl ?_
            refine vr_il C nd_Nj_splits_94 rfl ?_
            refine vr_ic C nd_Nj_splits_96 ?_
            refine vr_ixor C nd_Nj_splits_97 rfl ?_
            refine vr_iand C nd_Nj_splits_98 rfl ?_
            obtain ⟨w5, hV6, h⟩ := no_b h
            refine vr_cVip [23, 24, 25, 26, 27] [.int ((cl_inn (nj_club s)) &&& (v4 ^^^ (-1 : Int32)))] [] C nd_Nj_splits_99 rfl ml_Nj_228 my_Club_standsStill (co_Club_standsStill (nj_club s) ((cl_inn (nj_club s)) &&& (v4 ^^^ (-1 : Int32))) w5 hV6) (em_Nj_Club s) ⟨_, _, _, rfl, rfl, rfl⟩ rfl rfl ⟨rfl, rfl, rfl, rfl⟩ (Nat.zero_le _) (Nat.zero_le _) rfl ?_
            refine vr_ifb_eq C nd_Nj_splits_102 (fun hc => ?_) (fun hc => ?_)
            · have h := no_bf hc h
              have h := no_s h
              subst h
              exact vr_wk [5] rfl hj
            · have h := no_bt hc h
              refine vr_inc (v := (v2 + (1 : Int32))) (ls' := [some (.ref 0), some (.int f1), some (.int (v2 + (1 : Int32))), some (.int v3), some (.int v4), some (.int p1)]) C nd_Nj_splits_105 rfl rfl rfl rfl rfl ?_
              refine vr_il C nd_Nj_splits_108 rfl ?_
              refine vr_ic C nd_Nj_splits_109 ?_
              refine vr_cm_ne C nd_Nj_splits_111 (fun hc => ?_) (fun hc => ?_)
              · have h := no_f hc h
                have h := no_s h
                subst h
                exact vr_wk [5] rfl hj
              · have h := no_t hc h
                refine vr_il C nd_Nj_splits_114 rfl ?_
                refine vr_is (ls' := [some (.ref 0), some (.int f1), some (.int (v2 + (1 : Int32))), some (.int v4), some (.int v4), some (.int p1)]) C nd_Nj_splits_116 rfl rfl ?_
                have h := no_s h
                subst h
                exact vr_wk [5] rfl hj
      clear h
      have h := hP8
      clear hP8
      refine vr_if_ne C nd_Nj_splits_49 (fun hc => ?_) (fun hc => ?_)
      · have h := no_f hc h
        refine vr_ic C nd_Nj_splits_63 ?_
        have h := no_s h
        subst h
        exact hj
      · have h := no_t hc h
        refine vr_il C nd_Nj_splits_52 rfl ?_
        refine vr_il C nd_Nj_splits_54 rfl ?_
        refine vr_iand C nd_Nj_splits_55 rfl ?_
        refine vr_if_eq C nd_Nj_splits_56 (fun hc => ?_) (fun hc => ?_)
        · have h := no_t hc h
          refine vr_ic C nd_Nj_splits_63 ?_
          have h := no_s h
          subst h
          exact hj
        · have h := no_f hc h
          refine vr_ic C nd_Nj_splits_59 ?_
          refine vr_go C nd_Nj_splits_60 ?_
          have h := no_s h
          subst h
          exact hj
theorem co_Nj_splits (s : NjS) (x : Int32 × NjS) (h : mo_Nj_splits s = some x) : nj_Con ny_Nj_splits nb_Nj_splits 6 (some .int) nr_Nj_splits (rp_Nj s) [.ref 0] (some (.int (x.1))) (rp_Nj (x.2)) := by
  rw [mo_Nj_splits] at h
  refine nj_con (by decide) rfl 5 rfl (fun G ad C hq => ?_)
  have C : nj_C G nb_Nj_splits 6 "NobodyJoins" nr_Nj_splits := C
  show nj_V G ad 0 0 0 [some (.ref 0), none, none, none, none, none] [] (rp_Nj s)
  refine vr_al C nd_Nj_splits_0 rfl ?_
  refine vr_get (v := .ref 23) C nd_Nj_splits_1 rfl fl_Nj_24 (at_Nj_0 s) rfl ?_
  refine vr_get (v := .int (cl_inn (nj_club s))) C nd_Nj_splits_4 rfl fl_Nj_153 (at_Nj_23 s) rfl ?_
  refine vr_al C nd_Nj_splits_7 rfl ?_
  refine vr_get (v := .ref 23) C nd_Nj_splits_8 rfl fl_Nj_24 (at_Nj_0 s) rfl ?_
  refine vr_get (v := .int (cl_inn (nj_club s))) C nd_Nj_splits_11 rfl fl_Nj_153 (at_Nj_23 s) rfl ?_
  refine vr_ineg C nd_Nj_splits_14 rfl ?_
  refine vr_iand C nd_Nj_splits_15 rfl ?_
  refine vr_is (ls' := [some (.ref 0), some (.int ((cl_inn (nj_club s)) &&& (-(cl_inn (nj_club s))))), none, none, none, none]) C nd_Nj_splits_16 rfl rfl ?_
  refine vr_ic C nd_Nj_splits_17 ?_
  refine vr_is (ls' := [some (.ref 0), some (.int ((cl_inn (nj_club s)) &&& (-(cl_inn (nj_club s))))), some (.int (0 : Int32)), none, none, none]) C nd_Nj_splits_18 rfl rfl ?_
  refine vr_ic C nd_Nj_splits_19 ?_
  refine vr_is (ls' := [some (.ref 0), some (.int ((cl_inn (nj_club s)) &&& (-(cl_inn (nj_club s))))), some (.int (0 : Int32)), some (.int (-9 : Int32)), none, none]) C nd_Nj_splits_21 rfl rfl ?_
  refine vr_ic C nd_Nj_splits_22 ?_
  refine vr_is (ls' := [some (.ref 0), some (.int ((cl_inn (nj_club s)) &&& (-(cl_inn (nj_club s))))), some (.int (0 : Int32)), some (.int (-9 : Int32)), some (.int (1 : Int32)), none]) C nd_Nj_splits_23 rfl rfl ?_
  obtain ⟨x9, hX10, h⟩ := no_b h
  refine lw_Nj_splits_25 C s ((cl_inn (nj_club s)) &&& (-(cl_inn (nj_club s)))) nj_fu _ _ _ x9 hX10 ?_
  refine vr_al C nd_Nj_splits_123 rfl ?_
  refine vr_il C nd_Nj_splits_124 rfl ?_
  refine vr_puti (hp' := (rp_Nj (ns_an s (x9.2)))) C nd_Nj_splits_125 rfl fl_Nj_57 (at_Nj_0 s) rfl (st_Nj_0_9 s (x9.2)) ?_
  refine vr_il C nd_Nj_splits_128 rfl ?_
  have h := no_s h
  subst h
  exact vr_iret C hq nd_Nj_splits_129 rfl
abbrev nr_Nj_peace : Room := { frames := 7, cells := 0, slots := 0, locals := 163 }
theorem co_Nj_peace (s : NjS) (x : Int32 × NjS) (h : mo_Nj_peace s = some x) : nj_Con ny_Nj_peace nb_Nj_peace 3 (some .int) nr_Nj_peace (rp_Nj s) [.ref 0] (some (.int (x.1))) (rp_Nj (x.2)) := by
  rw [mo_Nj_peace] at h
  refine nj_con (by decide) rfl 2 rfl (fun G ad C hq => ?_)
  have C : nj_C G nb_Nj_peace 3 "NobodyJoins" nr_Nj_peace := C
  show nj_V G ad 0 0 0 [some (.ref 0), none, none] [] (rp_Nj s)
  refine vr_al C nd_Nj_peace_0 rfl ?_
  refine vr_get (v := .ref 23) C nd_Nj_peace_1 rfl fl_Nj_24 (at_Nj_0 s) rfl ?_
  refine vr_get (v := .int (cl_children (nj_club s))) C nd_Nj_peace_4 rfl fl_Nj_132 (at_Nj_23 s) rfl ?_
  refine vr_if_ne C nd_Nj_peace_7 (fun hc => ?_) (fun hc => ?_)
  · have h := no_f hc h
    refine vr_ic C nd_Nj_peace_13 ?_
    refine vr_is (ls' := [some (.ref 0), some (.int (0 : Int32)), none]) C nd_Nj_peace_14 rfl rfl ?_
    refine vr_al C nd_Nj_peace_15 rfl ?_
    refine vr_get (v := .ref 23) C nd_Nj_peace_16 rfl fl_Nj_24 (at_Nj_0 s) rfl ?_
    refine vr_al C nd_Nj_peace_19 rfl ?_
    refine vr_get (v := .ref 23) C nd_Nj_peace_20 rfl fl_Nj_24 (at_Nj_0 s) rfl ?_
    refine vr_get (v := .int (cl_inn (nj_club s))) C nd_Nj_peace_23 rfl fl_Nj_153 (at_Nj_23 s) rfl ?_
    obtain ⟨w1, hV2, h⟩ := no_b h
    refine vr_cVip [23, 24, 25, 26, 27] [.int (cl_inn (nj_club s))] [] C nd_Nj_peace_26 rfl ml_Nj_228 my_Club_standsStill (co_Club_standsStill (nj_club s) (cl_inn (nj_club s)) w1 hV2) (em_Nj_Club s) ⟨_, _, _, rfl, rfl, rfl⟩ rfl rfl ⟨rfl, rfl, rfl, rfl⟩ (Nat.zero_le _) (Nat.zero_le _) rfl ?_
    obtain ⟨p3, hP12, h⟩ := no_b h
    have hj : nj_V G ad 0 0 38 [some (.ref 0), some (.int (0 : Int32)), none] [.int p3] (rp_Nj s) := by
      refine vr_is (ls' := [some (.ref 0), some (.int (0 : Int32)), some (.int p3)]) C nd_Nj_peace_38 rfl rfl ?_
      refine vr_il C nd_Nj_peace_39 rfl ?_
      refine vr_ic C nd_Nj_peace_40 ?_
      obtain ⟨p4, hP11, h⟩ := no_b h
      have hj : nj_V G ad 0 0 56 [some (.ref 0), some (.int (p4.1)), some (.int (p4.2.1))] [] (rp_Nj (p4.2.2)) := by
        refine vr_il C nd_Nj_peace_56 rfl ?_
        refine vr_ic C nd_Nj_peace_57 ?_
        obtain ⟨p7, hP10, h⟩ := no_b h
        have hj : nj_V G ad 0 0 72 [some (.ref 0), some (.int (p7.1)), some (.int (p7.2.1))] [] (rp_Nj (p7.2.2)) := by
          refine vr_il C nd_Nj_peace_72 rfl ?_
          refine vr_ic C nd_Nj_peace_73 ?_
          refine vr_cm_ne C nd_Nj_peace_75 (fun hc => ?_) (fun hc => ?_)
          · have h := no_f hc h
            refine vr_al C nd_Nj_peace_81 rfl ?_
            refine vr_il C nd_Nj_peace_82 rfl ?_
            refine vr_puti (hp' := (rp_Nj (ns_an (p7.2.2) (p7.2.1)))) C nd_Nj_peace_83 rfl fl_Nj_57 (at_Nj_0 (p7.2.2)) rfl (st_Nj_0_9 (p7.2.2) (p7.2.1)) ?_
            refine vr_il C nd_Nj_peace_86 rfl ?_
            have h := no_s h
            subst h
            exact vr_iret C hq nd_Nj_peace_87 rfl
          · have h := no_t hc h
            refine vr_ic C nd_Nj_peace_78 ?_
            have h := no_s h
            subst h
            exact vr_iret C hq nd_Nj_peace_80 rfl
        clear h
        have h := hP10
        clear hP10
        refine vr_cm_ne C nd_Nj_peace_59 (fun hc => ?_) (fun hc => ?_)
        · have h := no_f hc h
          have h := no_s h
          subst h
          exact hj
        · have h := no_t hc h
          refine vr_ic C nd_Nj_peace_62 ?_
          refine vr_is (ls' := [some (.ref 0), some (.int (2 : Int32)), some (.int (p4.2.1))]) C nd_Nj_peace_63 rfl rfl ?_
          refine vr_al C nd_Nj_peace_64 rfl ?_
          refine vr_get (v := .ref 23) C nd_Nj_peace_65 rfl fl_Nj_24 (at_Nj_0 (p4.2.2)) rfl ?_
          obtain ⟨w8, hV9, h⟩ := no_b h
          refine vr_cSi (hp' := (rp_Nj (ns_club (p4.2.2) (w8.2)))) [23, 24, 25, 26, 27] [.ref 0] [] C nd_Nj_peace_68 rfl ml_Nj_246 my_Peace_firstTwoGrudges (co_Peace_firstTwoGrudges (nj_club (p4.2.2)) w8 hV9) (em_Nj_Club (p4.2.2)) rfl rfl ⟨rfl, rfl, rfl, rfl⟩ (Nat.zero_le _) (Nat.zero_le _) rfl (pa_Nj_Club (p4.2.2) (w8.2)) ?_
          refine vr_is (ls' := [some (.ref 0), some (.int (2 : Int32)), some (.int (w8.1))]) C nd_Nj_peace_71 rfl rfl ?_
          have h := no_s h
          subst h
          exact hj
      clear h
      have h := hP11
      clear hP11
      refine vr_cm_ne C nd_Nj_peace_42 (fun hc => ?_) (fun hc => ?_)
      · have h := no_f hc h
        have h := no_s h
        subst h
        exact hj
      · have h := no_t hc h
        refine vr_ic C nd_Nj_peace_45 ?_
        refine vr_is (ls' := [some (.ref 0), some (.int (1 : Int32)), some (.int p3)]) C nd_Nj_peace_46 rfl rfl ?_
        refine vr_al C nd_Nj_peace_47 rfl ?_
        refine vr_get (v := .ref 23) C nd_Nj_peace_48 rfl fl_Nj_24 (at_Nj_0 s) rfl ?_
        refine vr_ic C nd_Nj_peace_51 ?_
        obtain ⟨w5, hV6, h⟩ := no_b h
        refine vr_cSi (hp' := (rp_Nj (ns_club s (w5.2)))) [23, 24, 25, 26, 27] [.ref 0, .int (0 : Int32)] [] C nd_Nj_peace_52 rfl ml_Nj_241 my_Peace_firstGrudge (co_Peace_firstGrudge (nj_club s) (0 : Int32) w5 hV6) (em_Nj_Club s) rfl rfl ⟨rfl, rfl, rfl, rfl⟩ (Nat.zero_le _) (Nat.zero_le _) rfl (pa_Nj_Club s (w5.2)) ?_
        refine vr_is (ls' := [some (.ref 0), some (.int (1 : Int32)), some (.int (w5.1))]) C nd_Nj_peace_55 rfl rfl ?_
        have h := no_s h
        subst h
        exact hj
    clear h
    have h := hP12
    clear hP12
    refine vr_ifb_eq C nd_Nj_peace_29 (fun hc => ?_) (fun hc => ?_)
    · have h := no_bf hc h
      refine vr_ic C nd_Nj_peace_36 ?_
      have h := no_s h
      subst h
      exact hj
    · have h := no_bt hc h
      refine vr_ic C nd_Nj_peace_32 ?_
      refine vr_go C nd_Nj_peace_33 ?_
      have h := no_s h
      subst h
      exact hj
  · have h := no_t hc h
    refine vr_ic C nd_Nj_peace_10 ?_
    have h := no_s h
    subst h
    exact vr_iret C hq nd_Nj_peace_12 rfl
abbrev nr_Nj_tellPart : Room := { frames := 1, cells := 0, slots := 0, locals := 26 }
theorem co_Nj_tellPart (s : NjS) (a1 : Int64) (a3 : Int64) (x : NjS) (h : mo_Nj_tellPart s a1 a3 = some x) : nj_Con ny_Nj_tellPart nb_Nj_tellPart 7 none nr_Nj_tellPart (rp_Nj s) [.ref 0, .long a1, .long a3] none (rp_Nj x) := by
  rw [mo_Nj_tellPart] at h
  refine nj_con (by decide) rfl 2 rfl (fun G ad C hq => ?_)
  have C : nj_C G nb_Nj_tellPart 7 "NobodyJoins" nr_Nj_tellPart := C
  show nj_V G ad 0 0 0 [some (.ref 0), some (.long a1), none, some (.long a3), none, none, none] [] (rp_Nj s)
  refine vr_ll C nd_Nj_tellPart_0 rfl ?_
  refine vr_ll C nd_Nj_tellPart_1 rfl ?_
  obtain ⟨w1, hV2, h⟩ := no_b h
  refine vr_cSlp [] [.long a1, .long a3] [] C nd_Nj_tellPart_2 rfl ml_Nj_312 my_Sums_commonDivisor (co_Sums_commonDivisor a1 a3 w1 hV2) (em_E _) rfl rfl ⟨rfl, rfl, rfl, rfl⟩ (Nat.zero_le _) (Nat.zero_le _) rfl ?_
  refine vr_lst (ls' := [some (.ref 0), some (.long a1), none, some (.long a3), none, some (.long w1), none]) C nd_Nj_tellPart_5 rfl rfl ?_
  refine vr_ll C nd_Nj_tellPart_7 rfl ?_
  refine vr_lc (v := (0 : Int64)) C nd_Nj_tellPart_9 rfl (by decide) ?_
  refine vr_lif_le C nd_Nj_tellPart_10 rfl nd_Nj_tellPart_11 (fun hc => ?_) (fun hc => ?_)
  · have h := no_t hc h
    have h := no_s h
    subst h
    exact vr_vret C hq nd_Nj_tellPart_30 rfl
  · have h := no_f hc h
    refine vr_al C nd_Nj_tellPart_14 rfl ?_
    refine vr_ll C nd_Nj_tellPart_15 rfl ?_
    refine vr_ll C nd_Nj_tellPart_16 rfl ?_
    obtain ⟨hN3, h⟩ := no_if h
    refine vr_ldiv C nd_Nj_tellPart_18 rfl hN3 ?_
    refine vr_putl (hp' := (rp_Nj (ns_up s (a1 / w1)))) C nd_Nj_tellPart_19 rfl fl_Nj_60 (at_Nj_0 s) rfl (st_Nj_0_10 s (a1 / w1)) ?_
    refine vr_al C nd_Nj_tellPart_22 rfl ?_
    refine vr_ll C nd_Nj_tellPart_23 rfl ?_
    refine vr_ll C nd_Nj_tellPart_24 rfl ?_
    obtain ⟨hN4, h⟩ := no_if h
    refine vr_ldiv C nd_Nj_tellPart_26 rfl hN4 ?_
    refine vr_putl (hp' := (rp_Nj (ns_lo (ns_up s (a1 / w1)) (a3 / w1)))) C nd_Nj_tellPart_27 rfl fl_Nj_64 (at_Nj_0 (ns_up s (a1 / w1))) rfl (st_Nj_0_11 (ns_up s (a1 / w1)) (a3 / w1)) ?_
    have h := no_s h
    subst h
    exact vr_vret C hq nd_Nj_tellPart_30 rfl
abbrev nr_Nj_power : Room := { frames := 3, cells := 0, slots := 0, locals := 72 }
theorem co_Nj_power (s : NjS) (a1 : Int32) (x : Int32 × NjS) (h : mo_Nj_power s a1 = some x) : nj_Con ny_Nj_power nb_Nj_power 3 (some .int) nr_Nj_power (rp_Nj s) [.ref 0, .int a1] (some (.int (x.1))) (rp_Nj (x.2)) := by
  rw [mo_Nj_power] at h
  refine nj_con (by decide) rfl 1 rfl (fun G ad C hq => ?_)
  have C : nj_C G nb_Nj_power 3 "NobodyJoins" nr_Nj_power := C
  show nj_V G ad 0 0 0 [some (.ref 0), some (.int a1), none] [] (rp_Nj s)
  refine vr_al C nd_Nj_power_0 rfl ?_
  refine vr_il C nd_Nj_power_1 rfl ?_
  obtain ⟨w1, hV2, h⟩ := no_b h
  refine vr_sVi (hp' := (rp_Nj s)) [.int a1] [] C nd_Nj_power_2 rfl ml_Nj_192 my_Nj_refusalOfOneIn (co_Nj_refusalOfOneIn s a1 w1 hV2) ⟨_, _, _, rfl, rfl, rfl⟩ rfl rfl ⟨rfl, rfl, rfl, rfl⟩ (Nat.zero_le _) (Nat.zero_le _) rfl ?_
  refine vr_is (ls' := [some (.ref 0), some (.int a1), some (.int w1)]) C nd_Nj_power_5 rfl rfl ?_
  refine vr_il C nd_Nj_power_6 rfl ?_
  refine vr_if_eq C nd_Nj_power_7 (fun hc => ?_) (fun hc => ?_)
  · have h := no_t hc h
    refine vr_al C nd_Nj_power_12 rfl ?_
    refine vr_get (v := .ref 23) C nd_Nj_power_13 rfl fl_Nj_24 (at_Nj_0 s) rfl ?_
    refine vr_al C nd_Nj_power_16 rfl ?_
    refine vr_get (v := .ref 23) C nd_Nj_power_17 rfl fl_Nj_24 (at_Nj_0 s) rfl ?_
    refine vr_get (v := .int (cl_inn (nj_club s))) C nd_Nj_power_20 rfl fl_Nj_153 (at_Nj_23 s) rfl ?_
    obtain ⟨w3, hV4, h⟩ := no_b h
    refine vr_cVip [23, 24, 25, 26, 27] [.int (cl_inn (nj_club s))] [] C nd_Nj_power_23 rfl ml_Nj_199 my_Club_votesOfSet (co_Club_votesOfSet (nj_club s) (cl_inn (nj_club s)) w3 hV4) (em_Nj_Club s) ⟨_, _, _, rfl, rfl, rfl⟩ rfl rfl ⟨rfl, rfl, rfl, rfl⟩ (Nat.zero_le _) (Nat.zero_le _) rfl ?_
    refine vr_if_ne C nd_Nj_power_26 (fun hc => ?_) (fun hc => ?_)
    · have h := no_f hc h
      refine vr_al C nd_Nj_power_32 rfl ?_
      refine vr_al C nd_Nj_power_33 rfl ?_
      refine vr_get (v := .ref 23) C nd_Nj_power_34 rfl fl_Nj_24 (at_Nj_0 s) rfl ?_
      refine vr_il C nd_Nj_power_37 rfl ?_
      obtain ⟨w5, hV6, h⟩ := no_b h
      refine vr_cSip [23, 24, 25, 26, 27] [.ref 0, .int a1] [.ref 0] C nd_Nj_power_38 rfl ml_Nj_249 my_Sums_decidedBy (co_Sums_decidedBy (nj_club s) a1 w5 hV6) (em_Nj_Club s) rfl rfl ⟨rfl, rfl, rfl, rfl⟩ (Nat.zero_le _) (Nat.zero_le _) rfl ?_
      refine vr_i2l C nd_Nj_power_41 rfl ?_
      refine vr_gs2 C rfl nd_Nj_power_42 rfl fl_Nj_254 ?_
      refine vr_al C nd_Nj_power_45 rfl ?_
      refine vr_get (v := .ref 23) C nd_Nj_power_46 rfl fl_Nj_24 (at_Nj_0 s) rfl ?_
      refine vr_get (v := .int (cl_inn (nj_club s))) C nd_Nj_power_49 rfl fl_Nj_153 (at_Nj_23 s) rfl ?_
      obtain ⟨w7, hV8, h⟩ := no_b h
      refine vr_cSip [] [.int (cl_inn (nj_club s))] [.ref 1002, .long (Int32.toInt64 w5), .ref 0] C nd_Nj_power_52 rfl ml_Nj_162 my_Integer_bitCount (co_Integer_bitCount (cl_inn (nj_club s)) w7 hV8) (em_E _) rfl rfl ⟨rfl, rfl, rfl, rfl⟩ (Nat.zero_le _) (Nat.zero_le _) rfl ?_
      obtain ⟨hN9, h⟩ := no_i h
      refine vr_sld2 C nd_Nj_power_55 rfl hN9 ?_
      refine vr_i2l C nd_Nj_power_56 rfl ?_
      obtain ⟨w10, hV11, h⟩ := no_b h
      refine vr_sVv (hp' := (rp_Nj w10)) [.long (Int32.toInt64 w5), .long (Int32.toInt64 (nj_fa (nj_n w7)))] [] C nd_Nj_power_57 rfl ml_Nj_257 my_Nj_tellPart (co_Nj_tellPart s (Int32.toInt64 w5) (Int32.toInt64 (nj_fa (nj_n w7))) w10 hV11) ⟨_, _, _, rfl, rfl, rfl⟩ rfl rfl ⟨rfl, rfl, rfl, rfl⟩ (Nat.zero_le _) (Nat.zero_le _) rfl ?_
      refine vr_ic C nd_Nj_power_60 ?_
      have h := no_s h
      subst h
      exact vr_iret C hq nd_Nj_power_61 rfl
    · have h := no_t hc h
      refine vr_ic C nd_Nj_power_29 ?_
      have h := no_s h
      subst h
      exact vr_iret C hq nd_Nj_power_31 rfl
  · have h := no_f hc h
    refine vr_il C nd_Nj_power_10 rfl ?_
    have h := no_s h
    subst h
    exact vr_iret C hq nd_Nj_power_11 rfl
abbrev nr_Nj_share : Room := { frames := 2, cells := 0, slots := 0, locals := 43 }
theorem lw_Nj_share_17 {G : nj_G} {ad : Nat → Nat} (C : nj_C G nb_Nj_share 5 "NobodyJoins" nr_Nj_share) (s : NjS) (f1 : Int32) : ∀ (n : Nat) (v3 : Int32) (v4 : Int32) (x : Int32), lo_Nj_share_17 s f1 n v3 v4 = some x → nj_V G ad 0 0 76 [some (.ref 0), some (.int f1), none, some (.int x), none] [] (rp_Nj s) → nj_V G ad 0 0 17 [some (.ref 0), some (.int f1), none, some (.int v3), some (.int v4)] [] (rp_Nj s) := by
  intro n
  induction n with
  | zero => intro v3 v4 x h; rw [lo_Nj_share_17] at h; cases h
  | succ n ih =>
    intro v3 v4 x h hk
    rw [lo_Nj_share_17] at h
    refine vr_il C nd_Nj_share_17 rfl ?_
    refine vr_al C nd_Nj_share_19 rfl ?_
    refine vr_get (v := .ref 23) C nd_Nj_share_20 rfl fl_Nj_24 (at_Nj_0 s) rfl ?_
    refine vr_get (v := .int (cl_children (nj_club s))) C nd_Nj_share_23 rfl fl_Nj_132 (at_Nj_23 s) rfl ?_
    refine vr_cm_ge C nd_Nj_share_26 (fun hc => ?_) (fun hc => ?_)
    · have h := no_t hc h
      have h := no_s h
      subst h
      exact vr_wk [4] rfl hk
    · have h := no_f hc h
      refine vr_al C nd_Nj_share_29 rfl ?_
      refine vr_get (v := .ref 23) C nd_Nj_share_30 rfl fl_Nj_24 (at_Nj_0 s) rfl ?_
      refine vr_il C nd_Nj_share_33 rfl ?_
      obtain ⟨w3, hV4, h⟩ := no_b h
      refine vr_cVip [23, 24, 25, 26, 27] [.int v4] [] C nd_Nj_share_35 rfl ml_Nj_206 my_Club_isIn (co_Club_isIn (nj_club s) v4 w3 hV4) (em_Nj_Club s) ⟨_, _, _, rfl, rfl, rfl⟩ rfl rfl ⟨rfl, rfl, rfl, rfl⟩ (Nat.zero_le _) (Nat.zero_le _) rfl ?_
      obtain ⟨p5, hP9, h⟩ := no_b h
      have hj : nj_V G ad 0 0 70 [some (.ref 0), some (.int f1), none, some (.int p5), some (.int v4)] [] (rp_Nj s) := by
        refine vr_inc (v := (v4 + (1 : Int32))) (ls' := [some (.ref 0), some (.int f1), none, some (.int p5), some (.int (v4 + (1 : Int32)))]) C nd_Nj_share_70 rfl rfl rfl rfl rfl ?_
        refine vr_go C nd_Nj_share_73 ?_
        exact (ih _ _ _ h hk)
      clear h
      have h := hP9
      clear hP9
      refine vr_ifb_eq C nd_Nj_share_38 (fun hc => ?_) (fun hc => ?_)
      · have h := no_bf hc h
        have h := no_s h
        subst h
        exact hj
      · have h := no_bt hc h
        refine vr_al C nd_Nj_share_41 rfl ?_
        refine vr_get (v := .ref 23) C nd_Nj_share_42 rfl fl_Nj_24 (at_Nj_0 s) rfl ?_
        refine vr_get (v := .ref 26) C nd_Nj_share_45 rfl fl_Nj_183 (at_Nj_23 s) rfl ?_
        refine vr_il C nd_Nj_share_48 rfl ?_
        obtain ⟨hN6, h⟩ := no_i h
        refine vr_ialk (j := (nj_n f1)) (f := (cl_liked (nj_club s))) C nd_Nj_share_49 rfl (at_Nj_26 s) hN6 rfl ?_
        refine vr_ic C nd_Nj_share_50 ?_
        refine vr_il C nd_Nj_share_51 rfl ?_
        refine vr_ishl C nd_Nj_share_53 rfl ?_
        refine vr_iand C nd_Nj_share_54 rfl ?_
        refine vr_if_eq C nd_Nj_share_55 (fun hc => ?_) (fun hc => ?_)
        · have h := no_t hc h
          have h := no_s h
          subst h
          exact hj
        · have h := no_f hc h
          refine vr_il C nd_Nj_share_58 rfl ?_
          refine vr_al C nd_Nj_share_59 rfl ?_
          refine vr_get (v := .ref 23) C nd_Nj_share_60 rfl fl_Nj_24 (at_Nj_0 s) rfl ?_
          refine vr_il C nd_Nj_share_63 rfl ?_
          obtain ⟨w7, hV8, h⟩ := no_b h
          refine vr_cVip [23, 24, 25, 26, 27] [.int v4] [.int v3] C nd_Nj_share_65 rfl ml_Nj_261 my_Club_shareOf (co_Club_shareOf (nj_club s) v4 w7 hV8) (em_Nj_Club s) ⟨_, _, _, rfl, rfl, rfl⟩ rfl rfl ⟨rfl, rfl, rfl, rfl⟩ (Nat.zero_le _) (Nat.zero_le _) rfl ?_
          refine vr_iadd C nd_Nj_share_68 rfl ?_
          refine vr_is (ls' := [some (.ref 0), some (.int f1), none, some (.int (v3 + w7)), some (.int v4)]) C nd_Nj_share_69 rfl rfl ?_
          have h := no_s h
          subst h
          exact hj
theorem co_Nj_share (s : NjS) (a1 : Int32) (x : Int32 × NjS) (h : mo_Nj_share s a1 = some x) : nj_Con ny_Nj_share nb_Nj_share 5 (some .int) nr_Nj_share (rp_Nj s) [.ref 0, .int a1] (some (.int (x.1))) (rp_Nj (x.2)) := by
  rw [mo_Nj_share] at h
  refine nj_con (by decide) rfl 3 rfl (fun G ad C hq => ?_)
  have C : nj_C G nb_Nj_share 5 "NobodyJoins" nr_Nj_share := C
  show nj_V G ad 0 0 0 [some (.ref 0), some (.int a1), none, none, none] [] (rp_Nj s)
  refine vr_al C nd_Nj_share_0 rfl ?_
  refine vr_il C nd_Nj_share_1 rfl ?_
  obtain ⟨w1, hV2, h⟩ := no_b h
  refine vr_sVi (hp' := (rp_Nj s)) [.int a1] [] C nd_Nj_share_2 rfl ml_Nj_192 my_Nj_refusalOfOneIn (co_Nj_refusalOfOneIn s a1 w1 hV2) ⟨_, _, _, rfl, rfl, rfl⟩ rfl rfl ⟨rfl, rfl, rfl, rfl⟩ (Nat.zero_le _) (Nat.zero_le _) rfl ?_
  refine vr_is (ls' := [some (.ref 0), some (.int a1), some (.int w1), none, none]) C nd_Nj_share_5 rfl rfl ?_
  refine vr_il C nd_Nj_share_6 rfl ?_
  refine vr_if_eq C nd_Nj_share_7 (fun hc => ?_) (fun hc => ?_)
  · have h := no_t hc h
    refine vr_ic C nd_Nj_share_12 ?_
    refine vr_is (ls' := [some (.ref 0), some (.int a1), some (.int w1), some (.int (0 : Int32)), none]) C nd_Nj_share_13 rfl rfl ?_
    refine vr_ic C nd_Nj_share_14 ?_
    refine vr_is (ls' := [some (.ref 0), some (.int a1), some (.int w1), some (.int (0 : Int32)), some (.int (0 : Int32))]) C nd_Nj_share_15 rfl rfl ?_
    refine vr_wk (ls' := [some (.ref 0), some (.int a1), none, some (.int (0 : Int32)), some (.int (0 : Int32))]) [2] rfl ?_
    obtain ⟨x10, hX11, h⟩ := no_b h
    refine lw_Nj_share_17 C s a1 nj_fu _ _ x10 hX11 ?_
    refine vr_al C nd_Nj_share_76 rfl ?_
    refine vr_il C nd_Nj_share_77 rfl ?_
    refine vr_puti (hp' := (rp_Nj (ns_an s x10))) C nd_Nj_share_78 rfl fl_Nj_57 (at_Nj_0 s) rfl (st_Nj_0_9 s x10) ?_
    refine vr_al C nd_Nj_share_81 rfl ?_
    refine vr_get (v := .ref 23) C nd_Nj_share_82 rfl fl_Nj_24 (at_Nj_0 (ns_an s x10)) rfl ?_
    refine vr_il C nd_Nj_share_85 rfl ?_
    obtain ⟨w12, hV13, h⟩ := no_b h
    refine vr_cVip [23, 24, 25, 26, 27] [.int a1] [] C nd_Nj_share_86 rfl ml_Nj_261 my_Club_shareOf (co_Club_shareOf (nj_club s) a1 w12 hV13) (em_Nj_Club (ns_an s x10)) ⟨_, _, _, rfl, rfl, rfl⟩ rfl rfl ⟨rfl, rfl, rfl, rfl⟩ (Nat.zero_le _) (Nat.zero_le _) rfl ?_
    have h := no_s h
    subst h
    exact vr_iret C hq nd_Nj_share_89 rfl
  · have h := no_f hc h
    refine vr_il C nd_Nj_share_10 rfl ?_
    have h := no_s h
    subst h
    exact vr_iret C hq nd_Nj_share_11 rfl
abbrev nr_Nj_secrets : Room := { frames := 1, cells := 0, slots := 0, locals := 20 }
theorem lw_Nj_secrets_26 {G : nj_G} {ad : Nat → Nat} (C : nj_C G nb_Nj_secrets 3 "NobodyJoins" nr_Nj_secrets) (s : NjS) (f1 : Int32) : ∀ (n : Nat) (v2 : Int32) (x : Int32), lo_Nj_secrets_26 s f1 n v2 = some x → nj_V G ad 0 0 45 [none, none, some (.int x)] [] (rp_Nj s) → nj_V G ad 0 0 26 [none, some (.int f1), some (.int v2)] [] (rp_Nj s) := by
  intro n
  induction n with
  | zero => intro v2 x h; rw [lo_Nj_secrets_26] at h; cases h
  | succ n ih =>
    intro v2 x h hk
    rw [lo_Nj_secrets_26] at h
    refine vr_il C nd_Nj_secrets_26 rfl ?_
    refine vr_ic C nd_Nj_secrets_27 ?_
    refine vr_cm_ge C nd_Nj_secrets_29 (fun hc => ?_) (fun hc => ?_)
    · have h := no_t hc h
      have h := no_s h
      subst h
      exact vr_wk [1] rfl hk
    · have h := no_f hc h
      refine vr_ic C nd_Nj_secrets_32 ?_
      refine vr_il C nd_Nj_secrets_33 rfl ?_
      refine vr_ishl C nd_Nj_secrets_34 rfl ?_
      refine vr_il C nd_Nj_secrets_35 rfl ?_
      refine vr_cm_ge C nd_Nj_secrets_36 (fun hc => ?_) (fun hc => ?_)
      · have h := no_t hc h
        have h := no_s h
        subst h
        exact vr_wk [1] rfl hk
      · have h := no_f hc h
        refine vr_inc (v := (v2 + (1 : Int32))) (ls' := [none, some (.int f1), some (.int (v2 + (1 : Int32)))]) C nd_Nj_secrets_39 rfl rfl rfl rfl rfl ?_
        refine vr_go C nd_Nj_secrets_42 ?_
        exact (ih _ _ h hk)
theorem co_Nj_secrets (s : NjS) (x : Int32) (h : mo_Nj_secrets s = some x) : nj_Con ny_Nj_secrets nb_Nj_secrets 3 (some .int) nr_Nj_secrets (rp_Nj s) [.ref 0] (some (.int x)) (rp_Nj s) := by
  rw [mo_Nj_secrets] at h
  refine nj_con (by decide) rfl 2 rfl (fun G ad C hq => ?_)
  have C : nj_C G nb_Nj_secrets 3 "NobodyJoins" nr_Nj_secrets := C
  show nj_V G ad 0 0 0 [some (.ref 0), none, none] [] (rp_Nj s)
  refine vr_al C nd_Nj_secrets_0 rfl ?_
  refine vr_get (v := .ref 23) C nd_Nj_secrets_1 rfl fl_Nj_24 (at_Nj_0 s) rfl ?_
  refine vr_get (v := .int (cl_inn (nj_club s))) C nd_Nj_secrets_4 rfl fl_Nj_153 (at_Nj_23 s) rfl ?_
  refine vr_if_ne C nd_Nj_secrets_7 (fun hc => ?_) (fun hc => ?_)
  · have h := no_f hc h
    refine vr_al C nd_Nj_secrets_13 rfl ?_
    refine vr_get (v := .ref 23) C nd_Nj_secrets_14 rfl fl_Nj_24 (at_Nj_0 s) rfl ?_
    refine vr_get (v := .int (cl_inn (nj_club s))) C nd_Nj_secrets_17 rfl fl_Nj_153 (at_Nj_23 s) rfl ?_
    obtain ⟨w1, hV2, h⟩ := no_b h
    refine vr_cSip [] [.int (cl_inn (nj_club s))] [] C nd_Nj_secrets_20 rfl ml_Nj_162 my_Integer_bitCount (co_Integer_bitCount (cl_inn (nj_club s)) w1 hV2) (em_E _) rfl rfl ⟨rfl, rfl, rfl, rfl⟩ (Nat.zero_le _) (Nat.zero_le _) rfl ?_
    refine vr_is (ls' := [some (.ref 0), some (.int w1), none]) C nd_Nj_secrets_23 rfl rfl ?_
    refine vr_ic C nd_Nj_secrets_24 ?_
    refine vr_is (ls' := [some (.ref 0), some (.int w1), some (.int (0 : Int32))]) C nd_Nj_secrets_25 rfl rfl ?_
    refine vr_wk (ls' := [none, some (.int w1), some (.int (0 : Int32))]) [0] rfl ?_
    obtain ⟨x3, hX4, h⟩ := no_b h
    refine lw_Nj_secrets_26 C s w1 nj_fu _ x3 hX4 ?_
    refine vr_il C nd_Nj_secrets_45 rfl ?_
    have h := no_s h
    subst h
    exact vr_iret C hq nd_Nj_secrets_46 rfl
  · have h := no_t hc h
    refine vr_ic C nd_Nj_secrets_10 ?_
    have h := no_s h
    subst h
    exact vr_iret C hq nd_Nj_secrets_12 rfl
abbrev nr_Nj_told : Room := { frames := 2, cells := 0, slots := 0, locals := 42 }
theorem co_Nj_told (s : NjS) (a1 : Int32) (x : Int32 × NjS) (h : mo_Nj_told s a1 = some x) : nj_Con ny_Nj_told nb_Nj_told 4 (some .int) nr_Nj_told (rp_Nj s) [.ref 0, .int a1] (some (.int (x.1))) (rp_Nj (x.2)) := by
  rw [mo_Nj_told] at h
  refine nj_con (by decide) rfl 2 rfl (fun G ad C hq => ?_)
  have C : nj_C G nb_Nj_told 4 "NobodyJoins" nr_Nj_told := C
  show nj_V G ad 0 0 0 [some (.ref 0), some (.int a1), none, none] [] (rp_Nj s)
  refine vr_al C nd_Nj_told_0 rfl ?_
  refine vr_il C nd_Nj_told_1 rfl ?_
  obtain ⟨w1, hV2, h⟩ := no_b h
  refine vr_sVi (hp' := (rp_Nj (w1.2))) [.int a1] [] C nd_Nj_told_2 rfl ml_Nj_231 my_Nj_refusalOfClubAndRow (co_Nj_refusalOfClubAndRow s a1 w1 hV2) ⟨_, _, _, rfl, rfl, rfl⟩ rfl rfl ⟨rfl, rfl, rfl, rfl⟩ (Nat.zero_le _) (Nat.zero_le _) rfl ?_
  refine vr_is (ls' := [some (.ref 0), some (.int a1), some (.int (w1.1)), none]) C nd_Nj_told_5 rfl rfl ?_
  refine vr_il C nd_Nj_told_6 rfl ?_
  refine vr_if_eq C nd_Nj_told_7 (fun hc => ?_) (fun hc => ?_)
  · have h := no_t hc h
    refine vr_al C nd_Nj_told_12 rfl ?_
    refine vr_get (v := .ref 1) C nd_Nj_told_13 rfl fl_Nj_11 (at_Nj_0 (w1.2)) rfl ?_
    refine vr_il C nd_Nj_told_16 rfl ?_
    obtain ⟨hN3, h⟩ := no_i h
    refine vr_aald3 (y := (2 + 2 * (nj_n a1))) C nd_Nj_told_17 rfl (at_Nj_1 (w1.2)) hN3 rfl ?_
    refine vr_as (ls' := [some (.ref 0), some (.int a1), some (.int (w1.1)), some (.ref (2 + 2 * (nj_n a1)))]) C nd_Nj_told_18 rfl rfl ?_
    refine vr_al C nd_Nj_told_19 rfl ?_
    refine vr_get (v := .int (ro_size ((nj_rows (w1.2)) (nj_n a1)))) C nd_Nj_told_20 rfl fl_Nj_92 (at_Nj_Row_0 (w1.2) (nj_n a1) (nj_lt_of hN3)) rfl ?_
    refine vr_ic C nd_Nj_told_23 ?_
    refine vr_irem C nd_Nj_told_24 rfl (by decide) ?_
    refine vr_if_eq C nd_Nj_told_25 (fun hc => ?_) (fun hc => ?_)
    · have h := no_t hc h
      refine vr_al C nd_Nj_told_34 rfl ?_
      refine vr_al C nd_Nj_told_35 rfl ?_
      refine vr_get (v := .ref 23) C nd_Nj_told_36 rfl fl_Nj_24 (at_Nj_0 (w1.2)) rfl ?_
      refine vr_get (v := .int (cl_children (nj_club (w1.2)))) C nd_Nj_told_39 rfl fl_Nj_132 (at_Nj_23 (w1.2)) rfl ?_
      obtain ⟨w4, hV5, h⟩ := no_b h
      refine vr_cSip [(2 + 2 * (nj_n a1)), (3 + 2 * (nj_n a1))] [.ref 0, .int (cl_children (nj_club (w1.2)))] [] C nd_Nj_told_42 rfl ml_Nj_264 my_Sums_namesSets (co_Sums_namesSets ((nj_rows (w1.2)) (nj_n a1)) (cl_children (nj_club (w1.2))) w4 hV5) (em_Nj_Row (w1.2) (nj_n a1) (nj_lt_of hN3)) rfl rfl ⟨rfl, rfl, rfl, rfl⟩ (Nat.zero_le _) (Nat.zero_le _) rfl ?_
      refine vr_ifb_ne C nd_Nj_told_45 (fun hc => ?_) (fun hc => ?_)
      · have h := no_bt hc h
        refine vr_al C nd_Nj_told_54 rfl ?_
        refine vr_al C nd_Nj_told_55 rfl ?_
        refine vr_get (v := .ref 23) C nd_Nj_told_56 rfl fl_Nj_24 (at_Nj_0 (w1.2)) rfl ?_
        refine vr_get (v := .int (cl_inn (nj_club (w1.2)))) C nd_Nj_told_59 rfl fl_Nj_153 (at_Nj_23 (w1.2)) rfl ?_
        obtain ⟨w6, hV7, h⟩ := no_b h
        refine vr_cSip [(2 + 2 * (nj_n a1)), (3 + 2 * (nj_n a1))] [.ref 0, .int (cl_inn (nj_club (w1.2)))] [] C nd_Nj_told_62 rfl ml_Nj_267 my_Sums_suspects (co_Sums_suspects ((nj_rows (w1.2)) (nj_n a1)) (cl_inn (nj_club (w1.2))) w6 hV7) (em_Nj_Row (w1.2) (nj_n a1) (nj_lt_of hN3)) rfl rfl ⟨rfl, rfl, rfl, rfl⟩ (Nat.zero_le _) (Nat.zero_le _) rfl ?_
        have h := no_s h
        subst h
        exact vr_iret C hq nd_Nj_told_65 rfl
      · have h := no_bf hc h
        refine vr_al C nd_Nj_told_48 rfl ?_
        refine vr_ic C nd_Nj_told_49 ?_
        obtain ⟨w8, hV9, h⟩ := no_b h
        refine vr_sVi (hp' := (rp_Nj (w8.2))) [.int (3 : Int32)] [] C nd_Nj_told_50 rfl ml_Nj_73 my_Nj_found (co_Nj_found (w1.2) (3 : Int32) w8 hV9) ⟨_, _, _, rfl, rfl, rfl⟩ rfl rfl ⟨rfl, rfl, rfl, rfl⟩ (Nat.zero_le _) (Nat.zero_le _) rfl ?_
        have h := no_s h
        subst h
        exact vr_iret C hq nd_Nj_told_53 rfl
    · have h := no_f hc h
      refine vr_al C nd_Nj_told_28 rfl ?_
      refine vr_ic C nd_Nj_told_29 ?_
      obtain ⟨w10, hV11, h⟩ := no_b h
      refine vr_sVi (hp' := (rp_Nj (w10.2))) [.int (5 : Int32)] [] C nd_Nj_told_30 rfl ml_Nj_73 my_Nj_found (co_Nj_found (w1.2) (5 : Int32) w10 hV11) ⟨_, _, _, rfl, rfl, rfl⟩ rfl rfl ⟨rfl, rfl, rfl, rfl⟩ (Nat.zero_le _) (Nat.zero_le _) rfl ?_
      have h := no_s h
      subst h
      exact vr_iret C hq nd_Nj_told_33 rfl
  · have h := no_f hc h
    refine vr_il C nd_Nj_told_10 rfl ?_
    have h := no_s h
    subst h
    exact vr_iret C hq nd_Nj_told_11 rfl
abbrev nr_Nj_minutes : Room := { frames := 5, cells := 0, slots := 0, locals := 118 }
theorem co_Nj_minutes (s : NjS) (a1 : Int32) (x : Int32 × NjS) (h : mo_Nj_minutes s a1 = some x) : nj_Con ny_Nj_minutes nb_Nj_minutes 4 (some .int) nr_Nj_minutes (rp_Nj s) [.ref 0, .int a1] (some (.int (x.1))) (rp_Nj (x.2)) := by
  rw [mo_Nj_minutes] at h
  refine nj_con (by decide) rfl 2 rfl (fun G ad C hq => ?_)
  have C : nj_C G nb_Nj_minutes 4 "NobodyJoins" nr_Nj_minutes := C
  show nj_V G ad 0 0 0 [some (.ref 0), some (.int a1), none, none] [] (rp_Nj s)
  refine vr_al C nd_Nj_minutes_0 rfl ?_
  refine vr_il C nd_Nj_minutes_1 rfl ?_
  obtain ⟨w1, hV2, h⟩ := no_b h
  refine vr_sVi (hp' := (rp_Nj (w1.2))) [.int a1] [] C nd_Nj_minutes_2 rfl ml_Nj_231 my_Nj_refusalOfClubAndRow (co_Nj_refusalOfClubAndRow s a1 w1 hV2) ⟨_, _, _, rfl, rfl, rfl⟩ rfl rfl ⟨rfl, rfl, rfl, rfl⟩ (Nat.zero_le _) (Nat.zero_le _) rfl ?_
  refine vr_is (ls' := [some (.ref 0), some (.int a1), some (.int (w1.1)), none]) C nd_Nj_minutes_5 rfl rfl ?_
  refine vr_il C nd_Nj_minutes_6 rfl ?_
  refine vr_if_eq C nd_Nj_minutes_7 (fun hc => ?_) (fun hc => ?_)
  · have h := no_t hc h
    refine vr_al C nd_Nj_minutes_12 rfl ?_
    refine vr_get (v := .ref 1) C nd_Nj_minutes_13 rfl fl_Nj_11 (at_Nj_0 (w1.2)) rfl ?_
    refine vr_il C nd_Nj_minutes_16 rfl ?_
    obtain ⟨hN3, h⟩ := no_i h
    refine vr_aald3 (y := (2 + 2 * (nj_n a1))) C nd_Nj_minutes_17 rfl (at_Nj_1 (w1.2)) hN3 rfl ?_
    refine vr_as (ls' := [some (.ref 0), some (.int a1), some (.int (w1.1)), some (.ref (2 + 2 * (nj_n a1)))]) C nd_Nj_minutes_18 rfl rfl ?_
    refine vr_al C nd_Nj_minutes_19 rfl ?_
    refine vr_get (v := .int (ro_size ((nj_rows (w1.2)) (nj_n a1)))) C nd_Nj_minutes_20 rfl fl_Nj_92 (at_Nj_Row_0 (w1.2) (nj_n a1) (nj_lt_of hN3)) rfl ?_
    refine vr_ic C nd_Nj_minutes_23 ?_
    refine vr_irem C nd_Nj_minutes_24 rfl (by decide) ?_
    refine vr_if_eq C nd_Nj_minutes_25 (fun hc => ?_) (fun hc => ?_)
    · have h := no_t hc h
      refine vr_al C nd_Nj_minutes_34 rfl ?_
      refine vr_al C nd_Nj_minutes_35 rfl ?_
      refine vr_ic C nd_Nj_minutes_36 ?_
      obtain ⟨w4, hV5, h⟩ := no_b h
      refine vr_sVi (hp' := (rp_Nj (w1.2))) [.ref (2 + 2 * (nj_n a1)), .int (2 : Int32)] [] C nd_Nj_minutes_37 rfl ml_Nj_234 my_Nj_namesChildren (co_Nj_namesChildren (w1.2) (nj_n a1) (nj_lt_of hN3) (2 : Int32) w4 hV5) ⟨_, _, _, rfl, rfl, rfl⟩ rfl rfl ⟨rfl, rfl, rfl, rfl⟩ (Nat.zero_le _) (Nat.zero_le _) rfl ?_
      refine vr_ifb_ne C nd_Nj_minutes_40 (fun hc => ?_) (fun hc => ?_)
      · have h := no_bt hc h
        refine vr_al C nd_Nj_minutes_49 rfl ?_
        refine vr_al C nd_Nj_minutes_50 rfl ?_
        refine vr_al C nd_Nj_minutes_51 rfl ?_
        refine vr_get (v := .ref 23) C nd_Nj_minutes_52 rfl fl_Nj_24 (at_Nj_0 (w1.2)) rfl ?_
        obtain ⟨w6, hV7, h⟩ := no_b h
        refine vr_cSlp [(2 + 2 * (nj_n a1)), (3 + 2 * (nj_n a1)), 23, 24, 25, 26, 27] [.ref 0, .ref 2] [.ref 0] C nd_Nj_minutes_55 rfl ml_Nj_271 my_Sums_likingsOf (co_Sums_likingsOf ((nj_rows (w1.2)) (nj_n a1)) (nj_club (w1.2)) w6 hV7) (em_Nj_RoC (w1.2) (nj_n a1) (nj_lt_of hN3)) rfl rfl ⟨rfl, rfl, rfl, rfl⟩ (Nat.zero_le _) (Nat.zero_le _) rfl ?_
        obtain ⟨w8, hV9, h⟩ := no_b h
        refine vr_sVv (hp' := (rp_Nj w8)) [.long w6] [] C nd_Nj_minutes_58 rfl ml_Nj_220 my_Nj_tellNumber (co_Nj_tellNumber (w1.2) w6 w8 hV9) ⟨_, _, _, rfl, rfl, rfl⟩ rfl rfl ⟨rfl, rfl, rfl, rfl⟩ (Nat.zero_le _) (Nat.zero_le _) rfl ?_
        refine vr_ic C nd_Nj_minutes_61 ?_
        have h := no_s h
        subst h
        exact vr_iret C hq nd_Nj_minutes_62 rfl
      · have h := no_bf hc h
        refine vr_al C nd_Nj_minutes_43 rfl ?_
        refine vr_ic C nd_Nj_minutes_44 ?_
        obtain ⟨w10, hV11, h⟩ := no_b h
        refine vr_sVi (hp' := (rp_Nj (w10.2))) [.int (3 : Int32)] [] C nd_Nj_minutes_45 rfl ml_Nj_73 my_Nj_found (co_Nj_found (w1.2) (3 : Int32) w10 hV11) ⟨_, _, _, rfl, rfl, rfl⟩ rfl rfl ⟨rfl, rfl, rfl, rfl⟩ (Nat.zero_le _) (Nat.zero_le _) rfl ?_
        have h := no_s h
        subst h
        exact vr_iret C hq nd_Nj_minutes_48 rfl
    · have h := no_f hc h
      refine vr_al C nd_Nj_minutes_28 rfl ?_
      refine vr_ic C nd_Nj_minutes_29 ?_
      obtain ⟨w12, hV13, h⟩ := no_b h
      refine vr_sVi (hp' := (rp_Nj (w12.2))) [.int (5 : Int32)] [] C nd_Nj_minutes_30 rfl ml_Nj_73 my_Nj_found (co_Nj_found (w1.2) (5 : Int32) w12 hV13) ⟨_, _, _, rfl, rfl, rfl⟩ rfl rfl ⟨rfl, rfl, rfl, rfl⟩ (Nat.zero_le _) (Nat.zero_le _) rfl ?_
      have h := no_s h
      subst h
      exact vr_iret C hq nd_Nj_minutes_33 rfl
  · have h := no_f hc h
    refine vr_il C nd_Nj_minutes_10 rfl ?_
    have h := no_s h
    subst h
    exact vr_iret C hq nd_Nj_minutes_11 rfl
abbrev nr_Nj_odds : Room := { frames := 2, cells := 0, slots := 0, locals := 52 }
theorem lw_Nj_odds_75 {G : nj_G} {ad : Nat → Nat} (C : nj_C G nb_Nj_odds 9 "NobodyJoins" nr_Nj_odds) (s : NjS) (f1 : Int32) (f6 : Int32) (f7 : Int32) : ∀ (n : Nat) (v2 : Int64) (v4 : Int64) (v8 : Int32) (x : Int64 × Int64), lo_Nj_odds_75 s f1 f6 f7 n v2 v4 v8 = some x → nj_V G ad 0 0 104 [some (.ref 0), some (.int f1), some (.long (x.1)), none, some (.long (x.2)), none, some (.int f6), none, none] [] (rp_Nj s) → nj_V G ad 0 0 75 [some (.ref 0), some (.int f1), some (.long v2), none, some (.long v4), none, some (.int f6), some (.int f7), some (.int v8)] [] (rp_Nj s) := by
  intro n
  induction n with
  | zero => intro v2 v4 v8 x h; rw [lo_Nj_odds_75] at h; cases h
  | succ n ih =>
    intro v2 v4 v8 x h hk
    rw [lo_Nj_odds_75] at h
    refine vr_il C nd_Nj_odds_75 rfl ?_
    refine vr_il C nd_Nj_odds_77 rfl ?_
    refine vr_cm_ge C nd_Nj_odds_79 (fun hc => ?_) (fun hc => ?_)
    · have h := no_t hc h
      have h := no_s h
      subst h
      exact vr_wk [7, 8] rfl hk
    · have h := no_f hc h
      refine vr_ll C nd_Nj_odds_82 rfl ?_
      refine vr_ldc2 C nd_Nj_odds_83 rfl kl_Nj_277 ?_
      refine vr_lmul C nd_Nj_odds_86 rfl ?_
      refine vr_lst (ls' := [some (.ref 0), some (.int f1), some (.long (v2 * (12 : Int64))), none, some (.long v4), none, some (.int f6), some (.int f7), some (.int v8)]) C nd_Nj_odds_87 rfl rfl ?_
      refine vr_ll C nd_Nj_odds_88 rfl ?_
      refine vr_ic C nd_Nj_odds_90 ?_
      refine vr_il C nd_Nj_odds_92 rfl ?_
      refine vr_isub C nd_Nj_odds_93 rfl ?_
      refine vr_i2l C nd_Nj_odds_94 rfl ?_
      refine vr_lmul C nd_Nj_odds_95 rfl ?_
      refine vr_lst (ls' := [some (.ref 0), some (.int f1), some (.long (v2 * (12 : Int64))), none, some (.long (v4 * (Int32.toInt64 ((12 : Int32) - f1)))), none, some (.int f6), some (.int f7), some (.int v8)]) C nd_Nj_odds_96 rfl rfl ?_
      refine vr_inc (v := (v8 + (1 : Int32))) (ls' := [some (.ref 0), some (.int f1), some (.long (v2 * (12 : Int64))), none, some (.long (v4 * (Int32.toInt64 ((12 : Int32) - f1)))), none, some (.int f6), some (.int f7), some (.int (v8 + (1 : Int32)))]) C nd_Nj_odds_98 rfl rfl rfl rfl rfl ?_
      refine vr_go C nd_Nj_odds_101 ?_
      exact (ih _ _ _ _ h hk)
theorem lw_Nj_odds_20 {G : nj_G} {ad : Nat → Nat} (C : nj_C G nb_Nj_odds 9 "NobodyJoins" nr_Nj_odds) (s : NjS) (f1 : Int32) : ∀ (n : Nat) (v2 : Int64) (v4 : Int64) (v6 : Int32) (x : Int64 × Int64), lo_Nj_odds_20 s f1 n v2 v4 v6 = some x → nj_V G ad 0 0 110 [some (.ref 0), none, some (.long (x.1)), none, some (.long (x.2)), none, none, none, none] [] (rp_Nj s) → nj_V G ad 0 0 20 [some (.ref 0), some (.int f1), some (.long v2), none, some (.long v4), none, some (.int v6), none, none] [] (rp_Nj s) := by
  intro n
  induction n with
  | zero => intro v2 v4 v6 x h; rw [lo_Nj_odds_20] at h; cases h
  | succ n ih =>
    intro v2 v4 v6 x h hk
    rw [lo_Nj_odds_20] at h
    refine vr_il C nd_Nj_odds_20 rfl ?_
    refine vr_al C nd_Nj_odds_22 rfl ?_
    refine vr_get (v := .ref 23) C nd_Nj_odds_23 rfl fl_Nj_24 (at_Nj_0 s) rfl ?_
    refine vr_get (v := .int (cl_children (nj_club s))) C nd_Nj_odds_26 rfl fl_Nj_132 (at_Nj_23 s) rfl ?_
    refine vr_cm_ge C nd_Nj_odds_29 (fun hc => ?_) (fun hc => ?_)
    · have h := no_t hc h
      have h := no_s h
      subst h
      exact vr_wk [1, 6] rfl hk
    · have h := no_f hc h
      refine vr_al C nd_Nj_odds_32 rfl ?_
      refine vr_get (v := .ref 23) C nd_Nj_odds_33 rfl fl_Nj_24 (at_Nj_0 s) rfl ?_
      refine vr_il C nd_Nj_odds_36 rfl ?_
      obtain ⟨w1, hV2, h⟩ := no_b h
      refine vr_cVip [23, 24, 25, 26, 27] [.int v6] [] C nd_Nj_odds_38 rfl ml_Nj_206 my_Club_isIn (co_Club_isIn (nj_club s) v6 w1 hV2) (em_Nj_Club s) ⟨_, _, _, rfl, rfl, rfl⟩ rfl rfl ⟨rfl, rfl, rfl, rfl⟩ (Nat.zero_le _) (Nat.zero_le _) rfl ?_
      obtain ⟨p3, hP10, h⟩ := no_b h
      have hj : nj_V G ad 0 0 70 [some (.ref 0), some (.int f1), some (.long v2), none, some (.long v4), none, some (.int v6), none, none] [.int p3] (rp_Nj s) := by
        refine vr_is (ls' := [some (.ref 0), some (.int f1), some (.long v2), none, some (.long v4), none, some (.int v6), some (.int p3), none]) C nd_Nj_odds_70 rfl rfl ?_
        refine vr_ic C nd_Nj_odds_72 ?_
        refine vr_is (ls' := [some (.ref 0), some (.int f1), some (.long v2), none, some (.long v4), none, some (.int v6), some (.int p3), some (.int (0 : Int32))]) C nd_Nj_odds_73 rfl rfl ?_
        obtain ⟨x8, hX9, h⟩ := no_b h
        refine lw_Nj_odds_75 C s f1 v6 p3 nj_fu _ _ _ x8 hX9 ?_
        refine vr_inc (v := (v6 + (1 : Int32))) (ls' := [some (.ref 0), some (.int f1), some (.long (x8.1)), none, some (.long (x8.2)), none, some (.int (v6 + (1 : Int32))), none, none]) C nd_Nj_odds_104 rfl rfl rfl rfl rfl ?_
        refine vr_go C nd_Nj_odds_107 ?_
        exact (ih _ _ _ _ h hk)
      clear h
      have h := hP10
      clear hP10
      refine vr_ifb_eq C nd_Nj_odds_41 (fun hc => ?_) (fun hc => ?_)
      · have h := no_bf hc h
        refine vr_ic C nd_Nj_odds_69 ?_
        have h := no_s h
        subst h
        exact hj
      · have h := no_bt hc h
        refine vr_al C nd_Nj_odds_44 rfl ?_
        refine vr_get (v := .ref 23) C nd_Nj_odds_45 rfl fl_Nj_24 (at_Nj_0 s) rfl ?_
        refine vr_il C nd_Nj_odds_48 rfl ?_
        obtain ⟨w4, hV5, h⟩ := no_b h
        refine vr_cVip [23, 24, 25, 26, 27] [.int v6] [] C nd_Nj_odds_50 rfl ml_Nj_275 my_Club_likingsOf (co_Club_likingsOf (nj_club s) v6 w4 hV5) (em_Nj_Club s) ⟨_, _, _, rfl, rfl, rfl⟩ rfl rfl ⟨rfl, rfl, rfl, rfl⟩ (Nat.zero_le _) (Nat.zero_le _) rfl ?_
        refine vr_al C nd_Nj_odds_53 rfl ?_
        refine vr_get (v := .ref 23) C nd_Nj_odds_54 rfl fl_Nj_24 (at_Nj_0 s) rfl ?_
        refine vr_get (v := .int (cl_inn (nj_club s))) C nd_Nj_odds_57 rfl fl_Nj_153 (at_Nj_23 s) rfl ?_
        refine vr_ic C nd_Nj_odds_60 ?_
        refine vr_ixor C nd_Nj_odds_61 rfl ?_
        refine vr_iand C nd_Nj_odds_62 rfl ?_
        obtain ⟨w6, hV7, h⟩ := no_b h
        refine vr_cSip [] [.int (w4 &&& ((cl_inn (nj_club s)) ^^^ (-1 : Int32)))] [] C nd_Nj_odds_63 rfl ml_Nj_162 my_Integer_bitCount (co_Integer_bitCount (w4 &&& ((cl_inn (nj_club s)) ^^^ (-1 : Int32))) w6 hV7) (em_E _) rfl rfl ⟨rfl, rfl, rfl, rfl⟩ (Nat.zero_le _) (Nat.zero_le _) rfl ?_
        refine vr_go C nd_Nj_odds_66 ?_
        have h := no_s h
        subst h
        exact hj
theorem co_Nj_odds (s : NjS) (a1 : Int32) (x : Int32 × NjS) (h : mo_Nj_odds s a1 = some x) : nj_Con ny_Nj_odds nb_Nj_odds 9 (some .int) nr_Nj_odds (rp_Nj s) [.ref 0, .int a1] (some (.int (x.1))) (rp_Nj (x.2)) := by
  rw [mo_Nj_odds] at h
  refine nj_con (by decide) rfl 7 rfl (fun G ad C hq => ?_)
  have C : nj_C G nb_Nj_odds 9 "NobodyJoins" nr_Nj_odds := C
  show nj_V G ad 0 0 0 [some (.ref 0), some (.int a1), none, none, none, none, none, none, none] [] (rp_Nj s)
  refine vr_il C nd_Nj_odds_0 rfl ?_
  refine vr_if_lt C nd_Nj_odds_1 (fun hc => ?_) (fun hc => ?_)
  · have h := no_t hc h
    refine vr_ic C nd_Nj_odds_10 ?_
    have h := no_s h
    subst h
    exact vr_iret C hq nd_Nj_odds_11 rfl
  · have h := no_f hc h
    refine vr_il C nd_Nj_odds_4 rfl ?_
    refine vr_ic C nd_Nj_odds_5 ?_
    refine vr_cm_le C nd_Nj_odds_7 (fun hc => ?_) (fun hc => ?_)
    · have h := no_t hc h
      refine vr_lc (v := (1 : Int64)) C nd_Nj_odds_12 rfl (by decide) ?_
      refine vr_lst (ls' := [some (.ref 0), some (.int a1), some (.long (1 : Int64)), none, none, none, none, none, none]) C nd_Nj_odds_13 rfl rfl ?_
      refine vr_lc (v := (1 : Int64)) C nd_Nj_odds_14 rfl (by decide) ?_
      refine vr_lst (ls' := [some (.ref 0), some (.int a1), some (.long (1 : Int64)), none, some (.long (1 : Int64)), none, none, none, none]) C nd_Nj_odds_15 rfl rfl ?_
      refine vr_ic C nd_Nj_odds_17 ?_
      refine vr_is (ls' := [some (.ref 0), some (.int a1), some (.long (1 : Int64)), none, some (.long (1 : Int64)), none, some (.int (0 : Int32)), none, none]) C nd_Nj_odds_18 rfl rfl ?_
      obtain ⟨x11, hX12, h⟩ := no_b h
      refine lw_Nj_odds_20 C s a1 nj_fu _ _ _ x11 hX12 ?_
      refine vr_al C nd_Nj_odds_110 rfl ?_
      refine vr_ll C nd_Nj_odds_111 rfl ?_
      refine vr_ll C nd_Nj_odds_112 rfl ?_
      refine vr_lsub C nd_Nj_odds_114 rfl ?_
      refine vr_ll C nd_Nj_odds_115 rfl ?_
      obtain ⟨w13, hV14, h⟩ := no_b h
      refine vr_sVv (hp' := (rp_Nj w13)) [.long ((x11.1) - (x11.2)), .long (x11.1)] [] C nd_Nj_odds_116 rfl ml_Nj_257 my_Nj_tellPart (co_Nj_tellPart s ((x11.1) - (x11.2)) (x11.1) w13 hV14) ⟨_, _, _, rfl, rfl, rfl⟩ rfl rfl ⟨rfl, rfl, rfl, rfl⟩ (Nat.zero_le _) (Nat.zero_le _) rfl ?_
      refine vr_ic C nd_Nj_odds_119 ?_
      have h := no_s h
      subst h
      exact vr_iret C hq nd_Nj_odds_120 rfl
    · have h := no_f hc h
      refine vr_ic C nd_Nj_odds_10 ?_
      have h := no_s h
      subst h
      exact vr_iret C hq nd_Nj_odds_11 rfl
abbrev nr_Nj_lots : Room := { frames := 6, cells := 0, slots := 0, locals := 141 }
theorem lw_Nj_lots_63 {G : nj_G} {ad : Nat → Nat} (C : nj_C G nb_Nj_lots 6 "NobodyJoins" nr_Nj_lots) (f1 : Int32) : ∀ (n : Nat) (s : NjS) (v3 : Int64) (v5 : Int32) (x : NjS), lo_Nj_lots_63 f1 n s v3 v5 = some x → nj_V G ad 0 0 94 [some (.ref 0), none, none, none, none, none] [] (rp_Nj x) → nj_V G ad 0 0 63 [some (.ref 0), some (.int f1), none, some (.long v3), none, some (.int v5)] [] (rp_Nj s) := by
  intro n
  induction n with
  | zero => intro s v3 v5 x h; rw [lo_Nj_lots_63] at h; cases h
  | succ n ih =>
    intro s v3 v5 x h hk
    rw [lo_Nj_lots_63] at h
    refine vr_il C nd_Nj_lots_63 rfl ?_
    refine vr_il C nd_Nj_lots_65 rfl ?_
    refine vr_cm_ge C nd_Nj_lots_66 (fun hc => ?_) (fun hc => ?_)
    · have h := no_t hc h
      have h := no_s h
      subst h
      exact vr_wk [1, 3, 5] rfl hk
    · have h := no_f hc h
      refine vr_ldc2 C nd_Nj_lots_69 rfl kl_Nj_281 ?_
      refine vr_ll C nd_Nj_lots_72 rfl ?_
      refine vr_lmul C nd_Nj_lots_73 rfl ?_
      refine vr_ldc2 C nd_Nj_lots_74 rfl kl_Nj_279 ?_
      refine vr_lrem C nd_Nj_lots_77 rfl (by decide) ?_
      refine vr_lst (ls' := [some (.ref 0), some (.int f1), none, some (.long (nj_rml ((48271 : Int64) * v3) (2147483647 : Int64))), none, some (.int v5)]) C nd_Nj_lots_78 rfl rfl ?_
      refine vr_al C nd_Nj_lots_79 rfl ?_
      refine vr_get (v := .ref 23) C nd_Nj_lots_80 rfl fl_Nj_24 (at_Nj_0 s) rfl ?_
      refine vr_ll C nd_Nj_lots_83 rfl ?_
      refine vr_l2i C nd_Nj_lots_84 rfl ?_
      obtain ⟨w1, hV2, h⟩ := no_b h
      refine vr_cVv (hp' := (rp_Nj (ns_club s w1))) [23, 24, 25, 26, 27] [.int (Int64.toInt32 (nj_rml ((48271 : Int64) * v3) (2147483647 : Int64)))] [] C nd_Nj_lots_85 rfl ml_Nj_283 my_Club_doByLot (co_Club_doByLot (nj_club s) (Int64.toInt32 (nj_rml ((48271 : Int64) * v3) (2147483647 : Int64))) w1 hV2) (em_Nj_Club s) ⟨_, _, _, rfl, rfl, rfl⟩ rfl rfl ⟨rfl, rfl, rfl, rfl⟩ (Nat.zero_le _) (Nat.zero_le _) rfl (pa_Nj_Club s w1) ?_
      refine vr_inc (v := (v5 + (1 : Int32))) (ls' := [some (.ref 0), some (.int f1), none, some (.long (nj_rml ((48271 : Int64) * v3) (2147483647 : Int64))), none, some (.int (v5 + (1 : Int32)))]) C nd_Nj_lots_88 rfl rfl rfl rfl rfl ?_
      refine vr_go C nd_Nj_lots_91 ?_
      exact (ih _ _ _ _ h hk)
theorem co_Nj_lots (s : NjS) (a1 : Int32) (a2 : Int32) (x : Int32 × NjS) (h : mo_Nj_lots s a1 a2 = some x) : nj_Con ny_Nj_lots nb_Nj_lots 6 (some .int) nr_Nj_lots (rp_Nj s) [.ref 0, .int a1, .int a2] (some (.int (x.1))) (rp_Nj (x.2)) := by
  rw [mo_Nj_lots] at h
  refine nj_con (by decide) rfl 3 rfl (fun G ad C hq => ?_)
  have C : nj_C G nb_Nj_lots 6 "NobodyJoins" nr_Nj_lots := C
  show nj_V G ad 0 0 0 [some (.ref 0), some (.int a1), some (.int a2), none, none, none] [] (rp_Nj s)
  refine vr_il C nd_Nj_lots_0 rfl ?_
  refine vr_ic C nd_Nj_lots_1 ?_
  refine vr_cm_lt C nd_Nj_lots_2 (fun hc => ?_) (fun hc => ?_)
  · have h := no_t hc h
    refine vr_ic C nd_Nj_lots_25 ?_
    have h := no_s h
    subst h
    exact vr_iret C hq nd_Nj_lots_26 rfl
  · have h := no_f hc h
    refine vr_il C nd_Nj_lots_5 rfl ?_
    refine vr_ic C nd_Nj_lots_6 ?_
    refine vr_cm_gt C nd_Nj_lots_8 (fun hc => ?_) (fun hc => ?_)
    · have h := no_t hc h
      refine vr_ic C nd_Nj_lots_25 ?_
      have h := no_s h
      subst h
      exact vr_iret C hq nd_Nj_lots_26 rfl
    · have h := no_f hc h
      refine vr_il C nd_Nj_lots_11 rfl ?_
      refine vr_ic C nd_Nj_lots_12 ?_
      refine vr_cm_lt C nd_Nj_lots_13 (fun hc => ?_) (fun hc => ?_)
      · have h := no_t hc h
        refine vr_ic C nd_Nj_lots_25 ?_
        have h := no_s h
        subst h
        exact vr_iret C hq nd_Nj_lots_26 rfl
      · have h := no_f hc h
        refine vr_il C nd_Nj_lots_16 rfl ?_
        refine vr_i2l C nd_Nj_lots_17 rfl ?_
        refine vr_ldc2 C nd_Nj_lots_18 rfl kl_Nj_279 ?_
        refine vr_lif_lt C nd_Nj_lots_21 rfl nd_Nj_lots_22 (fun hc => ?_) (fun hc => ?_)
        · have h := no_t hc h
          refine vr_al C nd_Nj_lots_27 rfl ?_
          refine vr_get (v := .ref 23) C nd_Nj_lots_28 rfl fl_Nj_24 (at_Nj_0 s) rfl ?_
          refine vr_get (v := .int (cl_children (nj_club s))) C nd_Nj_lots_31 rfl fl_Nj_132 (at_Nj_23 s) rfl ?_
          refine vr_if_ne C nd_Nj_lots_34 (fun hc => ?_) (fun hc => ?_)
          · have h := no_f hc h
            refine vr_al C nd_Nj_lots_40 rfl ?_
            refine vr_get (v := .ref 23) C nd_Nj_lots_41 rfl fl_Nj_24 (at_Nj_0 s) rfl ?_
            refine vr_get (v := .int (cl_dc (nj_club s))) C nd_Nj_lots_44 rfl fl_Nj_147 (at_Nj_23 s) rfl ?_
            refine vr_il C nd_Nj_lots_47 rfl ?_
            refine vr_iadd C nd_Nj_lots_48 rfl ?_
            refine vr_ic C nd_Nj_lots_49 ?_
            refine vr_cm_le C nd_Nj_lots_51 (fun hc => ?_) (fun hc => ?_)
            · have h := no_t hc h
              refine vr_il C nd_Nj_lots_57 rfl ?_
              refine vr_i2l C nd_Nj_lots_58 rfl ?_
              refine vr_lst (ls' := [some (.ref 0), some (.int a1), some (.int a2), some (.long (Int32.toInt64 a2)), none, none]) C nd_Nj_lots_59 rfl rfl ?_
              refine vr_ic C nd_Nj_lots_60 ?_
              refine vr_is (ls' := [some (.ref 0), some (.int a1), some (.int a2), some (.long (Int32.toInt64 a2)), none, some (.int (0 : Int32))]) C nd_Nj_lots_61 rfl rfl ?_
              refine vr_wk (ls' := [some (.ref 0), some (.int a1), none, some (.long (Int32.toInt64 a2)), none, some (.int (0 : Int32))]) [2] rfl ?_
              obtain ⟨x3, hX4, h⟩ := no_b h
              refine lw_Nj_lots_63 C a1 nj_fu _ _ _ x3 hX4 ?_
              refine vr_al C nd_Nj_lots_94 rfl ?_
              refine vr_get (v := .ref 23) C nd_Nj_lots_95 rfl fl_Nj_24 (at_Nj_0 x3) rfl ?_
              refine vr_get (v := .int (cl_inn (nj_club x3))) C nd_Nj_lots_98 rfl fl_Nj_153 (at_Nj_23 x3) rfl ?_
              obtain ⟨w5, hV6, h⟩ := no_b h
              refine vr_cSip [] [.int (cl_inn (nj_club x3))] [] C nd_Nj_lots_101 rfl ml_Nj_162 my_Integer_bitCount (co_Integer_bitCount (cl_inn (nj_club x3)) w5 hV6) (em_E _) rfl rfl ⟨rfl, rfl, rfl, rfl⟩ (Nat.zero_le _) (Nat.zero_le _) rfl ?_
              have h := no_s h
              subst h
              exact vr_iret C hq nd_Nj_lots_104 rfl
            · have h := no_f hc h
              refine vr_ic C nd_Nj_lots_54 ?_
              have h := no_s h
              subst h
              exact vr_iret C hq nd_Nj_lots_56 rfl
          · have h := no_t hc h
            refine vr_ic C nd_Nj_lots_37 ?_
            have h := no_s h
            subst h
            exact vr_iret C hq nd_Nj_lots_39 rfl
        · have h := no_f hc h
          refine vr_ic C nd_Nj_lots_25 ?_
          have h := no_s h
          subst h
          exact vr_iret C hq nd_Nj_lots_26 rfl
abbrev nr_Nj_asked : Room := { frames := 0, cells := 0, slots := 0, locals := 0 }
theorem co_Nj_asked (s : NjS) (x : Int32) (h : mo_Nj_asked s = some x) : nj_Con ny_Nj_asked nb_Nj_asked 1 (some .int) nr_Nj_asked (rp_Nj s) [.ref 0] (some (.int x)) (rp_Nj s) := by
  rw [mo_Nj_asked] at h
  refine nj_con (by decide) rfl 0 rfl (fun G ad C hq => ?_)
  have C : nj_C G nb_Nj_asked 1 "NobodyJoins" nr_Nj_asked := C
  show nj_V G ad 0 0 0 [some (.ref 0)] [] (rp_Nj s)
  refine vr_al C nd_Nj_asked_0 rfl ?_
  refine vr_get (v := .int (nj_an s)) C nd_Nj_asked_1 rfl fl_Nj_57 (at_Nj_0 s) rfl ?_
  have h := no_s h
  subst h
  exact vr_iret C hq nd_Nj_asked_4 rfl
abbrev nr_Nj_upper : Room := { frames := 0, cells := 0, slots := 0, locals := 0 }
theorem co_Nj_upper (s : NjS) (x : Int64) (h : mo_Nj_upper s = some x) : nj_Con ny_Nj_upper nb_Nj_upper 1 (some .long) nr_Nj_upper (rp_Nj s) [.ref 0] (some (.long x)) (rp_Nj s) := by
  rw [mo_Nj_upper] at h
  refine nj_con (by decide) rfl 0 rfl (fun G ad C hq => ?_)
  have C : nj_C G nb_Nj_upper 1 "NobodyJoins" nr_Nj_upper := C
  show nj_V G ad 0 0 0 [some (.ref 0)] [] (rp_Nj s)
  refine vr_al C nd_Nj_upper_0 rfl ?_
  refine vr_get (v := .long (nj_up s)) C nd_Nj_upper_1 rfl fl_Nj_60 (at_Nj_0 s) rfl ?_
  have h := no_s h
  subst h
  exact vr_lret C hq nd_Nj_upper_4 rfl
abbrev nr_Nj_lower : Room := { frames := 0, cells := 0, slots := 0, locals := 0 }
theorem co_Nj_lower (s : NjS) (x : Int64) (h : mo_Nj_lower s = some x) : nj_Con ny_Nj_lower nb_Nj_lower 1 (some .long) nr_Nj_lower (rp_Nj s) [.ref 0] (some (.long x)) (rp_Nj s) := by
  rw [mo_Nj_lower] at h
  refine nj_con (by decide) rfl 0 rfl (fun G ad C hq => ?_)
  have C : nj_C G nb_Nj_lower 1 "NobodyJoins" nr_Nj_lower := C
  show nj_V G ad 0 0 0 [some (.ref 0)] [] (rp_Nj s)
  refine vr_al C nd_Nj_lower_0 rfl ?_
  refine vr_get (v := .long (nj_lo s)) C nd_Nj_lower_1 rfl fl_Nj_64 (at_Nj_0 s) rfl ?_
  have h := no_s h
  subst h
  exact vr_lret C hq nd_Nj_lower_4 rfl
abbrev nr_Nj_rowsThere : Room := { frames := 1, cells := 0, slots := 0, locals := 20 }
theorem lw_Nj_rowsThere_4 {G : nj_G} {ad : Nat → Nat} (C : nj_C G nb_Nj_rowsThere 3 "NobodyJoins" nr_Nj_rowsThere) (s : NjS) : ∀ (n : Nat) (v1 : Int32) (v2 : Int32) (x : Int32), lo_Nj_rowsThere_4 s n v1 v2 = some x → nj_V G ad 0 0 36 [none, some (.int x), none] [] (rp_Nj s) → nj_V G ad 0 0 4 [some (.ref 0), some (.int v1), some (.int v2)] [] (rp_Nj s) := by
  intro n
  induction n with
  | zero => intro v1 v2 x h; rw [lo_Nj_rowsThere_4] at h; cases h
  | succ n ih =>
    intro v1 v2 x h hk
    rw [lo_Nj_rowsThere_4] at h
    refine vr_il C nd_Nj_rowsThere_4 rfl ?_
    refine vr_ic C nd_Nj_rowsThere_5 ?_
    refine vr_cm_ge C nd_Nj_rowsThere_7 (fun hc => ?_) (fun hc => ?_)
    · have h := no_t hc h
      have h := no_s h
      subst h
      exact vr_wk [0, 2] rfl hk
    · have h := no_f hc h
      refine vr_il C nd_Nj_rowsThere_10 rfl ?_
      refine vr_al C nd_Nj_rowsThere_11 rfl ?_
      refine vr_get (v := .ref 1) C nd_Nj_rowsThere_12 rfl fl_Nj_11 (at_Nj_0 s) rfl ?_
      refine vr_il C nd_Nj_rowsThere_15 rfl ?_
      obtain ⟨hN1, h⟩ := no_i h
      refine vr_aald3 (y := (2 + 2 * (nj_n v2))) C nd_Nj_rowsThere_16 rfl (at_Nj_1 s) hN1 rfl ?_
      obtain ⟨w2, hV3, h⟩ := no_b h
      refine vr_cVip [(2 + 2 * (nj_n v2)), (3 + 2 * (nj_n v2))] [] [.int v1] C nd_Nj_rowsThere_17 rfl ml_Nj_88 my_Row_isMissing (co_Row_isMissing ((nj_rows s) (nj_n v2)) w2 hV3) (em_Nj_Row s (nj_n v2) (nj_lt_of hN1)) ⟨_, _, _, rfl, rfl, rfl⟩ rfl rfl ⟨rfl, rfl, rfl, rfl⟩ (Nat.zero_le _) (Nat.zero_le _) rfl ?_
      obtain ⟨p4, hP5, h⟩ := no_b h
      have hj : nj_V G ad 0 0 28 [some (.ref 0), none, some (.int v2)] [.int p4, .int v1] (rp_Nj s) := by
        refine vr_iadd C nd_Nj_rowsThere_28 rfl ?_
        refine vr_is (ls' := [some (.ref 0), some (.int (v1 + p4)), some (.int v2)]) C nd_Nj_rowsThere_29 rfl rfl ?_
        refine vr_inc (v := (v2 + (1 : Int32))) (ls' := [some (.ref 0), some (.int (v1 + p4)), some (.int (v2 + (1 : Int32)))]) C nd_Nj_rowsThere_30 rfl rfl rfl rfl rfl ?_
        refine vr_go C nd_Nj_rowsThere_33 ?_
        exact (ih _ _ _ h hk)
      clear h
      have h := hP5
      clear hP5
      refine vr_ifb_eq C nd_Nj_rowsThere_20 (fun hc => ?_) (fun hc => ?_)
      · have h := no_bf hc h
        refine vr_ic C nd_Nj_rowsThere_27 ?_
        have h := no_s h
        subst h
        exact vr_wk [1] rfl hj
      · have h := no_bt hc h
        refine vr_ic C nd_Nj_rowsThere_23 ?_
        refine vr_go C nd_Nj_rowsThere_24 ?_
        have h := no_s h
        subst h
        exact vr_wk [1] rfl hj
theorem co_Nj_rowsThere (s : NjS) (x : Int32) (h : mo_Nj_rowsThere s = some x) : nj_Con ny_Nj_rowsThere nb_Nj_rowsThere 3 (some .int) nr_Nj_rowsThere (rp_Nj s) [.ref 0] (some (.int x)) (rp_Nj s) := by
  rw [mo_Nj_rowsThere] at h
  refine nj_con (by decide) rfl 2 rfl (fun G ad C hq => ?_)
  have C : nj_C G nb_Nj_rowsThere 3 "NobodyJoins" nr_Nj_rowsThere := C
  show nj_V G ad 0 0 0 [some (.ref 0), none, none] [] (rp_Nj s)
  refine vr_ic C nd_Nj_rowsThere_0 ?_
  refine vr_is (ls' := [some (.ref 0), some (.int (0 : Int32)), none]) C nd_Nj_rowsThere_1 rfl rfl ?_
  refine vr_ic C nd_Nj_rowsThere_2 ?_
  refine vr_is (ls' := [some (.ref 0), some (.int (0 : Int32)), some (.int (0 : Int32))]) C nd_Nj_rowsThere_3 rfl rfl ?_
  obtain ⟨x6, hX7, h⟩ := no_b h
  refine lw_Nj_rowsThere_4 C s nj_fu _ _ x6 hX7 ?_
  refine vr_il C nd_Nj_rowsThere_36 rfl ?_
  have h := no_s h
  subst h
  exact vr_iret C hq nd_Nj_rowsThere_37 rfl
abbrev nr_Nj_textsThere : Room := { frames := 1, cells := 0, slots := 0, locals := 20 }
theorem lw_Nj_textsThere_4 {G : nj_G} {ad : Nat → Nat} (C : nj_C G nb_Nj_textsThere 3 "NobodyJoins" nr_Nj_textsThere) (s : NjS) : ∀ (n : Nat) (v1 : Int32) (v2 : Int32) (x : Int32), lo_Nj_textsThere_4 s n v1 v2 = some x → nj_V G ad 0 0 35 [none, some (.int x), none] [] (rp_Nj s) → nj_V G ad 0 0 4 [some (.ref 0), some (.int v1), some (.int v2)] [] (rp_Nj s) := by
  intro n
  induction n with
  | zero => intro v1 v2 x h; rw [lo_Nj_textsThere_4] at h; cases h
  | succ n ih =>
    intro v1 v2 x h hk
    rw [lo_Nj_textsThere_4] at h
    refine vr_il C nd_Nj_textsThere_4 rfl ?_
    refine vr_ic C nd_Nj_textsThere_5 ?_
    refine vr_cm_ge C nd_Nj_textsThere_6 (fun hc => ?_) (fun hc => ?_)
    · have h := no_t hc h
      have h := no_s h
      subst h
      exact vr_wk [0, 2] rfl hk
    · have h := no_f hc h
      refine vr_il C nd_Nj_textsThere_9 rfl ?_
      refine vr_al C nd_Nj_textsThere_10 rfl ?_
      refine vr_get (v := .ref 14) C nd_Nj_textsThere_11 rfl fl_Nj_17 (at_Nj_0 s) rfl ?_
      refine vr_il C nd_Nj_textsThere_14 rfl ?_
      obtain ⟨hN1, h⟩ := no_i h
      refine vr_aald4 (y := (15 + 2 * (nj_n v2))) C nd_Nj_textsThere_15 rfl (at_Nj_14 s) hN1 rfl ?_
      obtain ⟨w2, hV3, h⟩ := no_b h
      refine vr_cVip [(15 + 2 * (nj_n v2)), (16 + 2 * (nj_n v2))] [] [.int v1] C nd_Nj_textsThere_16 rfl ml_Nj_113 my_Text_isMissing (co_Text_isMissing ((nj_texts s) (nj_n v2)) w2 hV3) (em_Nj_Text s (nj_n v2) (nj_lt_of hN1)) ⟨_, _, _, rfl, rfl, rfl⟩ rfl rfl ⟨rfl, rfl, rfl, rfl⟩ (Nat.zero_le _) (Nat.zero_le _) rfl ?_
      obtain ⟨p4, hP5, h⟩ := no_b h
      have hj : nj_V G ad 0 0 27 [some (.ref 0), none, some (.int v2)] [.int p4, .int v1] (rp_Nj s) := by
        refine vr_iadd C nd_Nj_textsThere_27 rfl ?_
        refine vr_is (ls' := [some (.ref 0), some (.int (v1 + p4)), some (.int v2)]) C nd_Nj_textsThere_28 rfl rfl ?_
        refine vr_inc (v := (v2 + (1 : Int32))) (ls' := [some (.ref 0), some (.int (v1 + p4)), some (.int (v2 + (1 : Int32)))]) C nd_Nj_textsThere_29 rfl rfl rfl rfl rfl ?_
        refine vr_go C nd_Nj_textsThere_32 ?_
        exact (ih _ _ _ h hk)
      clear h
      have h := hP5
      clear hP5
      refine vr_ifb_eq C nd_Nj_textsThere_19 (fun hc => ?_) (fun hc => ?_)
      · have h := no_bf hc h
        refine vr_ic C nd_Nj_textsThere_26 ?_
        have h := no_s h
        subst h
        exact vr_wk [1] rfl hj
      · have h := no_bt hc h
        refine vr_ic C nd_Nj_textsThere_22 ?_
        refine vr_go C nd_Nj_textsThere_23 ?_
        have h := no_s h
        subst h
        exact vr_wk [1] rfl hj
theorem co_Nj_textsThere (s : NjS) (x : Int32) (h : mo_Nj_textsThere s = some x) : nj_Con ny_Nj_textsThere nb_Nj_textsThere 3 (some .int) nr_Nj_textsThere (rp_Nj s) [.ref 0] (some (.int x)) (rp_Nj s) := by
  rw [mo_Nj_textsThere] at h
  refine nj_con (by decide) rfl 2 rfl (fun G ad C hq => ?_)
  have C : nj_C G nb_Nj_textsThere 3 "NobodyJoins" nr_Nj_textsThere := C
  show nj_V G ad 0 0 0 [some (.ref 0), none, none] [] (rp_Nj s)
  refine vr_ic C nd_Nj_textsThere_0 ?_
  refine vr_is (ls' := [some (.ref 0), some (.int (0 : Int32)), none]) C nd_Nj_textsThere_1 rfl rfl ?_
  refine vr_ic C nd_Nj_textsThere_2 ?_
  refine vr_is (ls' := [some (.ref 0), some (.int (0 : Int32)), some (.int (0 : Int32))]) C nd_Nj_textsThere_3 rfl rfl ?_
  obtain ⟨x6, hX7, h⟩ := no_b h
  refine lw_Nj_textsThere_4 C s nj_fu _ _ x6 hX7 ?_
  refine vr_il C nd_Nj_textsThere_35 rfl ?_
  have h := no_s h
  subst h
  exact vr_iret C hq nd_Nj_textsThere_36 rfl
abbrev nr_Nj_clubsKept : Room := { frames := 0, cells := 0, slots := 0, locals := 0 }
theorem lw_Nj_clubsKept_4 {G : nj_G} {ad : Nat → Nat} (C : nj_C G nb_Nj_clubsKept 3 "NobodyJoins" nr_Nj_clubsKept) (s : NjS) : ∀ (n : Nat) (v1 : Int32) (v2 : Int32) (x : Int32), lo_Nj_clubsKept_4 s n v1 v2 = some x → nj_V G ad 0 0 35 [none, some (.int x), none] [] (rp_Nj s) → nj_V G ad 0 0 4 [some (.ref 0), some (.int v1), some (.int v2)] [] (rp_Nj s) := by
  intro n
  induction n with
  | zero => intro v1 v2 x h; rw [lo_Nj_clubsKept_4] at h; cases h
  | succ n ih =>
    intro v1 v2 x h hk
    rw [lo_Nj_clubsKept_4] at h
    refine vr_il C nd_Nj_clubsKept_4 rfl ?_
    refine vr_ic C nd_Nj_clubsKept_5 ?_
    refine vr_cm_ge C nd_Nj_clubsKept_6 (fun hc => ?_) (fun hc => ?_)
    · have h := no_t hc h
      have h := no_s h
      subst h
      exact vr_wk [0, 2] rfl hk
    · have h := no_f hc h
      refine vr_il C nd_Nj_clubsKept_9 rfl ?_
      refine vr_al C nd_Nj_clubsKept_10 rfl ?_
      refine vr_get (v := .ref 33) C nd_Nj_clubsKept_11 rfl fl_Nj_31 (at_Nj_0 s) rfl ?_
      refine vr_il C nd_Nj_clubsKept_14 rfl ?_
      obtain ⟨hN1, h⟩ := no_i h
      refine vr_aald5 (y := (34 + 5 * (nj_n v2))) C nd_Nj_clubsKept_15 rfl (at_Nj_33 s) hN1 rfl ?_
      refine vr_get (v := .int (cl_children ((nj_kept s) (nj_n v2)))) C nd_Nj_clubsKept_16 rfl fl_Nj_132 (at_Nj_Kept_0 s (nj_n v2) (nj_lt_of hN1)) rfl ?_
      obtain ⟨p2, hP3, h⟩ := no_b h
      have hj : nj_V G ad 0 0 27 [some (.ref 0), none, some (.int v2)] [.int p2, .int v1] (rp_Nj s) := by
        refine vr_iadd C nd_Nj_clubsKept_27 rfl ?_
        refine vr_is (ls' := [some (.ref 0), some (.int (v1 + p2)), some (.int v2)]) C nd_Nj_clubsKept_28 rfl rfl ?_
        refine vr_inc (v := (v2 + (1 : Int32))) (ls' := [some (.ref 0), some (.int (v1 + p2)), some (.int (v2 + (1 : Int32)))]) C nd_Nj_clubsKept_29 rfl rfl rfl rfl rfl ?_
        refine vr_go C nd_Nj_clubsKept_32 ?_
        exact (ih _ _ _ h hk)
      clear h
      have h := hP3
      clear hP3
      refine vr_if_ne C nd_Nj_clubsKept_19 (fun hc => ?_) (fun hc => ?_)
      · have h := no_f hc h
        refine vr_ic C nd_Nj_clubsKept_26 ?_
        have h := no_s h
        subst h
        exact vr_wk [1] rfl hj
      · have h := no_t hc h
        refine vr_ic C nd_Nj_clubsKept_22 ?_
        refine vr_go C nd_Nj_clubsKept_23 ?_
        have h := no_s h
        subst h
        exact vr_wk [1] rfl hj
theorem co_Nj_clubsKept (s : NjS) (x : Int32) (h : mo_Nj_clubsKept s = some x) : nj_Con ny_Nj_clubsKept nb_Nj_clubsKept 3 (some .int) nr_Nj_clubsKept (rp_Nj s) [.ref 0] (some (.int x)) (rp_Nj s) := by
  rw [mo_Nj_clubsKept] at h
  refine nj_con (by decide) rfl 2 rfl (fun G ad C hq => ?_)
  have C : nj_C G nb_Nj_clubsKept 3 "NobodyJoins" nr_Nj_clubsKept := C
  show nj_V G ad 0 0 0 [some (.ref 0), none, none] [] (rp_Nj s)
  refine vr_ic C nd_Nj_clubsKept_0 ?_
  refine vr_is (ls' := [some (.ref 0), some (.int (0 : Int32)), none]) C nd_Nj_clubsKept_1 rfl rfl ?_
  refine vr_ic C nd_Nj_clubsKept_2 ?_
  refine vr_is (ls' := [some (.ref 0), some (.int (0 : Int32)), some (.int (0 : Int32))]) C nd_Nj_clubsKept_3 rfl rfl ?_
  obtain ⟨x4, hX5, h⟩ := no_b h
  refine lw_Nj_clubsKept_4 C s nj_fu _ _ x4 hX5 ?_
  refine vr_il C nd_Nj_clubsKept_35 rfl ?_
  have h := no_s h
  subst h
  exact vr_iret C hq nd_Nj_clubsKept_36 rfl
abbrev nr_Nj_count : Room := { frames := 2, cells := 0, slots := 0, locals := 45 }
theorem co_Nj_count (s : NjS) (a1 : Int32) (x : Int32) (h : mo_Nj_count s a1 = some x) : nj_Con ny_Nj_count nb_Nj_count 2 (some .int) nr_Nj_count (rp_Nj s) [.ref 0, .int a1] (some (.int x)) (rp_Nj s) := by
  rw [mo_Nj_count] at h
  refine nj_con (by decide) rfl 0 rfl (fun G ad C hq => ?_)
  have C : nj_C G nb_Nj_count 2 "NobodyJoins" nr_Nj_count := C
  show nj_V G ad 0 0 0 [some (.ref 0), some (.int a1)] [] (rp_Nj s)
  refine vr_il C nd_Nj_count_0 rfl ?_
  by_cases hS1 : a1 = (0 : Int32)
  · have h := no_t hS1 h
    refine vr_tsI (0 : Int32) C nd_Nj_count_1 hS1 (by decide) (by decide) rfl rfl ?_
    refine vr_al C nd_Nj_count_52 rfl ?_
    refine vr_get (v := .ref 23) C nd_Nj_count_53 rfl fl_Nj_24 (at_Nj_0 s) rfl ?_
    refine vr_get (v := .int (cl_children (nj_club s))) C nd_Nj_count_56 rfl fl_Nj_132 (at_Nj_23 s) rfl ?_
    have h := no_s h
    subst h
    exact vr_iret C hq nd_Nj_count_59 rfl
  have h := no_f hS1 h
  by_cases hS2 : a1 = (1 : Int32)
  · have h := no_t hS2 h
    refine vr_tsI (1 : Int32) C nd_Nj_count_1 hS2 (by decide) (by decide) rfl rfl ?_
    refine vr_al C nd_Nj_count_60 rfl ?_
    refine vr_get (v := .ref 23) C nd_Nj_count_61 rfl fl_Nj_24 (at_Nj_0 s) rfl ?_
    refine vr_get (v := .int (cl_inn (nj_club s))) C nd_Nj_count_64 rfl fl_Nj_153 (at_Nj_23 s) rfl ?_
    have h := no_s h
    subst h
    exact vr_iret C hq nd_Nj_count_67 rfl
  have h := no_f hS2 h
  by_cases hS3 : a1 = (2 : Int32)
  · have h := no_t hS3 h
    refine vr_tsI (2 : Int32) C nd_Nj_count_1 hS3 (by decide) (by decide) rfl rfl ?_
    refine vr_al C nd_Nj_count_68 rfl ?_
    refine vr_get (v := .ref 23) C nd_Nj_count_69 rfl fl_Nj_24 (at_Nj_0 s) rfl ?_
    refine vr_get (v := .int (cl_tin (nj_club s))) C nd_Nj_count_72 rfl fl_Nj_176 (at_Nj_23 s) rfl ?_
    have h := no_s h
    subst h
    exact vr_iret C hq nd_Nj_count_75 rfl
  have h := no_f hS3 h
  by_cases hS4 : a1 = (3 : Int32)
  · have h := no_t hS4 h
    refine vr_tsI (3 : Int32) C nd_Nj_count_1 hS4 (by decide) (by decide) rfl rfl ?_
    refine vr_al C nd_Nj_count_76 rfl ?_
    refine vr_get (v := .ref 23) C nd_Nj_count_77 rfl fl_Nj_24 (at_Nj_0 s) rfl ?_
    refine vr_get (v := .int (cl_dc (nj_club s))) C nd_Nj_count_80 rfl fl_Nj_147 (at_Nj_23 s) rfl ?_
    have h := no_s h
    subst h
    exact vr_iret C hq nd_Nj_count_83 rfl
  have h := no_f hS4 h
  by_cases hS7 : a1 = (4 : Int32)
  · have h := no_t hS7 h
    refine vr_tsI (4 : Int32) C nd_Nj_count_1 hS7 (by decide) (by decide) rfl rfl ?_
    refine vr_al C nd_Nj_count_84 rfl ?_
    refine vr_get (v := .ref 23) C nd_Nj_count_85 rfl fl_Nj_24 (at_Nj_0 s) rfl ?_
    refine vr_al C nd_Nj_count_88 rfl ?_
    refine vr_get (v := .ref 23) C nd_Nj_count_89 rfl fl_Nj_24 (at_Nj_0 s) rfl ?_
    refine vr_get (v := .int (cl_inn (nj_club s))) C nd_Nj_count_92 rfl fl_Nj_153 (at_Nj_23 s) rfl ?_
    obtain ⟨w5, hV6, h⟩ := no_b h
    refine vr_cVip [23, 24, 25, 26, 27] [.int (cl_inn (nj_club s))] [] C nd_Nj_count_95 rfl ml_Nj_199 my_Club_votesOfSet (co_Club_votesOfSet (nj_club s) (cl_inn (nj_club s)) w5 hV6) (em_Nj_Club s) ⟨_, _, _, rfl, rfl, rfl⟩ rfl rfl ⟨rfl, rfl, rfl, rfl⟩ (Nat.zero_le _) (Nat.zero_le _) rfl ?_
    have h := no_s h
    subst h
    exact vr_iret C hq nd_Nj_count_98 rfl
  have h := no_f hS7 h
  by_cases hS12 : a1 = (5 : Int32)
  · have h := no_t hS12 h
    refine vr_tsI (5 : Int32) C nd_Nj_count_1 hS12 (by decide) (by decide) rfl rfl ?_
    refine vr_al C nd_Nj_count_99 rfl ?_
    refine vr_get (v := .ref 23) C nd_Nj_count_100 rfl fl_Nj_24 (at_Nj_0 s) rfl ?_
    refine vr_ic C nd_Nj_count_103 ?_
    obtain ⟨w8, hV9, h⟩ := no_b h
    refine vr_cVip [23, 24, 25, 26, 27] [.int (1 : Int32)] [] C nd_Nj_count_104 rfl ml_Nj_286 my_Club_allOfKind (co_Club_allOfKind (nj_club s) (1 : Int32) w8 hV9) (em_Nj_Club s) ⟨_, _, _, rfl, rfl, rfl⟩ rfl rfl ⟨rfl, rfl, rfl, rfl⟩ (Nat.zero_le _) (Nat.zero_le _) rfl ?_
    obtain ⟨w10, hV11, h⟩ := no_b h
    refine vr_cSip [] [.int w8] [] C nd_Nj_count_107 rfl ml_Nj_162 my_Integer_bitCount (co_Integer_bitCount w8 w10 hV11) (em_E _) rfl rfl ⟨rfl, rfl, rfl, rfl⟩ (Nat.zero_le _) (Nat.zero_le _) rfl ?_
    have h := no_s h
    subst h
    exact vr_iret C hq nd_Nj_count_110 rfl
  have h := no_f hS12 h
  by_cases hS15 : a1 = (6 : Int32)
  · have h := no_t hS15 h
    refine vr_tsI (6 : Int32) C nd_Nj_count_1 hS15 (by decide) (by decide) rfl rfl ?_
    refine vr_al C nd_Nj_count_111 rfl ?_
    obtain ⟨w13, hV14, h⟩ := no_b h
    refine vr_sVi (hp' := (rp_Nj s)) [] [] C nd_Nj_count_112 rfl ml_Nj_289 my_Nj_rowsThere (co_Nj_rowsThere s w13 hV14) ⟨_, _, _, rfl, rfl, rfl⟩ rfl rfl ⟨rfl, rfl, rfl, rfl⟩ (Nat.zero_le _) (Nat.zero_le _) rfl ?_
    have h := no_s h
    subst h
    exact vr_iret C hq nd_Nj_count_115 rfl
  have h := no_f hS15 h
  by_cases hS18 : a1 = (7 : Int32)
  · have h := no_t hS18 h
    refine vr_tsI (7 : Int32) C nd_Nj_count_1 hS18 (by decide) (by decide) rfl rfl ?_
    refine vr_al C nd_Nj_count_116 rfl ?_
    obtain ⟨w16, hV17, h⟩ := no_b h
    refine vr_sVi (hp' := (rp_Nj s)) [] [] C nd_Nj_count_117 rfl ml_Nj_293 my_Nj_textsThere (co_Nj_textsThere s w16 hV17) ⟨_, _, _, rfl, rfl, rfl⟩ rfl rfl ⟨rfl, rfl, rfl, rfl⟩ (Nat.zero_le _) (Nat.zero_le _) rfl ?_
    have h := no_s h
    subst h
    exact vr_iret C hq nd_Nj_count_120 rfl
  have h := no_f hS18 h
  by_cases hS21 : a1 = (8 : Int32)
  · have h := no_t hS21 h
    refine vr_tsI (8 : Int32) C nd_Nj_count_1 hS21 (by decide) (by decide) rfl rfl ?_
    refine vr_al C nd_Nj_count_121 rfl ?_
    obtain ⟨w19, hV20, h⟩ := no_b h
    refine vr_sVi (hp' := (rp_Nj s)) [] [] C nd_Nj_count_122 rfl ml_Nj_296 my_Nj_clubsKept (co_Nj_clubsKept s w19 hV20) ⟨_, _, _, rfl, rfl, rfl⟩ rfl rfl ⟨rfl, rfl, rfl, rfl⟩ (Nat.zero_le _) (Nat.zero_le _) rfl ?_
    have h := no_s h
    subst h
    exact vr_iret C hq nd_Nj_count_125 rfl
  have h := no_f hS21 h
  refine vr_tsO C nd_Nj_count_1 (by have a0 := lv_neT (a := 0) hS1 (by decide); have a1 := lv_neT (a := 1) hS2 (by decide); have a2 := lv_neT (a := 2) hS3 (by decide); have a3 := lv_neT (a := 3) hS4 (by decide); have a4 := lv_neT (a := 4) hS7 (by decide); have a5 := lv_neT (a := 5) hS12 (by decide); have a6 := lv_neT (a := 6) hS15 (by decide); have a7 := lv_neT (a := 7) hS18 (by decide); have a8 := lv_neT (a := 8) hS21 (by decide); omega) rfl ?_
  refine vr_ic C nd_Nj_count_126 ?_
  have h := no_s h
  subst h
  exact vr_iret C hq nd_Nj_count_127 rfl
abbrev nr_Nj_finding : Room := { frames := 0, cells := 0, slots := 0, locals := 0 }
theorem co_Nj_finding (s : NjS) (x : Int32) (h : mo_Nj_finding s = some x) : nj_Con ny_Nj_finding nb_Nj_finding 1 (some .int) nr_Nj_finding (rp_Nj s) [.ref 0] (some (.int x)) (rp_Nj s) := by
  rw [mo_Nj_finding] at h
  refine nj_con (by decide) rfl 0 rfl (fun G ad C hq => ?_)
  have C : nj_C G nb_Nj_finding 1 "NobodyJoins" nr_Nj_finding := C
  show nj_V G ad 0 0 0 [some (.ref 0)] [] (rp_Nj s)
  refine vr_al C nd_Nj_finding_0 rfl ?_
  refine vr_get (v := .int (nj_lf s)) C nd_Nj_finding_1 rfl fl_Nj_53 (at_Nj_0 s) rfl ?_
  have h := no_s h
  subst h
  exact vr_iret C hq nd_Nj_finding_4 rfl
abbrev nr_Nj_findings : Room := { frames := 0, cells := 0, slots := 0, locals := 0 }
theorem co_Nj_findings (s : NjS) (a1 : Int32) (x : Int32) (h : mo_Nj_findings s a1 = some x) : nj_Con ny_Nj_findings nb_Nj_findings 2 (some .int) nr_Nj_findings (rp_Nj s) [.ref 0, .int a1] (some (.int x)) (rp_Nj s) := by
  rw [mo_Nj_findings] at h
  refine nj_con (by decide) rfl 0 rfl (fun G ad C hq => ?_)
  have C : nj_C G nb_Nj_findings 2 "NobodyJoins" nr_Nj_findings := C
  show nj_V G ad 0 0 0 [some (.ref 0), some (.int a1)] [] (rp_Nj s)
  refine vr_il C nd_Nj_findings_0 rfl ?_
  refine vr_ic C nd_Nj_findings_1 ?_
  refine vr_cm_lt C nd_Nj_findings_2 (fun hc => ?_) (fun hc => ?_)
  · have h := no_t hc h
    refine vr_ic C nd_Nj_findings_10 ?_
    have h := no_s h
    subst h
    exact vr_iret C hq nd_Nj_findings_11 rfl
  · have h := no_f hc h
    refine vr_il C nd_Nj_findings_5 rfl ?_
    refine vr_ic C nd_Nj_findings_6 ?_
    refine vr_cm_le C nd_Nj_findings_7 (fun hc => ?_) (fun hc => ?_)
    · have h := no_t hc h
      refine vr_al C nd_Nj_findings_12 rfl ?_
      refine vr_get (v := .ref 52) C nd_Nj_findings_13 rfl fl_Nj_49 (at_Nj_0 s) rfl ?_
      refine vr_il C nd_Nj_findings_16 rfl ?_
      obtain ⟨hN1, h⟩ := no_i h
      refine vr_ialk (j := (nj_n a1)) (f := (nj_fc s)) C nd_Nj_findings_17 rfl (at_Nj_52 s) hN1 rfl ?_
      have h := no_s h
      subst h
      exact vr_iret C hq nd_Nj_findings_18 rfl
    · have h := no_f hc h
      refine vr_ic C nd_Nj_findings_10 ?_
      have h := no_s h
      subst h
      exact vr_iret C hq nd_Nj_findings_11 rfl
abbrev nr_Nj_digest : Room := { frames := 3, cells := 0, slots := 0, locals := 66 }
theorem lw_Nj_digest_6 {G : nj_G} {ad : Nat → Nat} (C : nj_C G nb_Nj_digest 5 "NobodyJoins" nr_Nj_digest) (s : NjS) : ∀ (n : Nat) (v1 : Int64) (v3 : Int32) (x : Int64), lo_Nj_digest_6 s n v1 v3 = some x → nj_V G ad 0 0 31 [some (.ref 0), some (.long x), none, none, none] [] (rp_Nj s) → nj_V G ad 0 0 6 [some (.ref 0), some (.long v1), none, some (.int v3), none] [] (rp_Nj s) := by
  intro n
  induction n with
  | zero => intro v1 v3 x h; rw [lo_Nj_digest_6] at h; cases h
  | succ n ih =>
    intro v1 v3 x h hk
    rw [lo_Nj_digest_6] at h
    refine vr_il C nd_Nj_digest_6 rfl ?_
    refine vr_ic C nd_Nj_digest_7 ?_
    refine vr_cm_ge C nd_Nj_digest_9 (fun hc => ?_) (fun hc => ?_)
    · have h := no_t hc h
      have h := no_s h
      subst h
      exact vr_wk [3] rfl hk
    · have h := no_f hc h
      refine vr_ldc2 C nd_Nj_digest_12 rfl kl_Nj_301 ?_
      refine vr_ll C nd_Nj_digest_15 rfl ?_
      refine vr_lmul C nd_Nj_digest_16 rfl ?_
      refine vr_al C nd_Nj_digest_17 rfl ?_
      refine vr_il C nd_Nj_digest_18 rfl ?_
      obtain ⟨w1, hV2, h⟩ := no_b h
      refine vr_sVi (hp' := (rp_Nj s)) [.int v3] [.long ((31 : Int64) * v1)] C nd_Nj_digest_19 rfl ml_Nj_303 my_Nj_count (co_Nj_count s v3 w1 hV2) ⟨_, _, _, rfl, rfl, rfl⟩ rfl rfl ⟨rfl, rfl, rfl, rfl⟩ (Nat.zero_le _) (Nat.zero_le _) rfl ?_
      refine vr_i2l C nd_Nj_digest_22 rfl ?_
      refine vr_ladd C nd_Nj_digest_23 rfl ?_
      refine vr_lst (ls' := [some (.ref 0), some (.long (((31 : Int64) * v1) + (Int32.toInt64 w1))), none, some (.int v3), none]) C nd_Nj_digest_24 rfl rfl ?_
      refine vr_inc (v := (v3 + (1 : Int32))) (ls' := [some (.ref 0), some (.long (((31 : Int64) * v1) + (Int32.toInt64 w1))), none, some (.int (v3 + (1 : Int32))), none]) C nd_Nj_digest_25 rfl rfl rfl rfl rfl ?_
      refine vr_go C nd_Nj_digest_28 ?_
      exact (ih _ _ _ h hk)
theorem lw_Nj_digest_62 {G : nj_G} {ad : Nat → Nat} (C : nj_C G nb_Nj_digest 5 "NobodyJoins" nr_Nj_digest) (s : NjS) (f3 : Int32) : ∀ (n : Nat) (v1 : Int64) (v4 : Int32) (x : Int64), lo_Nj_digest_62 s f3 n v1 v4 = some x → nj_V G ad 0 0 93 [some (.ref 0), some (.long x), none, some (.int f3), none] [] (rp_Nj s) → nj_V G ad 0 0 62 [some (.ref 0), some (.long v1), none, some (.int f3), some (.int v4)] [] (rp_Nj s) := by
  intro n
  induction n with
  | zero => intro v1 v4 x h; rw [lo_Nj_digest_62] at h; cases h
  | succ n ih =>
    intro v1 v4 x h hk
    rw [lo_Nj_digest_62] at h
    refine vr_il C nd_Nj_digest_62 rfl ?_
    refine vr_ic C nd_Nj_digest_64 ?_
    refine vr_cm_ge C nd_Nj_digest_66 (fun hc => ?_) (fun hc => ?_)
    · have h := no_t hc h
      have h := no_s h
      subst h
      exact vr_wk [4] rfl hk
    · have h := no_f hc h
      refine vr_ldc2 C nd_Nj_digest_69 rfl kl_Nj_301 ?_
      refine vr_ll C nd_Nj_digest_72 rfl ?_
      refine vr_lmul C nd_Nj_digest_73 rfl ?_
      refine vr_al C nd_Nj_digest_74 rfl ?_
      refine vr_get (v := .ref 23) C nd_Nj_digest_75 rfl fl_Nj_24 (at_Nj_0 s) rfl ?_
      refine vr_il C nd_Nj_digest_78 rfl ?_
      refine vr_il C nd_Nj_digest_79 rfl ?_
      obtain ⟨w5, hV6, h⟩ := no_b h
      refine vr_cVip [23, 24, 25, 26, 27] [.int f3, .int v4] [.long ((31 : Int64) * v1)] C nd_Nj_digest_81 rfl ml_Nj_138 my_Club_valueOf (co_Club_valueOf (nj_club s) f3 v4 w5 hV6) (em_Nj_Club s) ⟨_, _, _, rfl, rfl, rfl⟩ rfl rfl ⟨rfl, rfl, rfl, rfl⟩ (Nat.zero_le _) (Nat.zero_le _) rfl ?_
      refine vr_i2l C nd_Nj_digest_84 rfl ?_
      refine vr_ladd C nd_Nj_digest_85 rfl ?_
      refine vr_lst (ls' := [some (.ref 0), some (.long (((31 : Int64) * v1) + (Int32.toInt64 w5))), none, some (.int f3), some (.int v4)]) C nd_Nj_digest_86 rfl rfl ?_
      refine vr_inc (v := (v4 + (1 : Int32))) (ls' := [some (.ref 0), some (.long (((31 : Int64) * v1) + (Int32.toInt64 w5))), none, some (.int f3), some (.int (v4 + (1 : Int32)))]) C nd_Nj_digest_87 rfl rfl rfl rfl rfl ?_
      refine vr_go C nd_Nj_digest_90 ?_
      exact (ih _ _ _ h hk)
theorem lw_Nj_digest_48 {G : nj_G} {ad : Nat → Nat} (C : nj_C G nb_Nj_digest 5 "NobodyJoins" nr_Nj_digest) (s : NjS) : ∀ (n : Nat) (v1 : Int64) (v3 : Int32) (x : Int64), lo_Nj_digest_48 s n v1 v3 = some x → nj_V G ad 0 0 99 [some (.ref 0), some (.long x), none, none, none] [] (rp_Nj s) → nj_V G ad 0 0 48 [some (.ref 0), some (.long v1), none, some (.int v3), none] [] (rp_Nj s) := by
  intro n
  induction n with
  | zero => intro v1 v3 x h; rw [lo_Nj_digest_48] at h; cases h
  | succ n ih =>
    intro v1 v3 x h hk
    rw [lo_Nj_digest_48] at h
    refine vr_il C nd_Nj_digest_48 rfl ?_
    refine vr_al C nd_Nj_digest_49 rfl ?_
    refine vr_get (v := .ref 23) C nd_Nj_digest_50 rfl fl_Nj_24 (at_Nj_0 s) rfl ?_
    refine vr_get (v := .int (cl_children (nj_club s))) C nd_Nj_digest_53 rfl fl_Nj_132 (at_Nj_23 s) rfl ?_
    refine vr_cm_ge C nd_Nj_digest_56 (fun hc => ?_) (fun hc => ?_)
    · have h := no_t hc h
      have h := no_s h
      subst h
      exact vr_wk [3] rfl hk
    · have h := no_f hc h
      refine vr_ic C nd_Nj_digest_59 ?_
      refine vr_is (ls' := [some (.ref 0), some (.long v1), none, some (.int v3), some (.int (0 : Int32))]) C nd_Nj_digest_60 rfl rfl ?_
      obtain ⟨x7, hX8, h⟩ := no_b h
      refine lw_Nj_digest_62 C s v3 nj_fu _ _ x7 hX8 ?_
      refine vr_inc (v := (v3 + (1 : Int32))) (ls' := [some (.ref 0), some (.long x7), none, some (.int (v3 + (1 : Int32))), none]) C nd_Nj_digest_93 rfl rfl rfl rfl rfl ?_
      refine vr_go C nd_Nj_digest_96 ?_
      exact (ih _ _ _ h hk)
theorem lw_Nj_digest_101 {G : nj_G} {ad : Nat → Nat} (C : nj_C G nb_Nj_digest 5 "NobodyJoins" nr_Nj_digest) (s : NjS) : ∀ (n : Nat) (v1 : Int64) (v3 : Int32) (x : Int64), lo_Nj_digest_101 s n v1 v3 = some x → nj_V G ad 0 0 145 [some (.ref 0), some (.long x), none, none, none] [] (rp_Nj s) → nj_V G ad 0 0 101 [some (.ref 0), some (.long v1), none, some (.int v3), none] [] (rp_Nj s) := by
  intro n
  induction n with
  | zero => intro v1 v3 x h; rw [lo_Nj_digest_101] at h; cases h
  | succ n ih =>
    intro v1 v3 x h hk
    rw [lo_Nj_digest_101] at h
    refine vr_il C nd_Nj_digest_101 rfl ?_
    refine vr_ic C nd_Nj_digest_102 ?_
    refine vr_cm_ge C nd_Nj_digest_103 (fun hc => ?_) (fun hc => ?_)
    · have h := no_t hc h
      have h := no_s h
      subst h
      exact vr_wk [3] rfl hk
    · have h := no_f hc h
      refine vr_ldc2 C nd_Nj_digest_106 rfl kl_Nj_301 ?_
      refine vr_ll C nd_Nj_digest_109 rfl ?_
      refine vr_lmul C nd_Nj_digest_110 rfl ?_
      refine vr_al C nd_Nj_digest_111 rfl ?_
      refine vr_get (v := .ref 33) C nd_Nj_digest_112 rfl fl_Nj_31 (at_Nj_0 s) rfl ?_
      refine vr_il C nd_Nj_digest_115 rfl ?_
      obtain ⟨hN11, h⟩ := no_i h
      refine vr_aald5 (y := (34 + 5 * (nj_n v3))) C nd_Nj_digest_116 rfl (at_Nj_33 s) hN11 rfl ?_
      refine vr_get (v := .int (cl_children ((nj_kept s) (nj_n v3)))) C nd_Nj_digest_117 rfl fl_Nj_132 (at_Nj_Kept_0 s (nj_n v3) (nj_lt_of hN11)) rfl ?_
      obtain ⟨p12, hP14, h⟩ := no_b h
      have hj : nj_V G ad 0 0 136 [some (.ref 0), none, none, some (.int v3), none] [.int p12, .long ((31 : Int64) * v1)] (rp_Nj s) := by
        refine vr_i2l C nd_Nj_digest_136 rfl ?_
        refine vr_ladd C nd_Nj_digest_137 rfl ?_
        refine vr_lst (ls' := [some (.ref 0), some (.long (((31 : Int64) * v1) + (Int32.toInt64 p12))), none, some (.int v3), none]) C nd_Nj_digest_138 rfl rfl ?_
        refine vr_inc (v := (v3 + (1 : Int32))) (ls' := [some (.ref 0), some (.long (((31 : Int64) * v1) + (Int32.toInt64 p12))), none, some (.int (v3 + (1 : Int32))), none]) C nd_Nj_digest_139 rfl rfl rfl rfl rfl ?_
        refine vr_go C nd_Nj_digest_142 ?_
        exact (ih _ _ _ h hk)
      clear h
      have h := hP14
      clear hP14
      refine vr_if_ne C nd_Nj_digest_120 (fun hc => ?_) (fun hc => ?_)
      · have h := no_f hc h
        refine vr_al C nd_Nj_digest_127 rfl ?_
        refine vr_get (v := .ref 33) C nd_Nj_digest_128 rfl fl_Nj_31 (at_Nj_0 s) rfl ?_
        refine vr_il C nd_Nj_digest_131 rfl ?_
        obtain ⟨hN13, h⟩ := no_i h
        refine vr_aald5 (y := (34 + 5 * (nj_n v3))) C nd_Nj_digest_132 rfl (at_Nj_33 s) hN13 rfl ?_
        refine vr_get (v := .int (cl_dc ((nj_kept s) (nj_n v3)))) C nd_Nj_digest_133 rfl fl_Nj_147 (at_Nj_Kept_0 s (nj_n v3) (nj_lt_of hN13)) rfl ?_
        have h := no_s h
        subst h
        exact vr_wk [1] rfl hj
      · have h := no_t hc h
        refine vr_ic C nd_Nj_digest_123 ?_
        refine vr_go C nd_Nj_digest_124 ?_
        have h := no_s h
        subst h
        exact vr_wk [1] rfl hj
theorem lw_Nj_digest_147 {G : nj_G} {ad : Nat → Nat} (C : nj_C G nb_Nj_digest 5 "NobodyJoins" nr_Nj_digest) (s : NjS) : ∀ (n : Nat) (v1 : Int64) (v3 : Int32) (x : Int64), lo_Nj_digest_147 s n v1 v3 = some x → nj_V G ad 0 0 170 [some (.ref 0), some (.long x), none, none, none] [] (rp_Nj s) → nj_V G ad 0 0 147 [some (.ref 0), some (.long v1), none, some (.int v3), none] [] (rp_Nj s) := by
  intro n
  induction n with
  | zero => intro v1 v3 x h; rw [lo_Nj_digest_147] at h; cases h
  | succ n ih =>
    intro v1 v3 x h hk
    rw [lo_Nj_digest_147] at h
    refine vr_il C nd_Nj_digest_147 rfl ?_
    refine vr_ic C nd_Nj_digest_148 ?_
    refine vr_cm_ge C nd_Nj_digest_150 (fun hc => ?_) (fun hc => ?_)
    · have h := no_t hc h
      have h := no_s h
      subst h
      exact vr_wk [3] rfl hk
    · have h := no_f hc h
      refine vr_al C nd_Nj_digest_153 rfl ?_
      refine vr_get (v := .ref 1) C nd_Nj_digest_154 rfl fl_Nj_11 (at_Nj_0 s) rfl ?_
      refine vr_il C nd_Nj_digest_157 rfl ?_
      obtain ⟨hN17, h⟩ := no_i h
      refine vr_aald3 (y := (2 + 2 * (nj_n v3))) C nd_Nj_digest_158 rfl (at_Nj_1 s) hN17 rfl ?_
      refine vr_ll C nd_Nj_digest_159 rfl ?_
      obtain ⟨w18, hV19, h⟩ := no_b h
      refine vr_cVlp [(2 + 2 * (nj_n v3)), (3 + 2 * (nj_n v3))] [.long v1] [] C nd_Nj_digest_160 rfl ml_Nj_306 my_Row_digestedInto (co_Row_digestedInto ((nj_rows s) (nj_n v3)) v1 w18 hV19) (em_Nj_Row s (nj_n v3) (nj_lt_of hN17)) ⟨_, _, _, rfl, rfl, rfl⟩ rfl rfl ⟨rfl, rfl, rfl, rfl⟩ (Nat.zero_le _) (Nat.zero_le _) rfl ?_
      refine vr_lst (ls' := [some (.ref 0), some (.long w18), none, some (.int v3), none]) C nd_Nj_digest_163 rfl rfl ?_
      refine vr_inc (v := (v3 + (1 : Int32))) (ls' := [some (.ref 0), some (.long w18), none, some (.int (v3 + (1 : Int32))), none]) C nd_Nj_digest_164 rfl rfl rfl rfl rfl ?_
      refine vr_go C nd_Nj_digest_167 ?_
      exact (ih _ _ _ h hk)
theorem lw_Nj_digest_172 {G : nj_G} {ad : Nat → Nat} (C : nj_C G nb_Nj_digest 5 "NobodyJoins" nr_Nj_digest) (s : NjS) : ∀ (n : Nat) (v1 : Int64) (v3 : Int32) (x : Int64), lo_Nj_digest_172 s n v1 v3 = some x → nj_V G ad 0 0 194 [none, some (.long x), none, none, none] [] (rp_Nj s) → nj_V G ad 0 0 172 [some (.ref 0), some (.long v1), none, some (.int v3), none] [] (rp_Nj s) := by
  intro n
  induction n with
  | zero => intro v1 v3 x h; rw [lo_Nj_digest_172] at h; cases h
  | succ n ih =>
    intro v1 v3 x h hk
    rw [lo_Nj_digest_172] at h
    refine vr_il C nd_Nj_digest_172 rfl ?_
    refine vr_ic C nd_Nj_digest_173 ?_
    refine vr_cm_ge C nd_Nj_digest_174 (fun hc => ?_) (fun hc => ?_)
    · have h := no_t hc h
      have h := no_s h
      subst h
      exact vr_wk [0, 3] rfl hk
    · have h := no_f hc h
      refine vr_al C nd_Nj_digest_177 rfl ?_
      refine vr_get (v := .ref 14) C nd_Nj_digest_178 rfl fl_Nj_17 (at_Nj_0 s) rfl ?_
      refine vr_il C nd_Nj_digest_181 rfl ?_
      obtain ⟨hN22, h⟩ := no_i h
      refine vr_aald4 (y := (15 + 2 * (nj_n v3))) C nd_Nj_digest_182 rfl (at_Nj_14 s) hN22 rfl ?_
      refine vr_ll C nd_Nj_digest_183 rfl ?_
      obtain ⟨w23, hV24, h⟩ := no_b h
      refine vr_cVlp [(15 + 2 * (nj_n v3)), (16 + 2 * (nj_n v3))] [.long v1] [] C nd_Nj_digest_184 rfl ml_Nj_310 my_Text_digestedInto (co_Text_digestedInto ((nj_texts s) (nj_n v3)) v1 w23 hV24) (em_Nj_Text s (nj_n v3) (nj_lt_of hN22)) ⟨_, _, _, rfl, rfl, rfl⟩ rfl rfl ⟨rfl, rfl, rfl, rfl⟩ (Nat.zero_le _) (Nat.zero_le _) rfl ?_
      refine vr_lst (ls' := [some (.ref 0), some (.long w23), none, some (.int v3), none]) C nd_Nj_digest_187 rfl rfl ?_
      refine vr_inc (v := (v3 + (1 : Int32))) (ls' := [some (.ref 0), some (.long w23), none, some (.int (v3 + (1 : Int32))), none]) C nd_Nj_digest_188 rfl rfl rfl rfl rfl ?_
      refine vr_go C nd_Nj_digest_191 ?_
      exact (ih _ _ _ h hk)
theorem co_Nj_digest (s : NjS) (x : Int64) (h : mo_Nj_digest s = some x) : nj_Con ny_Nj_digest nb_Nj_digest 5 (some .long) nr_Nj_digest (rp_Nj s) [.ref 0] (some (.long x)) (rp_Nj s) := by
  rw [mo_Nj_digest] at h
  refine nj_con (by decide) rfl 4 rfl (fun G ad C hq => ?_)
  have C : nj_C G nb_Nj_digest 5 "NobodyJoins" nr_Nj_digest := C
  show nj_V G ad 0 0 0 [some (.ref 0), none, none, none, none] [] (rp_Nj s)
  refine vr_ldc2 C nd_Nj_digest_0 rfl kl_Nj_299 ?_
  refine vr_lst (ls' := [some (.ref 0), some (.long (17 : Int64)), none, none, none]) C nd_Nj_digest_3 rfl rfl ?_
  refine vr_ic C nd_Nj_digest_4 ?_
  refine vr_is (ls' := [some (.ref 0), some (.long (17 : Int64)), none, some (.int (0 : Int32)), none]) C nd_Nj_digest_5 rfl rfl ?_
  obtain ⟨x3, hX4, h⟩ := no_b h
  refine lw_Nj_digest_6 C s nj_fu _ _ x3 hX4 ?_
  refine vr_ldc2 C nd_Nj_digest_31 rfl kl_Nj_301 ?_
  refine vr_ll C nd_Nj_digest_34 rfl ?_
  refine vr_lmul C nd_Nj_digest_35 rfl ?_
  refine vr_al C nd_Nj_digest_36 rfl ?_
  refine vr_get (v := .ref 23) C nd_Nj_digest_37 rfl fl_Nj_24 (at_Nj_0 s) rfl ?_
  refine vr_get (v := .int (cl_rule (nj_club s))) C nd_Nj_digest_40 rfl fl_Nj_150 (at_Nj_23 s) rfl ?_
  refine vr_i2l C nd_Nj_digest_43 rfl ?_
  refine vr_ladd C nd_Nj_digest_44 rfl ?_
  refine vr_lst (ls' := [some (.ref 0), some (.long (((31 : Int64) * x3) + (Int32.toInt64 (cl_rule (nj_club s))))), none, none, none]) C nd_Nj_digest_45 rfl rfl ?_
  refine vr_ic C nd_Nj_digest_46 ?_
  refine vr_is (ls' := [some (.ref 0), some (.long (((31 : Int64) * x3) + (Int32.toInt64 (cl_rule (nj_club s))))), none, some (.int (0 : Int32)), none]) C nd_Nj_digest_47 rfl rfl ?_
  obtain ⟨x9, hX10, h⟩ := no_b h
  refine lw_Nj_digest_48 C s nj_fu _ _ x9 hX10 ?_
  refine vr_ic C nd_Nj_digest_99 ?_
  refine vr_is (ls' := [some (.ref 0), some (.long x9), none, some (.int (0 : Int32)), none]) C nd_Nj_digest_100 rfl rfl ?_
  obtain ⟨x15, hX16, h⟩ := no_b h
  refine lw_Nj_digest_101 C s nj_fu _ _ x15 hX16 ?_
  refine vr_ic C nd_Nj_digest_145 ?_
  refine vr_is (ls' := [some (.ref 0), some (.long x15), none, some (.int (0 : Int32)), none]) C nd_Nj_digest_146 rfl rfl ?_
  obtain ⟨x20, hX21, h⟩ := no_b h
  refine lw_Nj_digest_147 C s nj_fu _ _ x20 hX21 ?_
  refine vr_ic C nd_Nj_digest_170 ?_
  refine vr_is (ls' := [some (.ref 0), some (.long x20), none, some (.int (0 : Int32)), none]) C nd_Nj_digest_171 rfl rfl ?_
  obtain ⟨x25, hX26, h⟩ := no_b h
  refine lw_Nj_digest_172 C s nj_fu _ _ x25 hX26 ?_
  refine vr_ll C nd_Nj_digest_194 rfl ?_
  have h := no_s h
  subst h
  exact vr_lret C hq nd_Nj_digest_195 rfl
