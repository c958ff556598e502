def RM_ND_isForm : Room := { frames := 0, cells := 0, slots := 0, locals := 0 }
set_option maxHeartbeats 4000000 in
set_option maxRecDepth 100000 in
theorem c_ND_isForm (l : Launch) (D : va_G) (ct : Nat → ClassId) (x0 : Int32) (r : Int32) (hf : ND_isForm x0 = some r) : Met l yX10_isForm (WS yX10_isForm cX10_isForm 1 (some .boolean)) RM_ND_isForm (va_Pc [.int x0] (PR D ct (w_ND_isForm ct))) (QR (some (.int r))) 0 0 (fun _ => False) := by
  refine kMetR yn_yX10_isForm rfl (Nat.le_of_ble_eq_true rfl) ?_
  intro p e s m args below meth c C hP ls hl
  have hl : lv_has ls 1 [(0, .int x0)] := hl
  obtain ⟨hx, hb, hr, hml, hown, hts, hlk, hK, hN⟩ := id C
  unfold ND_isForm at hf
  refine lv_iload_n hx hb dX10_isForm_0 rfl (lv_at hl 0 rfl) ?_
  refine lv_if_lt (tgt := 13) hx hb dX10_isForm_1 (by decide) (fun hc => ?_) (fun hc => ?_)
  · have hf := kpos hc hf
    refine lv_iconst (v := 0) hx hb dX10_isForm_13 (by decide) ?_
    have e1 := Option.some.inj hf
    subst e1
    exact kretRz C (by decide) dX10_isForm_14
  · have hf := kneg hc hf
    refine lv_iload_n hx hb dX10_isForm_4 rfl (lv_at hl 0 rfl) ?_
    refine lv_iconst (v := 3) hx hb dX10_isForm_5 (by decide) ?_
    refine lv_icmp_ge (tgt := 13) hx hb dX10_isForm_6 (by decide) (fun hc => ?_) (fun hc => ?_)
    · have hf := kpos hc hf
      refine lv_iconst (v := 0) hx hb dX10_isForm_13 (by decide) ?_
      have e1 := Option.some.inj hf
      subst e1
      exact kretRz C (by decide) dX10_isForm_14
    · have hf := kneg hc hf
      refine lv_iconst (v := 1) hx hb dX10_isForm_9 (by decide) ?_
      refine lv_goto (tgt := 14) hx hb dX10_isForm_10 (by decide) ?_
      have e1 := Option.some.inj hf
      subst e1
      exact kretRz C (by decide) dX10_isForm_14
def RM_Sh_become : Room := { frames := 0, cells := 0, slots := 0, locals := 0 }
set_option maxHeartbeats 4000000 in
set_option maxRecDepth 100000 in
theorem c_Sh_become (l : Launch) (D : va_G) (ct : Nat → ClassId) (a_this a_items : Nat) (f_form : Int32) (f_size : Int32) (x1 : Int32) (r_size : Int32) (sz : Nat) (hf : Sh_become f_size x1 = some r_size) : Met l yX5_become (WS yX5_become cX5_become 2 none) RM_Sh_become (va_Pc [.ref a_this, .int x1] (PM D ct sz (w_Sh_become ct a_this a_items f_form f_size))) (QM D none (w_Sh_become ct a_this a_items f_form r_size) (va_A (w_Sh_become ct a_this a_items f_form f_size) sz)) 0 0 (va_A (w_Sh_become ct a_this a_items f_form f_size) sz) := by
  refine kMetM yn_yX5_become rfl (Nat.le_of_ble_eq_true rfl) ?_
  intro p e s m args below meth c A C hA hP hD ls hl
  have hl : lv_has ls 2 [(0, .ref a_this), (1, .int x1)] := hl
  have hS : va_S A s.heap s.heap [] := va_S.rf
  obtain ⟨hx, hb, hr, hml, hown, hts, hlk, hK, hN⟩ := id C
  unfold Sh_become at hf
  refine lv_aload_n hx hb dX5_become_0 rfl (lv_at hl 0 rfl) ?_
  refine lv_iload_n hx hb dX5_become_1 rfl (lv_at hl 1 rfl) ?_
  refine va_put (ci := 5) (v := .int x1) (ty := .int) (C := RX5) (T := TX5) (N := 3) hx hb hts inX5 tyX5 tyX5_ok nmX5 hown hK hP hD hS 0 rfl rfl 2 (by decide) (hts _ tw_275) (fun _ h9 => h9) rfl (tyX5_ok 2 (by decide)) rfl rfl (Nat.le_of_ble_eq_true rfl) dX5_become_2 (fun H locs hP hD hS => ?_)
  have hP : va_P D vwCl (w_Sh_become ct a_this a_items f_form x1) H := hP
  have hD : va_D A (w_Sh_become ct a_this a_items f_form x1) := hD
  have e1 := Option.some.inj hf
  subst e1
  exact kretMv C hP hD hS dX5_become_5
def RM_Sh_begin : Room := { frames := 1, cells := 0, slots := 0, locals := 23 }
set_option maxHeartbeats 4000000 in
set_option maxRecDepth 100000 in
theorem c_Sh_begin (l : Launch) (D : va_G) (ct : Nat → ClassId) (a_this a_items : Nat) (F : Nat) (f_form : Int32) (f_size : Int32) (f_items : Nat → Int32) (x1 : Int32) (x2 : Int32) (r_form : Int32) (r_size : Int32) (r_items : Nat → Int32) (sz : Nat) (hf : Sh_begin F f_form f_size f_items x1 x2 = some (r_form, r_size, r_items)) : Met l yX5_begin (WS yX5_begin cX5_begin 3 none) RM_Sh_begin (va_Pc [.ref a_this, .int x1, .int x2] (PM D ct sz (w_Sh_begin ct a_this a_items f_form f_size f_items))) (QM D none (w_Sh_begin ct a_this a_items r_form r_size r_items) (va_A (w_Sh_begin ct a_this a_items f_form f_size f_items) sz)) 0 0 (va_A (w_Sh_begin ct a_this a_items f_form f_size f_items) sz) := by
  refine kMetM yn_yX5_begin rfl (Nat.le_of_ble_eq_true rfl) ?_
  intro p e s m args below meth c A C hA hP hD ls hl
  have hl : lv_has ls 3 [(0, .ref a_this), (1, .int x1), (2, .int x2)] := hl
  have hS : va_S A s.heap s.heap [] := va_S.rf
  obtain ⟨hx, hb, hr, hml, hown, hts, hlk, hK, hN⟩ := id C
  unfold Sh_begin at hf
  refine lv_aload_n hx hb dX5_begin_0 rfl (lv_at hl 0 rfl) ?_
  refine lv_iload_n hx hb dX5_begin_1 rfl (lv_at hl 1 rfl) ?_
  refine va_put (ci := 5) (v := .int x1) (ty := .int) (C := RX5) (T := TX5) (N := 3) hx hb hts inX5 tyX5 tyX5_ok nmX5 hown hK hP hD hS 0 rfl rfl 1 (by decide) (hts _ tw_274) (fun _ h9 => h9) rfl (tyX5_ok 1 (by decide)) rfl rfl (Nat.le_of_ble_eq_true rfl) dX5_begin_2 (fun H locs hP hD hS => ?_)
  have hP : va_P D vwCl (w_Sh_begin ct a_this a_items x1 f_size f_items) H := hP
  have hD : va_D A (w_Sh_begin ct a_this a_items x1 f_size f_items) := hD
  refine lv_aload_n hx hb dX5_begin_5 rfl (lv_at hl 0 rfl) ?_
  refine lv_iload_n hx hb dX5_begin_6 rfl (lv_at hl 2 rfl) ?_
  refine lv_bipush (v := 60) hx hb dX5_begin_7 (by decide) ?_
  refine kmmin hx hb (hml.trans hl.1.symm) hown (hts _ tw_833) (hts _ tw_431) (hts _ tw_73) (hts _ tw_432) (Nat.le_of_ble_eq_true rfl) (Nat.le_of_ble_eq_true rfl) (Nat.zero_le _) (Nat.zero_le _) dX5_begin_9 ?_
  obtain ⟨f_size_12, hc12, hf⟩ := cb1_some hf
  refine kcMV (q0 := 0) (ci := 5) (As := [.int (mnI x2 60)]) (rest := []) (st1 := []) (wf := (w_Sh_begin ct a_this a_items x1 f_size_12 f_items)) C (c_Sh_become l D ct a_this a_items x1 f_size (mnI x2 60) f_size_12 _ hc12) ⟨rfl, rfl⟩ yn_yX5_become tw_835 tw_836 tw_834 ⟨Nat.le_of_ble_eq_true rfl, Nat.le_of_ble_eq_true rfl⟩ ⟨Nat.zero_le _, Nat.zero_le _⟩ hP hD hS hA [0] [1] [1, 0] rfl rfl rfl rfl rfl (by decide) rfl rfl rfl rfl rfl rfl hl.1 rfl rfl (Nat.le_of_ble_eq_true rfl) dX5_begin_12 rfl (fun H locs hP hD hS => ?_)
  refine lv_aload_n hx hb dX5_begin_15 rfl (lv_at hl 0 rfl) ?_
  refine va_get (ci := 5) (v := .ref a_items) (C := RX5) (T := TX5) (N := 3) hx hb hts inX5 hown hK hP 0 rfl rfl 0 (by decide) (hts _ tw_273) (fun _ h9 => h9) rfl dX5_begin_16 ?_
  refine lv_iconst (v := 0) hx hb dX5_begin_19 (by decide) ?_
  obtain ⟨f_items_20, hc20, hf⟩ := cb1_some hf
  refine kcMS (As := [.ref a_items, .int 0]) (rest := []) (st1 := []) (wf := (w_Sh_begin ct a_this a_items x1 f_size_12 f_items_20)) C (c_Jarr_fill l D ct a_items 60 F f_items 0 f_items_20 _ hc20) ⟨rfl, rfl⟩ yn_yJ7_fill_53178 tw_400 tw_838 ⟨Nat.le_of_ble_eq_true rfl, Nat.le_of_ble_eq_true rfl⟩ ⟨Nat.zero_le _, Nat.zero_le _⟩ hP hD hS hA [1] [0] [0, 1] rfl rfl rfl rfl rfl (by decide) rfl rfl rfl hl.1 rfl rfl (Nat.le_of_ble_eq_true rfl) dX5_begin_20 rfl (fun H locs hP hD hS => ?_)
  obtain ⟨e1, e2, e3⟩ := ti3 hf
  subst e1; subst e2; subst e3
  exact kretMv C hP hD hS dX5_begin_23
def RM_ND_sheet : Room := { frames := 2, cells := 0, slots := 0, locals := 45 }
set_option maxHeartbeats 4000000 in
set_option maxRecDepth 100000 in
theorem c_ND_sheet (l : Launch) (D : va_G) (ct : Nat → ClassId) (a_this a_texts a_names a_pieces a_song a_fitting a_deal a_guesses a_wise a_spy a_sheets a_sheets0 a_sheets1 a_sheets2 a_sheets3 a_sheets0_items a_sheets1_items a_sheets2_items a_sheets3_items : Nat) (f_stale : Int32) (F : Nat) (f_finding : Int32) (f_sheets0_form : Int32) (f_sheets0_size : Int32) (f_sheets0_items : Nat → Int32) (f_sheets1_form : Int32) (f_sheets1_size : Int32) (f_sheets1_items : Nat → Int32) (f_sheets2_form : Int32) (f_sheets2_size : Int32) (f_sheets2_items : Nat → Int32) (f_sheets3_form : Int32) (f_sheets3_size : Int32) (f_sheets3_items : Nat → Int32) (x1 : Int32) (x2 : Int32) (x3 : Int32) (r : Int32) (r_finding : Int32) (r_sheets0_form : Int32) (r_sheets0_size : Int32) (r_sheets0_items : Nat → Int32) (r_sheets1_form : Int32) (r_sheets1_size : Int32) (r_sheets1_items : Nat → Int32) (r_sheets2_form : Int32) (r_sheets2_size : Int32) (r_sheets2_items : Nat → Int32) (r_sheets3_form : Int32) (r_sheets3_size : Int32) (r_sheets3_items : Nat → Int32) (sz : Nat) (hf : ND_sheet F f_finding f_sheets0_form f_sheets0_size f_sheets0_items f_sheets1_form f_sheets1_size f_sheets1_items f_sheets2_form f_sheets2_size f_sheets2_items f_sheets3_form f_sheets3_size f_sheets3_items x1 x2 x3 = some (r, r_finding, r_sheets0_form, r_sheets0_size, r_sheets0_items, r_sheets1_form, r_sheets1_size, r_sheets1_items, r_sheets2_form, r_sheets2_size, r_sheets2_items, r_sheets3_form, r_sheets3_size, r_sheets3_items)) : Met l yX10_sheet (WS yX10_sheet cX10_sheet 4 (some .int)) RM_ND_sheet (va_Pc [.ref a_this, .int x1, .int x2, .int x3] (PM D ct sz (w_ND_sheet ct a_this a_texts a_names a_pieces a_song a_fitting a_deal a_guesses a_wise a_spy a_sheets a_sheets0 a_sheets1 a_sheets2 a_sheets3 a_sheets0_items a_sheets1_items a_sheets2_items a_sheets3_items f_stale f_finding f_sheets0_form f_sheets0_size f_sheets0_items f_sheets1_form f_sheets1_size f_sheets1_items f_sheets2_form f_sheets2_size f_sheets2_items f_sheets3_form f_sheets3_size f_sheets3_items))) (QM D (some (.int r)) (w_ND_sheet ct a_this a_texts a_names a_pieces a_song a_fitting a_deal a_guesses a_wise a_spy a_sheets a_sheets0 a_sheets1 a_sheets2 a_sheets3 a_sheets0_items a_sheets1_items a_sheets2_items a_sheets3_items f_stale r_finding r_sheets0_form r_sheets0_size r_sheets0_items r_sheets1_form r_sheets1_size r_sheets1_items r_sheets2_form r_sheets2_size r_sheets2_items r_sheets3_form r_sheets3_size r_sheets3_items) (va_A (w_ND_sheet ct a_this a_texts a_names a_pieces a_song a_fitting a_deal a_guesses a_wise a_spy a_sheets a_sheets0 a_sheets1 a_sheets2 a_sheets3 a_sheets0_items a_sheets1_items a_sheets2_items a_sheets3_items f_stale f_finding f_sheets0_form f_sheets0_size f_sheets0_items f_sheets1_form f_sheets1_size f_sheets1_items f_sheets2_form f_sheets2_size f_sheets2_items f_sheets3_form f_sheets3_size f_sheets3_items) sz)) 0 0 (va_A (w_ND_sheet ct a_this a_texts a_names a_pieces a_song a_fitting a_deal a_guesses a_wise a_spy a_sheets a_sheets0 a_sheets1 a_sheets2 a_sheets3 a_sheets0_items a_sheets1_items a_sheets2_items a_sheets3_items f_stale f_finding f_sheets0_form f_sheets0_size f_sheets0_items f_sheets1_form f_sheets1_size f_sheets1_items f_sheets2_form f_sheets2_size f_sheets2_items f_sheets3_form f_sheets3_size f_sheets3_items) sz) := by
  refine kMetM yn_yX10_sheet rfl (Nat.le_of_ble_eq_true rfl) ?_
  intro p e s m args below meth c A C hA hP hD ls hl
  have hl : lv_has ls 4 [(0, .ref a_this), (1, .int x1), (2, .int x2), (3, .int x3)] := hl
  have hS : va_S A s.heap s.heap [] := va_S.rf
  obtain ⟨hx, hb, hr, hml, hown, hts, hlk, hK, hN⟩ := id C
  unfold ND_sheet at hf
  refine lv_iload_n hx hb dX10_sheet_0 rfl (lv_at hl 1 rfl) ?_
  obtain ⟨v1, hc1, hf⟩ := cb1_some hf
  refine kcRS (As := [.int x1]) (rest := []) (st1 := [.int v1]) C (c_ND_isSheet l D ct x1 v1 hc1) ⟨rfl, rfl⟩ yn_yX10_isSheet tw_550 tw_549 ⟨Nat.le_of_ble_eq_true rfl, Nat.le_of_ble_eq_true rfl⟩ ⟨Nat.zero_le _, Nat.zero_le _⟩ hP [] rfl hl.1 rfl rfl (Nat.le_of_ble_eq_true rfl) dX10_sheet_1 rfl ?_
  refine lv_if_eq (tgt := 20) hx hb dX10_sheet_4 (by decide) (fun hc => ?_) (fun hc => ?_)
  · have hf := kpos hc hf
    refine lv_bipush (v := (-2)) hx hb dX10_sheet_20 (by decide) ?_
    obtain ⟨e1, e2, e3, e4, e5, e6, e7, e8, e9, e10, e11, e12, e13, e14⟩ := ti14 hf
    subst e1; subst e2; subst e3; subst e4; subst e5; subst e6; subst e7; subst e8; subst e9; subst e10; subst e11; subst e12; subst e13; subst e14
    exact kretM C hP hD hS dX10_sheet_22
  · have hf := kneg hc hf
    refine lv_iload_n hx hb dX10_sheet_7 rfl (lv_at hl 2 rfl) ?_
    obtain ⟨v8, hc8, hf⟩ := cb1_some hf
    refine kcRS (As := [.int x2]) (rest := []) (st1 := [.int v8]) C (c_ND_isForm l D ct x2 v8 hc8) ⟨rfl, rfl⟩ yn_yX10_isForm tw_827 tw_826 ⟨Nat.le_of_ble_eq_true rfl, Nat.le_of_ble_eq_true rfl⟩ ⟨Nat.zero_le _, Nat.zero_le _⟩ hP [] rfl hl.1 rfl rfl (Nat.le_of_ble_eq_true rfl) dX10_sheet_8 rfl ?_
    refine lv_if_eq (tgt := 20) hx hb dX10_sheet_11 (by decide) (fun hc => ?_) (fun hc => ?_)
    · have hf := kpos hc hf
      refine lv_bipush (v := (-2)) hx hb dX10_sheet_20 (by decide) ?_
      obtain ⟨e1, e2, e3, e4, e5, e6, e7, e8, e9, e10, e11, e12, e13, e14⟩ := ti14 hf
      subst e1; subst e2; subst e3; subst e4; subst e5; subst e6; subst e7; subst e8; subst e9; subst e10; subst e11; subst e12; subst e13; subst e14
      exact kretM C hP hD hS dX10_sheet_22
    · have hf := kneg hc hf
      refine lv_iload_n hx hb dX10_sheet_14 rfl (lv_at hl 3 rfl) ?_
      refine lv_bipush (v := 60) hx hb dX10_sheet_15 (by decide) ?_
      refine lv_icmp_le (tgt := 23) hx hb dX10_sheet_17 (by decide) (fun hc => ?_) (fun hc => ?_)
      · have hf := kpos hc hf
        refine lv_iload_n hx hb dX10_sheet_23 rfl (lv_at hl 3 rfl) ?_
        refine lv_if_ge (tgt := 33) hx hb dX10_sheet_24 (by decide) (fun hc => ?_) (fun hc => ?_)
        · have hf := kpos hc hf
          refine lv_aload_n hx hb dX10_sheet_33 rfl (lv_at hl 0 rfl) ?_
          refine va_get (ci := 10) (v := .ref a_sheets) (C := RX10) (T := TX10) (N := 12) hx hb hts inX10 hown hK hP 0 rfl rfl 9 (by decide) (hts _ tw_292) (fun _ h9 => h9) rfl dX10_sheet_34 ?_
          refine lv_iload_n hx hb dX10_sheet_37 rfl (lv_at hl 1 rfl) ?_
          by_cases hs_1 : x1 = 0
          · have hf := kpos hs_1 hf
            refine kaald hx hb hK hP 1 4 rfl rfl (k := 0) (by rw [hs_1]; rfl) rfl (by decide) dX10_sheet_38 ?_
            refine lv_iload_n hx hb dX10_sheet_39 rfl (lv_at hl 2 rfl) ?_
            refine lv_iload_n hx hb dX10_sheet_40 rfl (lv_at hl 3 rfl) ?_
            obtain ⟨f_sheets0_form_41, f_sheets0_size_41, f_sheets0_items_41, hc41, hf⟩ := cb3_some hf
            refine kcMV (q0 := 2) (ci := 5) (As := [.int x2, .int x3]) (rest := []) (st1 := []) (wf := (w_ND_sheet ct a_this a_texts a_names a_pieces a_song a_fitting a_deal a_guesses a_wise a_spy a_sheets a_sheets0 a_sheets1 a_sheets2 a_sheets3 a_sheets0_items a_sheets1_items a_sheets2_items a_sheets3_items f_stale f_finding f_sheets0_form_41 f_sheets0_size_41 f_sheets0_items_41 f_sheets1_form f_sheets1_size f_sheets1_items f_sheets2_form f_sheets2_size f_sheets2_items f_sheets3_form f_sheets3_size f_sheets3_items)) C (c_Sh_begin l D ct a_sheets0 a_sheets0_items F f_sheets0_form f_sheets0_size f_sheets0_items x2 x3 f_sheets0_form_41 f_sheets0_size_41 f_sheets0_items_41 _ hc41) ⟨rfl, rfl⟩ yn_yX5_begin tw_830 tw_831 tw_829 ⟨Nat.le_of_ble_eq_true rfl, Nat.le_of_ble_eq_true rfl⟩ ⟨Nat.zero_le _, Nat.zero_le _⟩ hP hD hS hA [2, 3] [0, 1, 4, 5, 6, 7, 8, 9] [0, 1, 8, 9, 2, 3, 4, 5, 6, 7] rfl rfl rfl rfl rfl (by decide) rfl rfl rfl rfl rfl rfl hl.1 rfl rfl (Nat.le_of_ble_eq_true rfl) dX10_sheet_41 rfl (fun H locs hP hD hS => ?_)
            refine lv_iload_n hx hb dX10_sheet_44 rfl (lv_at hl 3 rfl) ?_
            obtain ⟨e1, e2, e3, e4, e5, e6, e7, e8, e9, e10, e11, e12, e13, e14⟩ := ti14 hf
            subst e1; subst e2; subst e3; subst e4; subst e5; subst e6; subst e7; subst e8; subst e9; subst e10; subst e11; subst e12; subst e13; subst e14
            exact kretM C hP hD hS dX10_sheet_45
          · have hf := kneg hs_1 hf
            by_cases hs_1 : x1 = 1
            · have hf := kpos hs_1 hf
              refine kaald hx hb hK hP 1 4 rfl rfl (k := 1) (by rw [hs_1]; rfl) rfl (by decide) dX10_sheet_38 ?_
              refine lv_iload_n hx hb dX10_sheet_39 rfl (lv_at hl 2 rfl) ?_
              refine lv_iload_n hx hb dX10_sheet_40 rfl (lv_at hl 3 rfl) ?_
              obtain ⟨f_sheets1_form_41, f_sheets1_size_41, f_sheets1_items_41, hc41, hf⟩ := cb3_some hf
              refine kcMV (q0 := 4) (ci := 5) (As := [.int x2, .int x3]) (rest := []) (st1 := []) (wf := (w_ND_sheet ct a_this a_texts a_names a_pieces a_song a_fitting a_deal a_guesses a_wise a_spy a_sheets a_sheets0 a_sheets1 a_sheets2 a_sheets3 a_sheets0_items a_sheets1_items a_sheets2_items a_sheets3_items f_stale f_finding f_sheets0_form f_sheets0_size f_sheets0_items f_sheets1_form_41 f_sheets1_size_41 f_sheets1_items_41 f_sheets2_form f_sheets2_size f_sheets2_items f_sheets3_form f_sheets3_size f_sheets3_items)) C (c_Sh_begin l D ct a_sheets1 a_sheets1_items F f_sheets1_form f_sheets1_size f_sheets1_items x2 x3 f_sheets1_form_41 f_sheets1_size_41 f_sheets1_items_41 _ hc41) ⟨rfl, rfl⟩ yn_yX5_begin tw_830 tw_831 tw_829 ⟨Nat.le_of_ble_eq_true rfl, Nat.le_of_ble_eq_true rfl⟩ ⟨Nat.zero_le _, Nat.zero_le _⟩ hP hD hS hA [4, 5] [0, 1, 2, 3, 6, 7, 8, 9] [0, 1, 2, 3, 8, 9, 4, 5, 6, 7] rfl rfl rfl rfl rfl (by decide) rfl rfl rfl rfl rfl rfl hl.1 rfl rfl (Nat.le_of_ble_eq_true rfl) dX10_sheet_41 rfl (fun H locs hP hD hS => ?_)
              refine lv_iload_n hx hb dX10_sheet_44 rfl (lv_at hl 3 rfl) ?_
              obtain ⟨e1, e2, e3, e4, e5, e6, e7, e8, e9, e10, e11, e12, e13, e14⟩ := ti14 hf
              subst e1; subst e2; subst e3; subst e4; subst e5; subst e6; subst e7; subst e8; subst e9; subst e10; subst e11; subst e12; subst e13; subst e14
              exact kretM C hP hD hS dX10_sheet_45
            · have hf := kneg hs_1 hf
              by_cases hs_1 : x1 = 2
              · have hf := kpos hs_1 hf
                refine kaald hx hb hK hP 1 4 rfl rfl (k := 2) (by rw [hs_1]; rfl) rfl (by decide) dX10_sheet_38 ?_
                refine lv_iload_n hx hb dX10_sheet_39 rfl (lv_at hl 2 rfl) ?_
                refine lv_iload_n hx hb dX10_sheet_40 rfl (lv_at hl 3 rfl) ?_
                obtain ⟨f_sheets2_form_41, f_sheets2_size_41, f_sheets2_items_41, hc41, hf⟩ := cb3_some hf
                refine kcMV (q0 := 6) (ci := 5) (As := [.int x2, .int x3]) (rest := []) (st1 := []) (wf := (w_ND_sheet ct a_this a_texts a_names a_pieces a_song a_fitting a_deal a_guesses a_wise a_spy a_sheets a_sheets0 a_sheets1 a_sheets2 a_sheets3 a_sheets0_items a_sheets1_items a_sheets2_items a_sheets3_items f_stale f_finding f_sheets0_form f_sheets0_size f_sheets0_items f_sheets1_form f_sheets1_size f_sheets1_items f_sheets2_form_41 f_sheets2_size_41 f_sheets2_items_41 f_sheets3_form f_sheets3_size f_sheets3_items)) C (c_Sh_begin l D ct a_sheets2 a_sheets2_items F f_sheets2_form f_sheets2_size f_sheets2_items x2 x3 f_sheets2_form_41 f_sheets2_size_41 f_sheets2_items_41 _ hc41) ⟨rfl, rfl⟩ yn_yX5_begin tw_830 tw_831 tw_829 ⟨Nat.le_of_ble_eq_true rfl, Nat.le_of_ble_eq_true rfl⟩ ⟨Nat.zero_le _, Nat.zero_le _⟩ hP hD hS hA [6, 7] [0, 1, 2, 3, 4, 5, 8, 9] [0, 1, 2, 3, 4, 5, 8, 9, 6, 7] rfl rfl rfl rfl rfl (by decide) rfl rfl rfl rfl rfl rfl hl.1 rfl rfl (Nat.le_of_ble_eq_true rfl) dX10_sheet_41 rfl (fun H locs hP hD hS => ?_)
                refine lv_iload_n hx hb dX10_sheet_44 rfl (lv_at hl 3 rfl) ?_
                obtain ⟨e1, e2, e3, e4, e5, e6, e7, e8, e9, e10, e11, e12, e13, e14⟩ := ti14 hf
                subst e1; subst e2; subst e3; subst e4; subst e5; subst e6; subst e7; subst e8; subst e9; subst e10; subst e11; subst e12; subst e13; subst e14
                exact kretM C hP hD hS dX10_sheet_45
              · have hf := kneg hs_1 hf
                by_cases hs_1 : x1 = 3
                · have hf := kpos hs_1 hf
                  refine kaald hx hb hK hP 1 4 rfl rfl (k := 3) (by rw [hs_1]; rfl) rfl (by decide) dX10_sheet_38 ?_
                  refine lv_iload_n hx hb dX10_sheet_39 rfl (lv_at hl 2 rfl) ?_
                  refine lv_iload_n hx hb dX10_sheet_40 rfl (lv_at hl 3 rfl) ?_
                  obtain ⟨f_sheets3_form_41, f_sheets3_size_41, f_sheets3_items_41, hc41, hf⟩ := cb3_some hf
                  refine kcMV (q0 := 8) (ci := 5) (As := [.int x2, .int x3]) (rest := []) (st1 := []) (wf := (w_ND_sheet ct a_this a_texts a_names a_pieces a_song a_fitting a_deal a_guesses a_wise a_spy a_sheets a_sheets0 a_sheets1 a_sheets2 a_sheets3 a_sheets0_items a_sheets1_items a_sheets2_items a_sheets3_items f_stale f_finding f_sheets0_form f_sheets0_size f_sheets0_items f_sheets1_form f_sheets1_size f_sheets1_items f_sheets2_form f_sheets2_size f_sheets2_items f_sheets3_form_41 f_sheets3_size_41 f_sheets3_items_41)) C (c_Sh_begin l D ct a_sheets3 a_sheets3_items F f_sheets3_form f_sheets3_size f_sheets3_items x2 x3 f_sheets3_form_41 f_sheets3_size_41 f_sheets3_items_41 _ hc41) ⟨rfl, rfl⟩ yn_yX5_begin tw_830 tw_831 tw_829 ⟨Nat.le_of_ble_eq_true rfl, Nat.le_of_ble_eq_true rfl⟩ ⟨Nat.zero_le _, Nat.zero_le _⟩ hP hD hS hA [8, 9] [0, 1, 2, 3, 4, 5, 6, 7] [0, 1, 2, 3, 4, 5, 6, 7, 8, 9] rfl rfl rfl rfl rfl (by decide) rfl rfl rfl rfl rfl rfl hl.1 rfl rfl (Nat.le_of_ble_eq_true rfl) dX10_sheet_41 rfl (fun H locs hP hD hS => ?_)
                  refine lv_iload_n hx hb dX10_sheet_44 rfl (lv_at hl 3 rfl) ?_
                  obtain ⟨e1, e2, e3, e4, e5, e6, e7, e8, e9, e10, e11, e12, e13, e14⟩ := ti14 hf
                  subst e1; subst e2; subst e3; subst e4; subst e5; subst e6; subst e7; subst e8; subst e9; subst e10; subst e11; subst e12; subst e13; subst e14
                  exact kretM C hP hD hS dX10_sheet_45
                · have hf := kneg hs_1 hf
                  cases hf
        · have hf := kneg hc hf
          refine lv_aload_n hx hb dX10_sheet_27 rfl (lv_at hl 0 rfl) ?_
          refine lv_iconst (v := 5) hx hb dX10_sheet_28 (by decide) ?_
          obtain ⟨v29, f_finding_29, hc29, hf⟩ := cb2_some hf
          refine kcMV (q0 := 0) (ci := 10) (As := [.int 5]) (rest := []) (st1 := [.int v29]) (wf := (w_ND_sheet ct a_this a_texts a_names a_pieces a_song a_fitting a_deal a_guesses a_wise a_spy a_sheets a_sheets0 a_sheets1 a_sheets2 a_sheets3 a_sheets0_items a_sheets1_items a_sheets2_items a_sheets3_items f_stale f_finding_29 f_sheets0_form f_sheets0_size f_sheets0_items f_sheets1_form f_sheets1_size f_sheets1_items f_sheets2_form f_sheets2_size f_sheets2_items f_sheets3_form f_sheets3_size f_sheets3_items)) C (c_ND_found l D ct a_this a_texts a_names a_pieces a_song a_fitting a_deal a_guesses a_wise a_spy a_sheets f_stale f_finding 5 v29 f_finding_29 _ hc29) ⟨rfl, rfl⟩ yn_yX10_found tw_558 tw_10 tw_556 ⟨Nat.le_of_ble_eq_true rfl, Nat.le_of_ble_eq_true rfl⟩ ⟨Nat.zero_le _, Nat.zero_le _⟩ hP hD hS hA [0] [1, 2, 3, 4, 5, 6, 7, 8, 9] [9, 0, 1, 2, 3, 4, 5, 6, 7, 8] rfl rfl rfl rfl rfl (by decide) rfl rfl rfl rfl rfl rfl hl.1 rfl rfl (Nat.le_of_ble_eq_true rfl) dX10_sheet_29 rfl (fun H locs hP hD hS => ?_)
          obtain ⟨e1, e2, e3, e4, e5, e6, e7, e8, e9, e10, e11, e12, e13, e14⟩ := ti14 hf
          subst e1; subst e2; subst e3; subst e4; subst e5; subst e6; subst e7; subst e8; subst e9; subst e10; subst e11; subst e12; subst e13; subst e14
          exact kretM C hP hD hS dX10_sheet_32
      · have hf := kneg hc hf
        refine lv_bipush (v := (-2)) hx hb dX10_sheet_20 (by decide) ?_
        obtain ⟨e1, e2, e3, e4, e5, e6, e7, e8, e9, e10, e11, e12, e13, e14⟩ := ti14 hf
        subst e1; subst e2; subst e3; subst e4; subst e5; subst e6; subst e7; subst e8; subst e9; subst e10; subst e11; subst e12; subst e13; subst e14
        exact kretM C hP hD hS dX10_sheet_22
def RM_ND_lose : Room := { frames := 1, cells := 0, slots := 0, locals := 21 }
set_option maxHeartbeats 4000000 in
set_option maxRecDepth 100000 in
theorem c_ND_lose (l : Launch) (D : va_G) (ct : Nat → ClassId) (a_this a_texts a_names a_pieces a_song a_fitting a_deal a_guesses a_wise a_spy a_sheets a_sheets0 a_sheets1 a_sheets2 a_sheets3 a_sheets0_items a_sheets1_items a_sheets2_items a_sheets3_items : Nat) (f_stale : Int32) (f_sheets0_form : Int32) (f_sheets1_form : Int32) (f_sheets2_form : Int32) (f_sheets3_form : Int32) (f_finding : Int32) (f_sheets0_size : Int32) (f_sheets1_size : Int32) (f_sheets2_size : Int32) (f_sheets3_size : Int32) (x1 : Int32) (r : Int32) (r_finding : Int32) (r_sheets0_size : Int32) (r_sheets1_size : Int32) (r_sheets2_size : Int32) (r_sheets3_size : Int32) (sz : Nat) (hf : ND_lose f_finding f_sheets0_size f_sheets1_size f_sheets2_size f_sheets3_size x1 = some (r, r_finding, r_sheets0_size, r_sheets1_size, r_sheets2_size, r_sheets3_size)) : Met l yX10_lose (WS yX10_lose cX10_lose 3 (some .int)) RM_ND_lose (va_Pc [.ref a_this, .int x1] (PM D ct sz (w_ND_lose ct a_this a_texts a_names a_pieces a_song a_fitting a_deal a_guesses a_wise a_spy a_sheets a_sheets0 a_sheets1 a_sheets2 a_sheets3 a_sheets0_items a_sheets1_items a_sheets2_items a_sheets3_items f_stale f_finding f_sheets0_form f_sheets0_size f_sheets1_form f_sheets1_size f_sheets2_form f_sheets2_size f_sheets3_form f_sheets3_size))) (QM D (some (.int r)) (w_ND_lose ct a_this a_texts a_names a_pieces a_song a_fitting a_deal a_guesses a_wise a_spy a_sheets a_sheets0 a_sheets1 a_sheets2 a_sheets3 a_sheets0_items a_sheets1_items a_sheets2_items a_sheets3_items f_stale r_finding f_sheets0_form r_sheets0_size f_sheets1_form r_sheets1_size f_sheets2_form r_sheets2_size f_sheets3_form r_sheets3_size) (va_A (w_ND_lose ct a_this a_texts a_names a_pieces a_song a_fitting a_deal a_guesses a_wise a_spy a_sheets a_sheets0 a_sheets1 a_sheets2 a_sheets3 a_sheets0_items a_sheets1_items a_sheets2_items a_sheets3_items f_stale f_finding f_sheets0_form f_sheets0_size f_sheets1_form f_sheets1_size f_sheets2_form f_sheets2_size f_sheets3_form f_sheets3_size) sz)) 0 0 (va_A (w_ND_lose ct a_this a_texts a_names a_pieces a_song a_fitting a_deal a_guesses a_wise a_spy a_sheets a_sheets0 a_sheets1 a_sheets2 a_sheets3 a_sheets0_items a_sheets1_items a_sheets2_items a_sheets3_items f_stale f_finding f_sheets0_form f_sheets0_size f_sheets1_form f_sheets1_size f_sheets2_form f_sheets2_size f_sheets3_form f_sheets3_size) sz) := by
  refine kMetM yn_yX10_lose rfl (Nat.le_of_ble_eq_true rfl) ?_
  intro p e s m args below meth c A C hA hP hD ls hl
  have hl : lv_has ls 3 [(0, .ref a_this), (1, .int x1)] := hl
  have hS : va_S A s.heap s.heap [] := va_S.rf
  obtain ⟨hx, hb, hr, hml, hown, hts, hlk, hK, hN⟩ := id C
  unfold ND_lose at hf
  refine lv_iload_n hx hb dX10_lose_0 rfl (lv_at hl 1 rfl) ?_
  obtain ⟨v1, hc1, hf⟩ := cb1_some hf
  refine kcRS (As := [.int x1]) (rest := []) (st1 := [.int v1]) C (c_ND_isSheet l D ct x1 v1 hc1) ⟨rfl, rfl⟩ yn_yX10_isSheet tw_550 tw_549 ⟨Nat.le_of_ble_eq_true rfl, Nat.le_of_ble_eq_true rfl⟩ ⟨Nat.zero_le _, Nat.zero_le _⟩ hP [] rfl hl.1 rfl rfl (Nat.le_of_ble_eq_true rfl) dX10_lose_1 rfl ?_
  refine lv_if_ne (tgt := 10) hx hb dX10_lose_4 (by decide) (fun hc => ?_) (fun hc => ?_)
  · have hf := kneg hc hf
    refine lv_aload_n hx hb dX10_lose_10 rfl (lv_at hl 0 rfl) ?_
    refine va_get (ci := 10) (v := .ref a_sheets) (C := RX10) (T := TX10) (N := 12) hx hb hts inX10 hown hK hP 0 rfl rfl 9 (by decide) (hts _ tw_292) (fun _ h9 => h9) rfl dX10_lose_11 ?_
    refine lv_iload_n hx hb dX10_lose_14 rfl (lv_at hl 1 rfl) ?_
    by_cases hs_1 : x1 = 0
    · have hf := kpos hs_1 hf
      refine kaald hx hb hK hP 1 4 rfl rfl (k := 0) (by rw [hs_1]; rfl) rfl (by decide) dX10_lose_15 ?_
      obtain ⟨v16, hc16, hf⟩ := cb1_some hf
      refine kcRV (q0 := 2) (ci := 5) (As := []) (rest := []) (st1 := [.int v16]) C (c_Sh_isLost l D ct a_sheets0 a_sheets0_items f_sheets0_form f_sheets0_size v16 hc16) ⟨rfl, rfl⟩ yn_yX5_isLost tw_553 tw_554 tw_552 ⟨Nat.le_of_ble_eq_true rfl, Nat.le_of_ble_eq_true rfl⟩ ⟨Nat.zero_le _, Nat.zero_le _⟩ hP [2] rfl rfl rfl rfl hl.1 rfl rfl (Nat.le_of_ble_eq_true rfl) dX10_lose_16 rfl ?_
      refine lv_if_eq (tgt := 28) hx hb dX10_lose_19 (by decide) (fun hc => ?_) (fun hc => ?_)
      · have hf := kpos hc hf
        refine lv_aload_n hx hb dX10_lose_28 rfl (lv_at hl 0 rfl) ?_
        refine va_get (ci := 10) (v := .ref a_sheets) (C := RX10) (T := TX10) (N := 12) hx hb hts inX10 hown hK hP 0 rfl rfl 9 (by decide) (hts _ tw_292) (fun _ h9 => h9) rfl dX10_lose_29 ?_
        refine lv_iload_n hx hb dX10_lose_32 rfl (lv_at hl 1 rfl) ?_
        refine kaald hx hb hK hP 1 4 rfl rfl (k := 0) (by rw [hs_1]; rfl) rfl (by decide) dX10_lose_33 ?_
        obtain ⟨v34, hc34, hf⟩ := cb1_some hf
        refine kcRV (q0 := 2) (ci := 5) (As := []) (rest := []) (st1 := [.int v34]) C (c_Sh_size l D ct a_sheets0 a_sheets0_items f_sheets0_form f_sheets0_size v34 hc34) ⟨rfl, rfl⟩ yn_yX5_size tw_565 tw_566 tw_564 ⟨Nat.le_of_ble_eq_true rfl, Nat.le_of_ble_eq_true rfl⟩ ⟨Nat.zero_le _, Nat.zero_le _⟩ hP [2] rfl rfl rfl rfl hl.1 rfl rfl (Nat.le_of_ble_eq_true rfl) dX10_lose_34 rfl ?_
        refine lv_istore_n (lv' := [(2, .int v34), (0, .ref a_this), (1, .int x1)]) hx hb dX10_lose_37 rfl hl (by decide) rfl (fun ls hl => ?_)
        refine lv_aload_n hx hb dX10_lose_38 rfl (lv_at hl 1 rfl) ?_
        refine va_get (ci := 10) (v := .ref a_sheets) (C := RX10) (T := TX10) (N := 12) hx hb hts inX10 hown hK hP 0 rfl rfl 9 (by decide) (hts _ tw_292) (fun _ h9 => h9) rfl dX10_lose_39 ?_
        refine lv_iload_n hx hb dX10_lose_42 rfl (lv_at hl 2 rfl) ?_
        refine kaald hx hb hK hP 1 4 rfl rfl (k := 0) (by rw [hs_1]; rfl) rfl (by decide) dX10_lose_43 ?_
        refine lv_iconst (v := (-1)) hx hb dX10_lose_44 (by decide) ?_
        obtain ⟨f_sheets0_size_45, hc45, hf⟩ := cb1_some hf
        refine kcMV (q0 := 2) (ci := 5) (As := [.int (-1)]) (rest := []) (st1 := []) (wf := (w_ND_lose ct a_this a_texts a_names a_pieces a_song a_fitting a_deal a_guesses a_wise a_spy a_sheets a_sheets0 a_sheets1 a_sheets2 a_sheets3 a_sheets0_items a_sheets1_items a_sheets2_items a_sheets3_items f_stale f_finding f_sheets0_form f_sheets0_size_45 f_sheets1_form f_sheets1_size f_sheets2_form f_sheets2_size f_sheets3_form f_sheets3_size)) C (c_Sh_become l D ct a_sheets0 a_sheets0_items f_sheets0_form f_sheets0_size (-1) f_sheets0_size_45 _ hc45) ⟨rfl, rfl⟩ yn_yX5_become tw_835 tw_836 tw_843 ⟨Nat.le_of_ble_eq_true rfl, Nat.le_of_ble_eq_true rfl⟩ ⟨Nat.zero_le _, Nat.zero_le _⟩ hP hD hS hA [2] [0, 1, 3, 4, 5] [0, 1, 5, 2, 3, 4] rfl rfl rfl rfl rfl (by decide) rfl rfl rfl rfl rfl rfl hl.1 rfl rfl (Nat.le_of_ble_eq_true rfl) dX10_lose_45 rfl (fun H locs hP hD hS => ?_)
        refine lv_iload_n hx hb dX10_lose_48 rfl (lv_at hl 0 rfl) ?_
        obtain ⟨e1, e2, e3, e4, e5, e6⟩ := ti6 hf
        subst e1; subst e2; subst e3; subst e4; subst e5; subst e6
        exact kretM C hP hD hS dX10_lose_49
      · have hf := kneg hc hf
        refine lv_aload_n hx hb dX10_lose_22 rfl (lv_at hl 0 rfl) ?_
        refine lv_iconst (v := 1) hx hb dX10_lose_23 (by decide) ?_
        obtain ⟨v24, f_finding_24, hc24, hf⟩ := cb2_some hf
        refine kcMV (q0 := 0) (ci := 10) (As := [.int 1]) (rest := []) (st1 := [.int v24]) (wf := (w_ND_lose ct a_this a_texts a_names a_pieces a_song a_fitting a_deal a_guesses a_wise a_spy a_sheets a_sheets0 a_sheets1 a_sheets2 a_sheets3 a_sheets0_items a_sheets1_items a_sheets2_items a_sheets3_items f_stale f_finding_24 f_sheets0_form f_sheets0_size f_sheets1_form f_sheets1_size f_sheets2_form f_sheets2_size f_sheets3_form f_sheets3_size)) C (c_ND_found l D ct a_this a_texts a_names a_pieces a_song a_fitting a_deal a_guesses a_wise a_spy a_sheets f_stale f_finding 1 v24 f_finding_24 _ hc24) ⟨rfl, rfl⟩ yn_yX10_found tw_558 tw_10 tw_556 ⟨Nat.le_of_ble_eq_true rfl, Nat.le_of_ble_eq_true rfl⟩ ⟨Nat.zero_le _, Nat.zero_le _⟩ hP hD hS hA [0] [1, 2, 3, 4, 5] [5, 0, 1, 2, 3, 4] rfl rfl rfl rfl rfl (by decide) rfl rfl rfl rfl rfl rfl hl.1 rfl rfl (Nat.le_of_ble_eq_true rfl) dX10_lose_24 rfl (fun H locs hP hD hS => ?_)
        obtain ⟨e1, e2, e3, e4, e5, e6⟩ := ti6 hf
        subst e1; subst e2; subst e3; subst e4; subst e5; subst e6
        exact kretM C hP hD hS dX10_lose_27
    · have hf := kneg hs_1 hf
      by_cases hs_1 : x1 = 1
      · have hf := kpos hs_1 hf
        refine kaald hx hb hK hP 1 4 rfl rfl (k := 1) (by rw [hs_1]; rfl) rfl (by decide) dX10_lose_15 ?_
        obtain ⟨v16, hc16, hf⟩ := cb1_some hf
        refine kcRV (q0 := 3) (ci := 5) (As := []) (rest := []) (st1 := [.int v16]) C (c_Sh_isLost l D ct a_sheets1 a_sheets1_items f_sheets1_form f_sheets1_size v16 hc16) ⟨rfl, rfl⟩ yn_yX5_isLost tw_553 tw_554 tw_552 ⟨Nat.le_of_ble_eq_true rfl, Nat.le_of_ble_eq_true rfl⟩ ⟨Nat.zero_le _, Nat.zero_le _⟩ hP [3] rfl rfl rfl rfl hl.1 rfl rfl (Nat.le_of_ble_eq_true rfl) dX10_lose_16 rfl ?_
        refine lv_if_eq (tgt := 28) hx hb dX10_lose_19 (by decide) (fun hc => ?_) (fun hc => ?_)
        · have hf := kpos hc hf
          refine lv_aload_n hx hb dX10_lose_28 rfl (lv_at hl 0 rfl) ?_
          refine va_get (ci := 10) (v := .ref a_sheets) (C := RX10) (T := TX10) (N := 12) hx hb hts inX10 hown hK hP 0 rfl rfl 9 (by decide) (hts _ tw_292) (fun _ h9 => h9) rfl dX10_lose_29 ?_
          refine lv_iload_n hx hb dX10_lose_32 rfl (lv_at hl 1 rfl) ?_
          refine kaald hx hb hK hP 1 4 rfl rfl (k := 1) (by rw [hs_1]; rfl) rfl (by decide) dX10_lose_33 ?_
          obtain ⟨v34, hc34, hf⟩ := cb1_some hf
          refine kcRV (q0 := 3) (ci := 5) (As := []) (rest := []) (st1 := [.int v34]) C (c_Sh_size l D ct a_sheets1 a_sheets1_items f_sheets1_form f_sheets1_size v34 hc34) ⟨rfl, rfl⟩ yn_yX5_size tw_565 tw_566 tw_564 ⟨Nat.le_of_ble_eq_true rfl, Nat.le_of_ble_eq_true rfl⟩ ⟨Nat.zero_le _, Nat.zero_le _⟩ hP [3] rfl rfl rfl rfl hl.1 rfl rfl (Nat.le_of_ble_eq_true rfl) dX10_lose_34 rfl ?_
          refine lv_istore_n (lv' := [(2, .int v34), (0, .ref a_this), (1, .int x1)]) hx hb dX10_lose_37 rfl hl (by decide) rfl (fun ls hl => ?_)
          refine lv_aload_n hx hb dX10_lose_38 rfl (lv_at hl 1 rfl) ?_
          refine va_get (ci := 10) (v := .ref a_sheets) (C := RX10) (T := TX10) (N := 12) hx hb hts inX10 hown hK hP 0 rfl rfl 9 (by decide) (hts _ tw_292) (fun _ h9 => h9) rfl dX10_lose_39 ?_
          refine lv_iload_n hx hb dX10_lose_42 rfl (lv_at hl 2 rfl) ?_
          refine kaald hx hb hK hP 1 4 rfl rfl (k := 1) (by rw [hs_1]; rfl) rfl (by decide) dX10_lose_43 ?_
          refine lv_iconst (v := (-1)) hx hb dX10_lose_44 (by decide) ?_
          obtain ⟨f_sheets1_size_45, hc45, hf⟩ := cb1_some hf
          refine kcMV (q0 := 3) (ci := 5) (As := [.int (-1)]) (rest := []) (st1 := []) (wf := (w_ND_lose ct a_this a_texts a_names a_pieces a_song a_fitting a_deal a_guesses a_wise a_spy a_sheets a_sheets0 a_sheets1 a_sheets2 a_sheets3 a_sheets0_items a_sheets1_items a_sheets2_items a_sheets3_items f_stale f_finding f_sheets0_form f_sheets0_size f_sheets1_form f_sheets1_size_45 f_sheets2_form f_sheets2_size f_sheets3_form f_sheets3_size)) C (c_Sh_become l D ct a_sheets1 a_sheets1_items f_sheets1_form f_sheets1_size (-1) f_sheets1_size_45 _ hc45) ⟨rfl, rfl⟩ yn_yX5_become tw_835 tw_836 tw_843 ⟨Nat.le_of_ble_eq_true rfl, Nat.le_of_ble_eq_true rfl⟩ ⟨Nat.zero_le _, Nat.zero_le _⟩ hP hD hS hA [3] [0, 1, 2, 4, 5] [0, 1, 2, 5, 3, 4] rfl rfl rfl rfl rfl (by decide) rfl rfl rfl rfl rfl rfl hl.1 rfl rfl (Nat.le_of_ble_eq_true rfl) dX10_lose_45 rfl (fun H locs hP hD hS => ?_)
          refine lv_iload_n hx hb dX10_lose_48 rfl (lv_at hl 0 rfl) ?_
          obtain ⟨e1, e2, e3, e4, e5, e6⟩ := ti6 hf
          subst e1; subst e2; subst e3; subst e4; subst e5; subst e6
          exact kretM C hP hD hS dX10_lose_49
        · have hf := kneg hc hf
          refine lv_aload_n hx hb dX10_lose_22 rfl (lv_at hl 0 rfl) ?_
          refine lv_iconst (v := 1) hx hb dX10_lose_23 (by decide) ?_
          obtain ⟨v24, f_finding_24, hc24, hf⟩ := cb2_some hf
          refine kcMV (q0 := 0) (ci := 10) (As := [.int 1]) (rest := []) (st1 := [.int v24]) (wf := (w_ND_lose ct a_this a_texts a_names a_pieces a_song a_fitting a_deal a_guesses a_wise a_spy a_sheets a_sheets0 a_sheets1 a_sheets2 a_sheets3 a_sheets0_items a_sheets1_items a_sheets2_items a_sheets3_items f_stale f_finding_24 f_sheets0_form f_sheets0_size f_sheets1_form f_sheets1_size f_sheets2_form f_sheets2_size f_sheets3_form f_sheets3_size)) C (c_ND_found l D ct a_this a_texts a_names a_pieces a_song a_fitting a_deal a_guesses a_wise a_spy a_sheets f_stale f_finding 1 v24 f_finding_24 _ hc24) ⟨rfl, rfl⟩ yn_yX10_found tw_558 tw_10 tw_556 ⟨Nat.le_of_ble_eq_true rfl, Nat.le_of_ble_eq_true rfl⟩ ⟨Nat.zero_le _, Nat.zero_le _⟩ hP hD hS hA [0] [1, 2, 3, 4, 5] [5, 0, 1, 2, 3, 4] rfl rfl rfl rfl rfl (by decide) rfl rfl rfl rfl rfl rfl hl.1 rfl rfl (Nat.le_of_ble_eq_true rfl) dX10_lose_24 rfl (fun H locs hP hD hS => ?_)
          obtain ⟨e1, e2, e3, e4, e5, e6⟩ := ti6 hf
          subst e1; subst e2; subst e3; subst e4; subst e5; subst e6
          exact kretM C hP hD hS dX10_lose_27
      · have hf := kneg hs_1 hf
        by_cases hs_1 : x1 = 2
        · have hf := kpos hs_1 hf
          refine kaald hx hb hK hP 1 4 rfl rfl (k := 2) (by rw [hs_1]; rfl) rfl (by decide) dX10_lose_15 ?_
          obtain ⟨v16, hc16, hf⟩ := cb1_some hf
          refine kcRV (q0 := 4) (ci := 5) (As := []) (rest := []) (st1 := [.int v16]) C (c_Sh_isLost l D ct a_sheets2 a_sheets2_items f_sheets2_form f_sheets2_size v16 hc16) ⟨rfl, rfl⟩ yn_yX5_isLost tw_553 tw_554 tw_552 ⟨Nat.le_of_ble_eq_true rfl, Nat.le_of_ble_eq_true rfl⟩ ⟨Nat.zero_le _, Nat.zero_le _⟩ hP [4] rfl rfl rfl rfl hl.1 rfl rfl (Nat.le_of_ble_eq_true rfl) dX10_lose_16 rfl ?_
          refine lv_if_eq (tgt := 28) hx hb dX10_lose_19 (by decide) (fun hc => ?_) (fun hc => ?_)
          · have hf := kpos hc hf
            refine lv_aload_n hx hb dX10_lose_28 rfl (lv_at hl 0 rfl) ?_
            refine va_get (ci := 10) (v := .ref a_sheets) (C := RX10) (T := TX10) (N := 12) hx hb hts inX10 hown hK hP 0 rfl rfl 9 (by decide) (hts _ tw_292) (fun _ h9 => h9) rfl dX10_lose_29 ?_
            refine lv_iload_n hx hb dX10_lose_32 rfl (lv_at hl 1 rfl) ?_
            refine kaald hx hb hK hP 1 4 rfl rfl (k := 2) (by rw [hs_1]; rfl) rfl (by decide) dX10_lose_33 ?_
            obtain ⟨v34, hc34, hf⟩ := cb1_some hf
            refine kcRV (q0 := 4) (ci := 5) (As := []) (rest := []) (st1 := [.int v34]) C (c_Sh_size l D ct a_sheets2 a_sheets2_items f_sheets2_form f_sheets2_size v34 hc34) ⟨rfl, rfl⟩ yn_yX5_size tw_565 tw_566 tw_564 ⟨Nat.le_of_ble_eq_true rfl, Nat.le_of_ble_eq_true rfl⟩ ⟨Nat.zero_le _, Nat.zero_le _⟩ hP [4] rfl rfl rfl rfl hl.1 rfl rfl (Nat.le_of_ble_eq_true rfl) dX10_lose_34 rfl ?_
            refine lv_istore_n (lv' := [(2, .int v34), (0, .ref a_this), (1, .int x1)]) hx hb dX10_lose_37 rfl hl (by decide) rfl (fun ls hl => ?_)
            refine lv_aload_n hx hb dX10_lose_38 rfl (lv_at hl 1 rfl) ?_
            refine va_get (ci := 10) (v := .ref a_sheets) (C := RX10) (T := TX10) (N := 12) hx hb hts inX10 hown hK hP 0 rfl rfl 9 (by decide) (hts _ tw_292) (fun _ h9 => h9) rfl dX10_lose_39 ?_
            refine lv_iload_n hx hb dX10_lose_42 rfl (lv_at hl 2 rfl) ?_
            refine kaald hx hb hK hP 1 4 rfl rfl (k := 2) (by rw [hs_1]; rfl) rfl (by decide) dX10_lose_43 ?_
            refine lv_iconst (v := (-1)) hx hb dX10_lose_44 (by decide) ?_
            obtain ⟨f_sheets2_size_45, hc45, hf⟩ := cb1_some hf
            refine kcMV (q0 := 4) (ci := 5) (As := [.int (-1)]) (rest := []) (st1 := []) (wf := (w_ND_lose ct a_this a_texts a_names a_pieces a_song a_fitting a_deal a_guesses a_wise a_spy a_sheets a_sheets0 a_sheets1 a_sheets2 a_sheets3 a_sheets0_items a_sheets1_items a_sheets2_items a_sheets3_items f_stale f_finding f_sheets0_form f_sheets0_size f_sheets1_form f_sheets1_size f_sheets2_form f_sheets2_size_45 f_sheets3_form f_sheets3_size)) C (c_Sh_become l D ct a_sheets2 a_sheets2_items f_sheets2_form f_sheets2_size (-1) f_sheets2_size_45 _ hc45) ⟨rfl, rfl⟩ yn_yX5_become tw_835 tw_836 tw_843 ⟨Nat.le_of_ble_eq_true rfl, Nat.le_of_ble_eq_true rfl⟩ ⟨Nat.zero_le _, Nat.zero_le _⟩ hP hD hS hA [4] [0, 1, 2, 3, 5] [0, 1, 2, 3, 5, 4] rfl rfl rfl rfl rfl (by decide) rfl rfl rfl rfl rfl rfl hl.1 rfl rfl (Nat.le_of_ble_eq_true rfl) dX10_lose_45 rfl (fun H locs hP hD hS => ?_)
            refine lv_iload_n hx hb dX10_lose_48 rfl (lv_at hl 0 rfl) ?_
            obtain ⟨e1, e2, e3, e4, e5, e6⟩ := ti6 hf
            subst e1; subst e2; subst e3; subst e4; subst e5; subst e6
            exact kretM C hP hD hS dX10_lose_49
          · have hf := kneg hc hf
            refine lv_aload_n hx hb dX10_lose_22 rfl (lv_at hl 0 rfl) ?_
            refine lv_iconst (v := 1) hx hb dX10_lose_23 (by decide) ?_
            obtain ⟨v24, f_finding_24, hc24, hf⟩ := cb2_some hf
            refine kcMV (q0 := 0) (ci := 10) (As := [.int 1]) (rest := []) (st1 := [.int v24]) (wf := (w_ND_lose ct a_this a_texts a_names a_pieces a_song a_fitting a_deal a_guesses a_wise a_spy a_sheets a_sheets0 a_sheets1 a_sheets2 a_sheets3 a_sheets0_items a_sheets1_items a_sheets2_items a_sheets3_items f_stale f_finding_24 f_sheets0_form f_sheets0_size f_sheets1_form f_sheets1_size f_sheets2_form f_sheets2_size f_sheets3_form f_sheets3_size)) C (c_ND_found l D ct a_this a_texts a_names a_pieces a_song a_fitting a_deal a_guesses a_wise a_spy a_sheets f_stale f_finding 1 v24 f_finding_24 _ hc24) ⟨rfl, rfl⟩ yn_yX10_found tw_558 tw_10 tw_556 ⟨Nat.le_of_ble_eq_true rfl, Nat.le_of_ble_eq_true rfl⟩ ⟨Nat.zero_le _, Nat.zero_le _⟩ hP hD hS hA [0] [1, 2, 3, 4, 5] [5, 0, 1, 2, 3, 4] rfl rfl rfl rfl rfl (by decide) rfl rfl rfl rfl rfl rfl hl.1 rfl rfl (Nat.le_of_ble_eq_true rfl) dX10_lose_24 rfl (fun H locs hP hD hS => ?_)
            obtain ⟨e1, e2, e3, e4, e5, e6⟩ := ti6 hf
            subst e1; subst e2; subst e3; subst e4; subst e5; subst e6
            exact kretM C hP hD hS dX10_lose_27
        · have hf := kneg hs_1 hf
          by_cases hs_1 : x1 = 3
          · have hf := kpos hs_1 hf
            refine kaald hx hb hK hP 1 4 rfl rfl (k := 3) (by rw [hs_1]; rfl) rfl (by decide) dX10_lose_15 ?_
            obtain ⟨v16, hc16, hf⟩ := cb1_some hf
            refine kcRV (q0 := 5) (ci := 5) (As := []) (rest := []) (st1 := [.int v16]) C (c_Sh_isLost l D ct a_sheets3 a_sheets3_items f_sheets3_form f_sheets3_size v16 hc16) ⟨rfl, rfl⟩ yn_yX5_isLost tw_553 tw_554 tw_552 ⟨Nat.le_of_ble_eq_true rfl, Nat.le_of_ble_eq_true rfl⟩ ⟨Nat.zero_le _, Nat.zero_le _⟩ hP [5] rfl rfl rfl rfl hl.1 rfl rfl (Nat.le_of_ble_eq_true rfl) dX10_lose_16 rfl ?_
            refine lv_if_eq (tgt := 28) hx hb dX10_lose_19 (by decide) (fun hc => ?_) (fun hc => ?_)
            · have hf := kpos hc hf
              refine lv_aload_n hx hb dX10_lose_28 rfl (lv_at hl 0 rfl) ?_
              refine va_get (ci := 10) (v := .ref a_sheets) (C := RX10) (T := TX10) (N := 12) hx hb hts inX10 hown hK hP 0 rfl rfl 9 (by decide) (hts _ tw_292) (fun _ h9 => h9) rfl dX10_lose_29 ?_
              refine lv_iload_n hx hb dX10_lose_32 rfl (lv_at hl 1 rfl) ?_
              refine kaald hx hb hK hP 1 4 rfl rfl (k := 3) (by rw [hs_1]; rfl) rfl (by decide) dX10_lose_33 ?_
              obtain ⟨v34, hc34, hf⟩ := cb1_some hf
              refine kcRV (q0 := 5) (ci := 5) (As := []) (rest := []) (st1 := [.int v34]) C (c_Sh_size l D ct a_sheets3 a_sheets3_items f_sheets3_form f_sheets3_size v34 hc34) ⟨rfl, rfl⟩ yn_yX5_size tw_565 tw_566 tw_564 ⟨Nat.le_of_ble_eq_true rfl, Nat.le_of_ble_eq_true rfl⟩ ⟨Nat.zero_le _, Nat.zero_le _⟩ hP [5] rfl rfl rfl rfl hl.1 rfl rfl (Nat.le_of_ble_eq_true rfl) dX10_lose_34 rfl ?_
              refine lv_istore_n (lv' := [(2, .int v34), (0, .ref a_this), (1, .int x1)]) hx hb dX10_lose_37 rfl hl (by decide) rfl (fun ls hl => ?_)
              refine lv_aload_n hx hb dX10_lose_38 rfl (lv_at hl 1 rfl) ?_
              refine va_get (ci := 10) (v := .ref a_sheets) (C := RX10) (T := TX10) (N := 12) hx hb hts inX10 hown hK hP 0 rfl rfl 9 (by decide) (hts _ tw_292) (fun _ h9 => h9) rfl dX10_lose_39 ?_
              refine lv_iload_n hx hb dX10_lose_42 rfl (lv_at hl 2 rfl) ?_
              refine kaald hx hb hK hP 1 4 rfl rfl (k := 3) (by rw [hs_1]; rfl) rfl (by decide) dX10_lose_43 ?_
              refine lv_iconst (v := (-1)) hx hb dX10_lose_44 (by decide) ?_
              obtain ⟨f_sheets3_size_45, hc45, hf⟩ := cb1_some hf
              refine kcMV (q0 := 5) (ci := 5) (As := [.int (-1)]) (rest := []) (st1 := []) (wf := (w_ND_lose ct a_this a_texts a_names a_pieces a_song a_fitting a_deal a_guesses a_wise a_spy a_sheets a_sheets0 a_sheets1 a_sheets2 a_sheets3 a_sheets0_items a_sheets1_items a_sheets2_items a_sheets3_items f_stale f_finding f_sheets0_form f_sheets0_size f_sheets1_form f_sheets1_size f_sheets2_form f_sheets2_size f_sheets3_form f_sheets3_size_45)) C (c_Sh_become l D ct a_sheets3 a_sheets3_items f_sheets3_form f_sheets3_size (-1) f_sheets3_size_45 _ hc45) ⟨rfl, rfl⟩ yn_yX5_become tw_835 tw_836 tw_843 ⟨Nat.le_of_ble_eq_true rfl, Nat.le_of_ble_eq_true rfl⟩ ⟨Nat.zero_le _, Nat.zero_le _⟩ hP hD hS hA [5] [0, 1, 2, 3, 4] [0, 1, 2, 3, 4, 5] rfl rfl rfl rfl rfl (by decide) rfl rfl rfl rfl rfl rfl hl.1 rfl rfl (Nat.le_of_ble_eq_true rfl) dX10_lose_45 rfl (fun H locs hP hD hS => ?_)
              refine lv_iload_n hx hb dX10_lose_48 rfl (lv_at hl 0 rfl) ?_
              obtain ⟨e1, e2, e3, e4, e5, e6⟩ := ti6 hf
              subst e1; subst e2; subst e3; subst e4; subst e5; subst e6
              exact kretM C hP hD hS dX10_lose_49
            · have hf := kneg hc hf
              refine lv_aload_n hx hb dX10_lose_22 rfl (lv_at hl 0 rfl) ?_
              refine lv_iconst (v := 1) hx hb dX10_lose_23 (by decide) ?_
              obtain ⟨v24, f_finding_24, hc24, hf⟩ := cb2_some hf
              refine kcMV (q0 := 0) (ci := 10) (As := [.int 1]) (rest := []) (st1 := [.int v24]) (wf := (w_ND_lose ct a_this a_texts a_names a_pieces a_song a_fitting a_deal a_guesses a_wise a_spy a_sheets a_sheets0 a_sheets1 a_sheets2 a_sheets3 a_sheets0_items a_sheets1_items a_sheets2_items a_sheets3_items f_stale f_finding_24 f_sheets0_form f_sheets0_size f_sheets1_form f_sheets1_size f_sheets2_form f_sheets2_size f_sheets3_form f_sheets3_size)) C (c_ND_found l D ct a_this a_texts a_names a_pieces a_song a_fitting a_deal a_guesses a_wise a_spy a_sheets f_stale f_finding 1 v24 f_finding_24 _ hc24) ⟨rfl, rfl⟩ yn_yX10_found tw_558 tw_10 tw_556 ⟨Nat.le_of_ble_eq_true rfl, Nat.le_of_ble_eq_true rfl⟩ ⟨Nat.zero_le _, Nat.zero_le _⟩ hP hD hS hA [0] [1, 2, 3, 4, 5] [5, 0, 1, 2, 3, 4] rfl rfl rfl rfl rfl (by decide) rfl rfl rfl rfl rfl rfl hl.1 rfl rfl (Nat.le_of_ble_eq_true rfl) dX10_lose_24 rfl (fun H locs hP hD hS => ?_)
              obtain ⟨e1, e2, e3, e4, e5, e6⟩ := ti6 hf
              subst e1; subst e2; subst e3; subst e4; subst e5; subst e6
              exact kretM C hP hD hS dX10_lose_27
          · have hf := kneg hs_1 hf
            cases hf
  · have hf := kpos hc hf
    refine lv_bipush (v := (-2)) hx hb dX10_lose_7 (by decide) ?_
    obtain ⟨e1, e2, e3, e4, e5, e6⟩ := ti6 hf
    subst e1; subst e2; subst e3; subst e4; subst e5; subst e6
    exact kretM C hP hD hS dX10_lose_9
def RM_Sh_form : Room := { frames := 0, cells := 0, slots := 0, locals := 0 }
set_option maxHeartbeats 4000000 in
set_option maxRecDepth 100000 in
theorem c_Sh_form (l : Launch) (D : va_G) (ct : Nat → ClassId) (a_this a_items : Nat) (f_size : Int32) (f_form : Int32) (r : Int32) (hf : Sh_form f_form = some r) : Met l yX5_form (WS yX5_form cX5_form 1 (some .int)) RM_Sh_form (va_Pc [.ref a_this] (PR D ct (w_Sh_form ct a_this a_items f_form f_size))) (QR (some (.int r))) 0 0 (fun _ => False) := by
  refine kMetR yn_yX5_form rfl (Nat.le_of_ble_eq_true rfl) ?_
  intro p e s m args below meth c C hP ls hl
  have hl : lv_has ls 1 [(0, .ref a_this)] := hl
  obtain ⟨hx, hb, hr, hml, hown, hts, hlk, hK, hN⟩ := id C
  unfold Sh_form at hf
  refine lv_aload_n hx hb dX5_form_0 rfl (lv_at hl 0 rfl) ?_
  refine va_get (ci := 5) (v := .int f_form) (C := RX5) (T := TX5) (N := 3) hx hb hts inX5 hown hK hP 0 rfl rfl 1 (by decide) (hts _ tw_274) (fun _ h9 => h9) rfl dX5_form_1 ?_
  have e1 := Option.some.inj hf
  subst e1
  exact kretR C dX5_form_4
def RM_Sh_holds : Room := { frames := 0, cells := 0, slots := 0, locals := 0 }
set_option maxHeartbeats 4000000 in
set_option maxRecDepth 100000 in
theorem c_Sh_holds (l : Launch) (D : va_G) (ct : Nat → ClassId) (a_this a_items : Nat) (f_form : Int32) (f_size : Int32) (x1 : Int32) (x2 : Int32) (r : Int32) (hf : Sh_holds f_size x1 x2 = some r) : Met l yX5_holds (WS yX5_holds cX5_holds 3 (some .boolean)) RM_Sh_holds (va_Pc [.ref a_this, .int x1, .int x2] (PR D ct (w_Sh_holds ct a_this a_items f_form f_size))) (QR (some (.int r))) 0 0 (fun _ => False) := by
  refine kMetR yn_yX5_holds rfl (Nat.le_of_ble_eq_true rfl) ?_
  intro p e s m args below meth c C hP ls hl
  have hl : lv_has ls 3 [(0, .ref a_this), (1, .int x1), (2, .int x2)] := hl
  obtain ⟨hx, hb, hr, hml, hown, hts, hlk, hK, hN⟩ := id C
  unfold Sh_holds at hf
  refine lv_iload_n hx hb dX5_holds_0 rfl (lv_at hl 1 rfl) ?_
  refine lv_if_lt (tgt := 26) hx hb dX5_holds_1 (by decide) (fun hc => ?_) (fun hc => ?_)
  · have hf := kpos hc hf
    refine lv_iconst (v := 0) hx hb dX5_holds_26 (by decide) ?_
    have e1 := Option.some.inj hf
    subst e1
    exact kretRz C (by decide) dX5_holds_27
  · have hf := kneg hc hf
    refine lv_iload_n hx hb dX5_holds_4 rfl (lv_at hl 2 rfl) ?_
    refine lv_if_lt (tgt := 26) hx hb dX5_holds_5 (by decide) (fun hc => ?_) (fun hc => ?_)
    · have hf := kpos hc hf
      refine lv_iconst (v := 0) hx hb dX5_holds_26 (by decide) ?_
      have e1 := Option.some.inj hf
      subst e1
      exact kretRz C (by decide) dX5_holds_27
    · have hf := kneg hc hf
      refine lv_iload_n hx hb dX5_holds_8 rfl (lv_at hl 1 rfl) ?_
      refine lv_i2l (v := Int32.toInt64 x1) hx hb dX5_holds_9 rfl ?_
      refine lv_iload_n hx hb dX5_holds_10 rfl (lv_at hl 2 rfl) ?_
      refine lv_i2l (v := Int32.toInt64 x2) hx hb dX5_holds_11 rfl ?_
      refine lv_ladd hx hb dX5_holds_12 ?_
      refine lv_aload_n hx hb dX5_holds_13 rfl (lv_at hl 0 rfl) ?_
      refine va_get (ci := 5) (v := .int f_size) (C := RX5) (T := TX5) (N := 3) hx hb hts inX5 hown hK hP 0 rfl rfl 2 (by decide) (hts _ tw_275) (fun _ h9 => h9) rfl dX5_holds_14 ?_
      refine lv_i2l (v := Int32.toInt64 f_size) hx hb dX5_holds_17 rfl ?_
      refine W.lcmp hx hb dX5_holds_18 ?_
      refine lv_if_gt (tgt := 26) hx hb dX5_holds_19 (by decide) (fun hc => ?_) (fun hc => ?_)
      · have hf := kpos hc hf
        refine lv_iconst (v := 0) hx hb dX5_holds_26 (by decide) ?_
        have e1 := Option.some.inj hf
        subst e1
        exact kretRz C (by decide) dX5_holds_27
      · have hf := kneg hc hf
        refine lv_iconst (v := 1) hx hb dX5_holds_22 (by decide) ?_
        refine lv_goto (tgt := 27) hx hb dX5_holds_23 (by decide) ?_
        have e1 := Option.some.inj hf
        subst e1
        exact kretRz C (by decide) dX5_holds_27
def RM_ND_lookFor : Room := { frames := 1, cells := 0, slots := 0, locals := 22 }
set_option maxHeartbeats 4000000 in
set_option maxRecDepth 100000 in
theorem c_ND_lookFor (l : Launch) (D : va_G) (ct : Nat → ClassId) (a_this a_texts a_names a_pieces a_song a_fitting a_deal a_guesses a_wise a_spy a_sheets a_sheets0 a_sheets1 a_sheets2 a_sheets3 a_sheets0_items a_sheets1_items a_sheets2_items a_sheets3_items : Nat) (f_stale : Int32) (f_sheets0_form : Int32) (f_sheets0_size : Int32) (f_sheets1_form : Int32) (f_sheets1_size : Int32) (f_sheets2_form : Int32) (f_sheets2_size : Int32) (f_sheets3_form : Int32) (f_sheets3_size : Int32) (f_finding : Int32) (x1 : Int32) (x2 : Int32) (x3 : Int32) (r : Int32) (r_finding : Int32) (sz : Nat) (hf : ND_lookFor f_sheets0_form f_sheets0_size f_sheets1_form f_sheets1_size f_sheets2_form f_sheets2_size f_sheets3_form f_sheets3_size f_finding x1 x2 x3 = some (r, r_finding)) : Met l yX10_lookFor (WS yX10_lookFor cX10_lookFor 4 (some .int)) RM_ND_lookFor (va_Pc [.ref a_this, .int x1, .int x2, .int x3] (PM D ct sz (w_ND_lookFor ct a_this a_texts a_names a_pieces a_song a_fitting a_deal a_guesses a_wise a_spy a_sheets a_sheets0 a_sheets1 a_sheets2 a_sheets3 a_sheets0_items a_sheets1_items a_sheets2_items a_sheets3_items f_stale f_finding f_sheets0_form f_sheets0_size f_sheets1_form f_sheets1_size f_sheets2_form f_sheets2_size f_sheets3_form f_sheets3_size))) (QM D (some (.int r)) (w_ND_lookFor ct a_this a_texts a_names a_pieces a_song a_fitting a_deal a_guesses a_wise a_spy a_sheets a_sheets0 a_sheets1 a_sheets2 a_sheets3 a_sheets0_items a_sheets1_items a_sheets2_items a_sheets3_items f_stale r_finding f_sheets0_form f_sheets0_size f_sheets1_form f_sheets1_size f_sheets2_form f_sheets2_size f_sheets3_form f_sheets3_size) (va_A (w_ND_lookFor ct a_this a_texts a_names a_pieces a_song a_fitting a_deal a_guesses a_wise a_spy a_sheets a_sheets0 a_sheets1 a_sheets2 a_sheets3 a_sheets0_items a_sheets1_items a_sheets2_items a_sheets3_items f_stale f_finding f_sheets0_form f_sheets0_size f_sheets1_form f_sheets1_size f_sheets2_form f_sheets2_size f_sheets3_form f_sheets3_size) sz)) 0 0 (va_A (w_ND_lookFor ct a_this a_texts a_names a_pieces a_song a_fitting a_deal a_guesses a_wise a_spy a_sheets a_sheets0 a_sheets1 a_sheets2 a_sheets3 a_sheets0_items a_sheets1_items a_sheets2_items a_sheets3_items f_stale f_finding f_sheets0_form f_sheets0_size f_sheets1_form f_sheets1_size f_sheets2_form f_sheets2_size f_sheets3_form f_sheets3_size) sz) := by
  refine kMetM yn_yX10_lookFor rfl (Nat.le_of_ble_eq_true rfl) ?_
  intro p e s m args below meth c A C hA hP hD ls hl
  have hl : lv_has ls 4 [(0, .ref a_this), (1, .int x1), (2, .int x2), (3, .int x3)] := hl
  have hS : va_S A s.heap s.heap [] := va_S.rf
  obtain ⟨hx, hb, hr, hml, hown, hts, hlk, hK, hN⟩ := id C
  unfold ND_lookFor at hf
  refine lv_iload_n hx hb dX10_lookFor_0 rfl (lv_at hl 1 rfl) ?_
  obtain ⟨v1, hc1, hf⟩ := cb1_some hf
  refine kcRS (As := [.int x1]) (rest := []) (st1 := [.int v1]) C (c_ND_isSheet l D ct x1 v1 hc1) ⟨rfl, rfl⟩ yn_yX10_isSheet tw_550 tw_549 ⟨Nat.le_of_ble_eq_true rfl, Nat.le_of_ble_eq_true rfl⟩ ⟨Nat.zero_le _, Nat.zero_le _⟩ hP [] rfl hl.1 rfl rfl (Nat.le_of_ble_eq_true rfl) dX10_lookFor_1 rfl ?_
  refine lv_if_eq (tgt := 14) hx hb dX10_lookFor_4 (by decide) (fun hc => ?_) (fun hc => ?_)
  · have hf := kpos hc hf
    refine lv_bipush (v := (-2)) hx hb dX10_lookFor_14 (by decide) ?_
    obtain ⟨e1, e2⟩ := ti2 hf
    subst e1; subst e2
    exact kretM C hP hD hS dX10_lookFor_16
  · have hf := kneg hc hf
    refine lv_iload_n hx hb dX10_lookFor_7 rfl (lv_at hl 2 rfl) ?_
    obtain ⟨v8, hc8, hf⟩ := cb1_some hf
    refine kcRS (As := [.int x2]) (rest := []) (st1 := [.int v8]) C (c_ND_isForm l D ct x2 v8 hc8) ⟨rfl, rfl⟩ yn_yX10_isForm tw_827 tw_826 ⟨Nat.le_of_ble_eq_true rfl, Nat.le_of_ble_eq_true rfl⟩ ⟨Nat.zero_le _, Nat.zero_le _⟩ hP [] rfl hl.1 rfl rfl (Nat.le_of_ble_eq_true rfl) dX10_lookFor_8 rfl ?_
    refine lv_if_ne (tgt := 17) hx hb dX10_lookFor_11 (by decide) (fun hc => ?_) (fun hc => ?_)
    · have hf := kneg hc hf
      refine lv_aload_n hx hb dX10_lookFor_17 rfl (lv_at hl 0 rfl) ?_
      refine va_get (ci := 10) (v := .ref a_sheets) (C := RX10) (T := TX10) (N := 12) hx hb hts inX10 hown hK hP 0 rfl rfl 9 (by decide) (hts _ tw_292) (fun _ h9 => h9) rfl dX10_lookFor_18 ?_
      refine lv_iload_n hx hb dX10_lookFor_21 rfl (lv_at hl 1 rfl) ?_
      by_cases hs_1 : x1 = 0
      · have hf := kpos hs_1 hf
        refine kaald hx hb hK hP 1 4 rfl rfl (k := 0) (by rw [hs_1]; rfl) rfl (by decide) dX10_lookFor_22 ?_
        obtain ⟨v23, hc23, hf⟩ := cb1_some hf
        refine kcRV (q0 := 2) (ci := 5) (As := []) (rest := []) (st1 := [.int v23]) C (c_Sh_isLost l D ct a_sheets0 a_sheets0_items f_sheets0_form f_sheets0_size v23 hc23) ⟨rfl, rfl⟩ yn_yX5_isLost tw_553 tw_554 tw_552 ⟨Nat.le_of_ble_eq_true rfl, Nat.le_of_ble_eq_true rfl⟩ ⟨Nat.zero_le _, Nat.zero_le _⟩ hP [2] rfl rfl rfl rfl hl.1 rfl rfl (Nat.le_of_ble_eq_true rfl) dX10_lookFor_23 rfl ?_
        refine lv_if_eq (tgt := 35) hx hb dX10_lookFor_26 (by decide) (fun hc => ?_) (fun hc => ?_)
        · have hf := kpos hc hf
          refine lv_aload_n hx hb dX10_lookFor_35 rfl (lv_at hl 0 rfl) ?_
          refine va_get (ci := 10) (v := .ref a_sheets) (C := RX10) (T := TX10) (N := 12) hx hb hts inX10 hown hK hP 0 rfl rfl 9 (by decide) (hts _ tw_292) (fun _ h9 => h9) rfl dX10_lookFor_36 ?_
          refine lv_iload_n hx hb dX10_lookFor_39 rfl (lv_at hl 1 rfl) ?_
          refine kaald hx hb hK hP 1 4 rfl rfl (k := 0) (by rw [hs_1]; rfl) rfl (by decide) dX10_lookFor_40 ?_
          obtain ⟨v41, hc41, hf⟩ := cb1_some hf
          refine kcRV (q0 := 2) (ci := 5) (As := []) (rest := []) (st1 := [.int v41]) C (c_Sh_form l D ct a_sheets0 a_sheets0_items f_sheets0_size f_sheets0_form v41 hc41) ⟨rfl, rfl⟩ yn_yX5_form tw_853 tw_854 tw_852 ⟨Nat.le_of_ble_eq_true rfl, Nat.le_of_ble_eq_true rfl⟩ ⟨Nat.zero_le _, Nat.zero_le _⟩ hP [2] rfl rfl rfl rfl hl.1 rfl rfl (Nat.le_of_ble_eq_true rfl) dX10_lookFor_41 rfl ?_
          refine lv_iload_n hx hb dX10_lookFor_44 rfl (lv_at hl 2 rfl) ?_
          refine lv_icmp_eq (tgt := 54) hx hb dX10_lookFor_45 (by decide) (fun hc => ?_) (fun hc => ?_)
          · have hf := kpos hc hf
            refine lv_aload_n hx hb dX10_lookFor_54 rfl (lv_at hl 0 rfl) ?_
            refine va_get (ci := 10) (v := .ref a_sheets) (C := RX10) (T := TX10) (N := 12) hx hb hts inX10 hown hK hP 0 rfl rfl 9 (by decide) (hts _ tw_292) (fun _ h9 => h9) rfl dX10_lookFor_55 ?_
            refine lv_iload_n hx hb dX10_lookFor_58 rfl (lv_at hl 1 rfl) ?_
            refine kaald hx hb hK hP 1 4 rfl rfl (k := 0) (by rw [hs_1]; rfl) rfl (by decide) dX10_lookFor_59 ?_
            refine lv_iload_n hx hb dX10_lookFor_60 rfl (lv_at hl 3 rfl) ?_
            refine lv_iconst (v := 1) hx hb dX10_lookFor_61 (by decide) ?_
            obtain ⟨v62, hc62, hf⟩ := cb1_some hf
            refine kcRV (q0 := 2) (ci := 5) (As := [.int x3, .int 1]) (rest := []) (st1 := [.int v62]) C (c_Sh_holds l D ct a_sheets0 a_sheets0_items f_sheets0_form f_sheets0_size x3 1 v62 hc62) ⟨rfl, rfl⟩ yn_yX5_holds tw_857 tw_858 tw_856 ⟨Nat.le_of_ble_eq_true rfl, Nat.le_of_ble_eq_true rfl⟩ ⟨Nat.zero_le _, Nat.zero_le _⟩ hP [2] rfl rfl rfl rfl hl.1 rfl rfl (Nat.le_of_ble_eq_true rfl) dX10_lookFor_62 rfl ?_
            refine lv_if_eq (tgt := 72) hx hb dX10_lookFor_65 (by decide) (fun hc => ?_) (fun hc => ?_)
            · have hf := kpos hc hf
              refine lv_aload_n hx hb dX10_lookFor_72 rfl (lv_at hl 0 rfl) ?_
              refine lv_iconst (v := 2) hx hb dX10_lookFor_73 (by decide) ?_
              obtain ⟨v74, f_finding_74, hc74, hf⟩ := cb2_some hf
              refine kcMV (q0 := 0) (ci := 10) (As := [.int 2]) (rest := []) (st1 := [.int v74]) (wf := (w_ND_lookFor ct a_this a_texts a_names a_pieces a_song a_fitting a_deal a_guesses a_wise a_spy a_sheets a_sheets0 a_sheets1 a_sheets2 a_sheets3 a_sheets0_items a_sheets1_items a_sheets2_items a_sheets3_items f_stale f_finding_74 f_sheets0_form f_sheets0_size f_sheets1_form f_sheets1_size f_sheets2_form f_sheets2_size f_sheets3_form f_sheets3_size)) C (c_ND_found l D ct a_this a_texts a_names a_pieces a_song a_fitting a_deal a_guesses a_wise a_spy a_sheets f_stale f_finding 2 v74 f_finding_74 _ hc74) ⟨rfl, rfl⟩ yn_yX10_found tw_558 tw_10 tw_556 ⟨Nat.le_of_ble_eq_true rfl, Nat.le_of_ble_eq_true rfl⟩ ⟨Nat.zero_le _, Nat.zero_le _⟩ hP hD hS hA [0] [1, 2, 3, 4, 5] [5, 0, 1, 2, 3, 4] rfl rfl rfl rfl rfl (by decide) rfl rfl rfl rfl rfl rfl hl.1 rfl rfl (Nat.le_of_ble_eq_true rfl) dX10_lookFor_74 rfl (fun H locs hP hD hS => ?_)
              obtain ⟨e1, e2⟩ := ti2 hf
              subst e1; subst e2
              exact kretM C hP hD hS dX10_lookFor_77
            · have hf := kneg hc hf
              refine lv_iconst (v := 1) hx hb dX10_lookFor_68 (by decide) ?_
              refine lv_goto (tgt := 77) hx hb dX10_lookFor_69 (by decide) ?_
              obtain ⟨e1, e2⟩ := ti2 hf
              subst e1; subst e2
              exact kretM C hP hD hS dX10_lookFor_77
          · have hf := kneg hc hf
            refine lv_aload_n hx hb dX10_lookFor_48 rfl (lv_at hl 0 rfl) ?_
            refine lv_iconst (v := 3) hx hb dX10_lookFor_49 (by decide) ?_
            obtain ⟨v50, f_finding_50, hc50, hf⟩ := cb2_some hf
            refine kcMV (q0 := 0) (ci := 10) (As := [.int 3]) (rest := []) (st1 := [.int v50]) (wf := (w_ND_lookFor ct a_this a_texts a_names a_pieces a_song a_fitting a_deal a_guesses a_wise a_spy a_sheets a_sheets0 a_sheets1 a_sheets2 a_sheets3 a_sheets0_items a_sheets1_items a_sheets2_items a_sheets3_items f_stale f_finding_50 f_sheets0_form f_sheets0_size f_sheets1_form f_sheets1_size f_sheets2_form f_sheets2_size f_sheets3_form f_sheets3_size)) C (c_ND_found l D ct a_this a_texts a_names a_pieces a_song a_fitting a_deal a_guesses a_wise a_spy a_sheets f_stale f_finding 3 v50 f_finding_50 _ hc50) ⟨rfl, rfl⟩ yn_yX10_found tw_558 tw_10 tw_556 ⟨Nat.le_of_ble_eq_true rfl, Nat.le_of_ble_eq_true rfl⟩ ⟨Nat.zero_le _, Nat.zero_le _⟩ hP hD hS hA [0] [1, 2, 3, 4, 5] [5, 0, 1, 2, 3, 4] rfl rfl rfl rfl rfl (by decide) rfl rfl rfl rfl rfl rfl hl.1 rfl rfl (Nat.le_of_ble_eq_true rfl) dX10_lookFor_50 rfl (fun H locs hP hD hS => ?_)
            obtain ⟨e1, e2⟩ := ti2 hf
            subst e1; subst e2
            exact kretM C hP hD hS dX10_lookFor_53
        · have hf := kneg hc hf
          refine lv_aload_n hx hb dX10_lookFor_29 rfl (lv_at hl 0 rfl) ?_
          refine lv_iconst (v := 1) hx hb dX10_lookFor_30 (by decide) ?_
          obtain ⟨v31, f_finding_31, hc31, hf⟩ := cb2_some hf
          refine kcMV (q0 := 0) (ci := 10) (As := [.int 1]) (rest := []) (st1 := [.int v31]) (wf := (w_ND_lookFor ct a_this a_texts a_names a_pieces a_song a_fitting a_deal a_guesses a_wise a_spy a_sheets a_sheets0 a_sheets1 a_sheets2 a_sheets3 a_sheets0_items a_sheets1_items a_sheets2_items a_sheets3_items f_stale f_finding_31 f_sheets0_form f_sheets0_size f_sheets1_form f_sheets1_size f_sheets2_form f_sheets2_size f_sheets3_form f_sheets3_size)) C (c_ND_found l D ct a_this a_texts a_names a_pieces a_song a_fitting a_deal a_guesses a_wise a_spy a_sheets f_stale f_finding 1 v31 f_finding_31 _ hc31) ⟨rfl, rfl⟩ yn_yX10_found tw_558 tw_10 tw_556 ⟨Nat.le_of_ble_eq_true rfl, Nat.le_of_ble_eq_true rfl⟩ ⟨Nat.zero_le _, Nat.zero_le _⟩ hP hD hS hA [0] [1, 2, 3, 4, 5] [5, 0, 1, 2, 3, 4] rfl rfl rfl rfl rfl (by decide) rfl rfl rfl rfl rfl rfl hl.1 rfl rfl (Nat.le_of_ble_eq_true rfl) dX10_lookFor_31 rfl (fun H locs hP hD hS => ?_)
          obtain ⟨e1, e2⟩ := ti2 hf
          subst e1; subst e2
          exact kretM C hP hD hS dX10_lookFor_34
      · have hf := kneg hs_1 hf
        by_cases hs_1 : x1 = 1
        · have hf := kpos hs_1 hf
          refine kaald hx hb hK hP 1 4 rfl rfl (k := 1) (by rw [hs_1]; rfl) rfl (by decide) dX10_lookFor_22 ?_
          obtain ⟨v23, hc23, hf⟩ := cb1_some hf
          refine kcRV (q0 := 3) (ci := 5) (As := []) (rest := []) (st1 := [.int v23]) C (c_Sh_isLost l D ct a_sheets1 a_sheets1_items f_sheets1_form f_sheets1_size v23 hc23) ⟨rfl, rfl⟩ yn_yX5_isLost tw_553 tw_554 tw_552 ⟨Nat.le_of_ble_eq_true rfl, Nat.le_of_ble_eq_true rfl⟩ ⟨Nat.zero_le _, Nat.zero_le _⟩ hP [3] rfl rfl rfl rfl hl.1 rfl rfl (Nat.le_of_ble_eq_true rfl) dX10_lookFor_23 rfl ?_
          refine lv_if_eq (tgt := 35) hx hb dX10_lookFor_26 (by decide) (fun hc => ?_) (fun hc => ?_)
          · have hf := kpos hc hf
            refine lv_aload_n hx hb dX10_lookFor_35 rfl (lv_at hl 0 rfl) ?_
            refine va_get (ci := 10) (v := .ref a_sheets) (C := RX10) (T := TX10) (N := 12) hx hb hts inX10 hown hK hP 0 rfl rfl 9 (by decide) (hts _ tw_292) (fun _ h9 => h9) rfl dX10_lookFor_36 ?_
            refine lv_iload_n hx hb dX10_lookFor_39 rfl (lv_at hl 1 rfl) ?_
            refine kaald hx hb hK hP 1 4 rfl rfl (k := 1) (by rw [hs_1]; rfl) rfl (by decide) dX10_lookFor_40 ?_
            obtain ⟨v41, hc41, hf⟩ := cb1_some hf
            refine kcRV (q0 := 3) (ci := 5) (As := []) (rest := []) (st1 := [.int v41]) C (c_Sh_form l D ct a_sheets1 a_sheets1_items f_sheets1_size f_sheets1_form v41 hc41) ⟨rfl, rfl⟩ yn_yX5_form tw_853 tw_854 tw_852 ⟨Nat.le_of_ble_eq_true rfl, Nat.le_of_ble_eq_true rfl⟩ ⟨Nat.zero_le _, Nat.zero_le _⟩ hP [3] rfl rfl rfl rfl hl.1 rfl rfl (Nat.le_of_ble_eq_true rfl) dX10_lookFor_41 rfl ?_
            refine lv_iload_n hx hb dX10_lookFor_44 rfl (lv_at hl 2 rfl) ?_
            refine lv_icmp_eq (tgt := 54) hx hb dX10_lookFor_45 (by decide) (fun hc => ?_) (fun hc => ?_)
            · have hf := kpos hc hf
              refine lv_aload_n hx hb dX10_lookFor_54 rfl (lv_at hl 0 rfl) ?_
              refine va_get (ci := 10) (v := .ref a_sheets) (C := RX10) (T := TX10) (N := 12) hx hb hts inX10 hown hK hP 0 rfl rfl 9 (by decide) (hts _ tw_292) (fun _ h9 => h9) rfl dX10_lookFor_55 ?_
              refine lv_iload_n hx hb dX10_lookFor_58 rfl (lv_at hl 1 rfl) ?_
              refine kaald hx hb hK hP 1 4 rfl rfl (k := 1) (by rw [hs_1]; rfl) rfl (by decide) dX10_lookFor_59 ?_
              refine lv_iload_n hx hb dX10_lookFor_60 rfl (lv_at hl 3 rfl) ?_
              refine lv_iconst (v := 1) hx hb dX10_lookFor_61 (by decide) ?_
              obtain ⟨v62, hc62, hf⟩ := cb1_some hf
              refine kcRV (q0 := 3) (ci := 5) (As := [.int x3, .int 1]) (rest := []) (st1 := [.int v62]) C (c_Sh_holds l D ct a_sheets1 a_sheets1_items f_sheets1_form f_sheets1_size x3 1 v62 hc62) ⟨rfl, rfl⟩ yn_yX5_holds tw_857 tw_858 tw_856 ⟨Nat.le_of_ble_eq_true rfl, Nat.le_of_ble_eq_true rfl⟩ ⟨Nat.zero_le _, Nat.zero_le _⟩ hP [3] rfl rfl rfl rfl hl.1 rfl rfl (Nat.le_of_ble_eq_true rfl) dX10_lookFor_62 rfl ?_
              refine lv_if_eq (tgt := 72) hx hb dX10_lookFor_65 (by decide) (fun hc => ?_) (fun hc => ?_)
              · have hf := kpos hc hf
                refine lv_aload_n hx hb dX10_lookFor_72 rfl (lv_at hl 0 rfl) ?_
                refine lv_iconst (v := 2) hx hb dX10_lookFor_73 (by decide) ?_
                obtain ⟨v74, f_finding_74, hc74, hf⟩ := cb2_some hf
                refine kcMV (q0 := 0) (ci := 10) (As := [.int 2]) (rest := []) (st1 := [.int v74]) (wf := (w_ND_lookFor ct a_this a_texts a_names a_pieces a_song a_fitting a_deal a_guesses a_wise a_spy a_sheets a_sheets0 a_sheets1 a_sheets2 a_sheets3 a_sheets0_items a_sheets1_items a_sheets2_items a_sheets3_items f_stale f_finding_74 f_sheets0_form f_sheets0_size f_sheets1_form f_sheets1_size f_sheets2_form f_sheets2_size f_sheets3_form f_sheets3_size)) C (c_ND_found l D ct a_this a_texts a_names a_pieces a_song a_fitting a_deal a_guesses a_wise a_spy a_sheets f_stale f_finding 2 v74 f_finding_74 _ hc74) ⟨rfl, rfl⟩ yn_yX10_found tw_558 tw_10 tw_556 ⟨Nat.le_of_ble_eq_true rfl, Nat.le_of_ble_eq_true rfl⟩ ⟨Nat.zero_le _, Nat.zero_le _⟩ hP hD hS hA [0] [1, 2, 3, 4, 5] [5, 0, 1, 2, 3, 4] rfl rfl rfl rfl rfl (by decide) rfl rfl rfl rfl rfl rfl hl.1 rfl rfl (Nat.le_of_ble_eq_true rfl) dX10_lookFor_74 rfl (fun H locs hP hD hS => ?_)
                obtain ⟨e1, e2⟩ := ti2 hf
                subst e1; subst e2
                exact kretM C hP hD hS dX10_lookFor_77
              · have hf := kneg hc hf
                refine lv_iconst (v := 1) hx hb dX10_lookFor_68 (by decide) ?_
                refine lv_goto (tgt := 77) hx hb dX10_lookFor_69 (by decide) ?_
                obtain ⟨e1, e2⟩ := ti2 hf
                subst e1; subst e2
                exact kretM C hP hD hS dX10_lookFor_77
            · have hf := kneg hc hf
              refine lv_aload_n hx hb dX10_lookFor_48 rfl (lv_at hl 0 rfl) ?_
              refine lv_iconst (v := 3) hx hb dX10_lookFor_49 (by decide) ?_
              obtain ⟨v50, f_finding_50, hc50, hf⟩ := cb2_some hf
              refine kcMV (q0 := 0) (ci := 10) (As := [.int 3]) (rest := []) (st1 := [.int v50]) (wf := (w_ND_lookFor ct a_this a_texts a_names a_pieces a_song a_fitting a_deal a_guesses a_wise a_spy a_sheets a_sheets0 a_sheets1 a_sheets2 a_sheets3 a_sheets0_items a_sheets1_items a_sheets2_items a_sheets3_items f_stale f_finding_50 f_sheets0_form f_sheets0_size f_sheets1_form f_sheets1_size f_sheets2_form f_sheets2_size f_sheets3_form f_sheets3_size)) C (c_ND_found l D ct a_this a_texts a_names a_pieces a_song a_fitting a_deal a_guesses a_wise a_spy a_sheets f_stale f_finding 3 v50 f_finding_50 _ hc50) ⟨rfl, rfl⟩ yn_yX10_found tw_558 tw_10 tw_556 ⟨Nat.le_of_ble_eq_true rfl, Nat.le_of_ble_eq_true rfl⟩ ⟨Nat.zero_le _, Nat.zero_le _⟩ hP hD hS hA [0] [1, 2, 3, 4, 5] [5, 0, 1, 2, 3, 4] rfl rfl rfl rfl rfl (by decide) rfl rfl rfl rfl rfl rfl hl.1 rfl rfl (Nat.le_of_ble_eq_true rfl) dX10_lookFor_50 rfl (fun H locs hP hD hS => ?_)
              obtain ⟨e1, e2⟩ := ti2 hf
              subst e1; subst e2
              exact kretM C hP hD hS dX10_lookFor_53
          · have hf := kneg hc hf
            refine lv_aload_n hx hb dX10_lookFor_29 rfl (lv_at hl 0 rfl) ?_
            refine lv_iconst (v := 1) hx hb dX10_lookFor_30 (by decide) ?_
            obtain ⟨v31, f_finding_31, hc31, hf⟩ := cb2_some hf
            refine kcMV (q0 := 0) (ci := 10) (As := [.int 1]) (rest := []) (st1 := [.int v31]) (wf := (w_ND_lookFor ct a_this a_texts a_names a_pieces a_song a_fitting a_deal a_guesses a_wise a_spy a_sheets a_sheets0 a_sheets1 a_sheets2 a_sheets3 a_sheets0_items a_sheets1_items a_sheets2_items a_sheets3_items f_stale f_finding_31 f_sheets0_form f_sheets0_size f_sheets1_form f_sheets1_size f_sheets2_form f_sheets2_size f_sheets3_form f_sheets3_size)) C (c_ND_found l D ct a_this a_texts a_names a_pieces a_song a_fitting a_deal a_guesses a_wise a_spy a_sheets f_stale f_finding 1 v31 f_finding_31 _ hc31) ⟨rfl, rfl⟩ yn_yX10_found tw_558 tw_10 tw_556 ⟨Nat.le_of_ble_eq_true rfl, Nat.le_of_ble_eq_true rfl⟩ ⟨Nat.zero_le _, Nat.zero_le _⟩ hP hD hS hA [0] [1, 2, 3, 4, 5] [5, 0, 1, 2, 3, 4] rfl rfl rfl rfl rfl (by decide) rfl rfl rfl rfl rfl rfl hl.1 rfl rfl (Nat.le_of_ble_eq_true rfl) dX10_lookFor_31 rfl (fun H locs hP hD hS => ?_)
            obtain ⟨e1, e2⟩ := ti2 hf
            subst e1; subst e2
            exact kretM C hP hD hS dX10_lookFor_34
        · have hf := kneg hs_1 hf
          by_cases hs_1 : x1 = 2
          · have hf := kpos hs_1 hf
            refine kaald hx hb hK hP 1 4 rfl rfl (k := 2) (by rw [hs_1]; rfl) rfl (by decide) dX10_lookFor_22 ?_
            obtain ⟨v23, hc23, hf⟩ := cb1_some hf
            refine kcRV (q0 := 4) (ci := 5) (As := []) (rest := []) (st1 := [.int v23]) C (c_Sh_isLost l D ct a_sheets2 a_sheets2_items f_sheets2_form f_sheets2_size v23 hc23) ⟨rfl, rfl⟩ yn_yX5_isLost tw_553 tw_554 tw_552 ⟨Nat.le_of_ble_eq_true rfl, Nat.le_of_ble_eq_true rfl⟩ ⟨Nat.zero_le _, Nat.zero_le _⟩ hP [4] rfl rfl rfl rfl hl.1 rfl rfl (Nat.le_of_ble_eq_true rfl) dX10_lookFor_23 rfl ?_
            refine lv_if_eq (tgt := 35) hx hb dX10_lookFor_26 (by decide) (fun hc => ?_) (fun hc => ?_)
            · have hf := kpos hc hf
              refine lv_aload_n hx hb dX10_lookFor_35 rfl (lv_at hl 0 rfl) ?_
              refine va_get (ci := 10) (v := .ref a_sheets) (C := RX10) (T := TX10) (N := 12) hx hb hts inX10 hown hK hP 0 rfl rfl 9 (by decide) (hts _ tw_292) (fun _ h9 => h9) rfl dX10_lookFor_36 ?_
              refine lv_iload_n hx hb dX10_lookFor_39 rfl (lv_at hl 1 rfl) ?_
              refine kaald hx hb hK hP 1 4 rfl rfl (k := 2) (by rw [hs_1]; rfl) rfl (by decide) dX10_lookFor_40 ?_
              obtain ⟨v41, hc41, hf⟩ := cb1_some hf
              refine kcRV (q0 := 4) (ci := 5) (As := []) (rest := []) (st1 := [.int v41]) C (c_Sh_form l D ct a_sheets2 a_sheets2_items f_sheets2_size f_sheets2_form v41 hc41) ⟨rfl, rfl⟩ yn_yX5_form tw_853 tw_854 tw_852 ⟨Nat.le_of_ble_eq_true rfl, Nat.le_of_ble_eq_true rfl⟩ ⟨Nat.zero_le _, Nat.zero_le _⟩ hP [4] rfl rfl rfl rfl hl.1 rfl rfl (Nat.le_of_ble_eq_true rfl) dX10_lookFor_41 rfl ?_
              refine lv_iload_n hx hb dX10_lookFor_44 rfl (lv_at hl 2 rfl) ?_
              refine lv_icmp_eq (tgt := 54) hx hb dX10_lookFor_45 (by decide) (fun hc => ?_) (fun hc => ?_)
              · have hf := kpos hc hf
                refine lv_aload_n hx hb dX10_lookFor_54 rfl (lv_at hl 0 rfl) ?_
                refine va_get (ci := 10) (v := .ref a_sheets) (C := RX10) (T := TX10) (N := 12) hx hb hts inX10 hown hK hP 0 rfl rfl 9 (by decide) (hts _ tw_292) (fun _ h9 => h9) rfl dX10_lookFor_55 ?_
                refine lv_iload_n hx hb dX10_lookFor_58 rfl (lv_at hl 1 rfl) ?_
                refine kaald hx hb hK hP 1 4 rfl rfl (k := 2) (by rw [hs_1]; rfl) rfl (by decide) dX10_lookFor_59 ?_
                refine lv_iload_n hx hb dX10_lookFor_60 rfl (lv_at hl 3 rfl) ?_
                refine lv_iconst (v := 1) hx hb dX10_lookFor_61 (by decide) ?_
                obtain ⟨v62, hc62, hf⟩ := cb1_some hf
                refine kcRV (q0 := 4) (ci := 5) (As := [.int x3, .int 1]) (rest := []) (st1 := [.int v62]) C (c_Sh_holds l D ct a_sheets2 a_sheets2_items f_sheets2_form f_sheets2_size x3 1 v62 hc62) ⟨rfl, rfl⟩ yn_yX5_holds tw_857 tw_858 tw_856 ⟨Nat.le_of_ble_eq_true rfl, Nat.le_of_ble_eq_true rfl⟩ ⟨Nat.zero_le _, Nat.zero_le _⟩ hP [4] rfl rfl rfl rfl hl.1 rfl rfl (Nat.le_of_ble_eq_true rfl) dX10_lookFor_62 rfl ?_
                refine lv_if_eq (tgt := 72) hx hb dX10_lookFor_65 (by decide) (fun hc => ?_) (fun hc => ?_)
                · have hf := kpos hc hf
                  refine lv_aload_n hx hb dX10_lookFor_72 rfl (lv_at hl 0 rfl) ?_
                  refine lv_iconst (v := 2) hx hb dX10_lookFor_73 (by decide) ?_
                  obtain ⟨v74, f_finding_74, hc74, hf⟩ := cb2_some hf
                  refine kcMV (q0 := 0) (ci := 10) (As := [.int 2]) (rest := []) (st1 := [.int v74]) (wf := (w_ND_lookFor ct a_this a_texts a_names a_pieces a_song a_fitting a_deal a_guesses a_wise a_spy a_sheets a_sheets0 a_sheets1 a_sheets2 a_sheets3 a_sheets0_items a_sheets1_items a_sheets2_items a_sheets3_items f_stale f_finding_74 f_sheets0_form f_sheets0_size f_sheets1_form f_sheets1_size f_sheets2_form f_sheets2_size f_sheets3_form f_sheets3_size)) C (c_ND_found l D ct a_this a_texts a_names a_pieces a_song a_fitting a_deal a_guesses a_wise a_spy a_sheets f_stale f_finding 2 v74 f_finding_74 _ hc74) ⟨rfl, rfl⟩ yn_yX10_found tw_558 tw_10 tw_556 ⟨Nat.le_of_ble_eq_true rfl, Nat.le_of_ble_eq_true rfl⟩ ⟨Nat.zero_le _, Nat.zero_le _⟩ hP hD hS hA [0] [1, 2, 3, 4, 5] [5, 0, 1, 2, 3, 4] rfl rfl rfl rfl rfl (by decide) rfl rfl rfl rfl rfl rfl hl.1 rfl rfl (Nat.le_of_ble_eq_true rfl) dX10_lookFor_74 rfl (fun H locs hP hD hS => ?_)
                  obtain ⟨e1, e2⟩ := ti2 hf
                  subst e1; subst e2
                  exact kretM C hP hD hS dX10_lookFor_77
                · have hf := kneg hc hf
                  refine lv_iconst (v := 1) hx hb dX10_lookFor_68 (by decide) ?_
                  refine lv_goto (tgt := 77) hx hb dX10_lookFor_69 (by decide) ?_
                  obtain ⟨e1, e2⟩ := ti2 hf
                  subst e1; subst e2
                  exact kretM C hP hD hS dX10_lookFor_77
              · have hf := kneg hc hf
                refine lv_aload_n hx hb dX10_lookFor_48 rfl (lv_at hl 0 rfl) ?_
                refine lv_iconst (v := 3) hx hb dX10_lookFor_49 (by decide) ?_
                obtain ⟨v50, f_finding_50, hc50, hf⟩ := cb2_some hf
                refine kcMV (q0 := 0) (ci := 10) (As := [.int 3]) (rest := []) (st1 := [.int v50]) (wf := (w_ND_lookFor ct a_this a_texts a_names a_pieces a_song a_fitting a_deal a_guesses a_wise a_spy a_sheets a_sheets0 a_sheets1 a_sheets2 a_sheets3 a_sheets0_items a_sheets1_items a_sheets2_items a_sheets3_items f_stale f_finding_50 f_sheets0_form f_sheets0_size f_sheets1_form f_sheets1_size f_sheets2_form f_sheets2_size f_sheets3_form f_sheets3_size)) C (c_ND_found l D ct a_this a_texts a_names a_pieces a_song a_fitting a_deal a_guesses a_wise a_spy a_sheets f_stale f_finding 3 v50 f_finding_50 _ hc50) ⟨rfl, rfl⟩ yn_yX10_found tw_558 tw_10 tw_556 ⟨Nat.le_of_ble_eq_true rfl, Nat.le_of_ble_eq_true rfl⟩ ⟨Nat.zero_le _, Nat.zero_le _⟩ hP hD hS hA [0] [1, 2, 3, 4, 5] [5, 0, 1, 2, 3, 4] rfl rfl rfl rfl rfl (by decide) rfl rfl rfl rfl rfl rfl hl.1 rfl rfl (Nat.le_of_ble_eq_true rfl) dX10_lookFor_50 rfl (fun H locs hP hD hS => ?_)
                obtain ⟨e1, e2⟩ := ti2 hf
                subst e1; subst e2
                exact kretM C hP hD hS dX10_lookFor_53
            · have hf := kneg hc hf
              refine lv_aload_n hx hb dX10_lookFor_29 rfl (lv_at hl 0 rfl) ?_
              refine lv_iconst (v := 1) hx hb dX10_lookFor_30 (by decide) ?_
              obtain ⟨v31, f_finding_31, hc31, hf⟩ := cb2_some hf
              refine kcMV (q0 := 0) (ci := 10) (As := [.int 1]) (rest := []) (st1 := [.int v31]) (wf := (w_ND_lookFor ct a_this a_texts a_names a_pieces a_song a_fitting a_deal a_guesses a_wise a_spy a_sheets a_sheets0 a_sheets1 a_sheets2 a_sheets3 a_sheets0_items a_sheets1_items a_sheets2_items a_sheets3_items f_stale f_finding_31 f_sheets0_form f_sheets0_size f_sheets1_form f_sheets1_size f_sheets2_form f_sheets2_size f_sheets3_form f_sheets3_size)) C (c_ND_found l D ct a_this a_texts a_names a_pieces a_song a_fitting a_deal a_guesses a_wise a_spy a_sheets f_stale f_finding 1 v31 f_finding_31 _ hc31) ⟨rfl, rfl⟩ yn_yX10_found tw_558 tw_10 tw_556 ⟨Nat.le_of_ble_eq_true rfl, Nat.le_of_ble_eq_true rfl⟩ ⟨Nat.zero_le _, Nat.zero_le _⟩ hP hD hS hA [0] [1, 2, 3, 4, 5] [5, 0, 1, 2, 3, 4] rfl rfl rfl rfl rfl (by decide) rfl rfl rfl rfl rfl rfl hl.1 rfl rfl (Nat.le_of_ble_eq_true rfl) dX10_lookFor_31 rfl (fun H locs hP hD hS => ?_)
              obtain ⟨e1, e2⟩ := ti2 hf
              subst e1; subst e2
              exact kretM C hP hD hS dX10_lookFor_34
          · have hf := kneg hs_1 hf
            by_cases hs_1 : x1 = 3
            · have hf := kpos hs_1 hf
              refine kaald hx hb hK hP 1 4 rfl rfl (k := 3) (by rw [hs_1]; rfl) rfl (by decide) dX10_lookFor_22 ?_
              obtain ⟨v23, hc23, hf⟩ := cb1_some hf
              refine kcRV (q0 := 5) (ci := 5) (As := []) (rest := []) (st1 := [.int v23]) C (c_Sh_isLost l D ct a_sheets3 a_sheets3_items f_sheets3_form f_sheets3_size v23 hc23) ⟨rfl, rfl⟩ yn_yX5_isLost tw_553 tw_554 tw_552 ⟨Nat.le_of_ble_eq_true rfl, Nat.le_of_ble_eq_true rfl⟩ ⟨Nat.zero_le _, Nat.zero_le _⟩ hP [5] rfl rfl rfl rfl hl.1 rfl rfl (Nat.le_of_ble_eq_true rfl) dX10_lookFor_23 rfl ?_
              refine lv_if_eq (tgt := 35) hx hb dX10_lookFor_26 (by decide) (fun hc => ?_) (fun hc => ?_)
              · have hf := kpos hc hf
                refine lv_aload_n hx hb dX10_lookFor_35 rfl (lv_at hl 0 rfl) ?_
                refine va_get (ci := 10) (v := .ref a_sheets) (C := RX10) (T := TX10) (N := 12) hx hb hts inX10 hown hK hP 0 rfl rfl 9 (by decide) (hts _ tw_292) (fun _ h9 => h9) rfl dX10_lookFor_36 ?_
                refine lv_iload_n hx hb dX10_lookFor_39 rfl (lv_at hl 1 rfl) ?_
                refine kaald hx hb hK hP 1 4 rfl rfl (k := 3) (by rw [hs_1]; rfl) rfl (by decide) dX10_lookFor_40 ?_
                obtain ⟨v41, hc41, hf⟩ := cb1_some hf
                refine kcRV (q0 := 5) (ci := 5) (As := []) (rest := []) (st1 := [.int v41]) C (c_Sh_form l D ct a_sheets3 a_sheets3_items f_sheets3_size f_sheets3_form v41 hc41) ⟨rfl, rfl⟩ yn_yX5_form tw_853 tw_854 tw_852 ⟨Nat.le_of_ble_eq_true rfl, Nat.le_of_ble_eq_true rfl⟩ ⟨Nat.zero_le _, Nat.zero_le _⟩ hP [5] rfl rfl rfl rfl hl.1 rfl rfl (Nat.le_of_ble_eq_true rfl) dX10_lookFor_41 rfl ?_
                refine lv_iload_n hx hb dX10_lookFor_44 rfl (lv_at hl 2 rfl) ?_
                refine lv_icmp_eq (tgt := 54) hx hb dX10_lookFor_45 (by decide) (fun hc => ?_) (fun hc => ?_)
                · have hf := kpos hc hf
                  refine lv_aload_n hx hb dX10_lookFor_54 rfl (lv_at hl 0 rfl) ?_
                  refine va_get (ci := 10) (v := .ref a_sheets) (C := RX10) (T := TX10) (N := 12) hx hb hts inX10 hown hK hP 0 rfl rfl 9 (by decide) (hts _ tw_292) (fun _ h9 => h9) rfl dX10_lookFor_55 ?_
                  refine lv_iload_n hx hb dX10_lookFor_58 rfl (lv_at hl 1 rfl) ?_
                  refine kaald hx hb hK hP 1 4 rfl rfl (k := 3) (by rw [hs_1]; rfl) rfl (by decide) dX10_lookFor_59 ?_
                  refine lv_iload_n hx hb dX10_lookFor_60 rfl (lv_at hl 3 rfl) ?_
                  refine lv_iconst (v := 1) hx hb dX10_lookFor_61 (by decide) ?_
                  obtain ⟨v62, hc62, hf⟩ := cb1_some hf
                  refine kcRV (q0 := 5) (ci := 5) (As := [.int x3, .int 1]) (rest := []) (st1 := [.int v62]) C (c_Sh_holds l D ct a_sheets3 a_sheets3_items f_sheets3_form f_sheets3_size x3 1 v62 hc62) ⟨rfl, rfl⟩ yn_yX5_holds tw_857 tw_858 tw_856 ⟨Nat.le_of_ble_eq_true rfl, Nat.le_of_ble_eq_true rfl⟩ ⟨Nat.zero_le _, Nat.zero_le _⟩ hP [5] rfl rfl rfl rfl hl.1 rfl rfl (Nat.le_of_ble_eq_true rfl) dX10_lookFor_62 rfl ?_
                  refine lv_if_eq (tgt := 72) hx hb dX10_lookFor_65 (by decide) (fun hc => ?_) (fun hc => ?_)
                  · have hf := kpos hc hf
                    refine lv_aload_n hx hb dX10_lookFor_72 rfl (lv_at hl 0 rfl) ?_
                    refine lv_iconst (v := 2) hx hb dX10_lookFor_73 (by decide) ?_
                    obtain ⟨v74, f_finding_74, hc74, hf⟩ := cb2_some hf
                    refine kcMV (q0 := 0) (ci := 10) (As := [.int 2]) (rest := []) (st1 := [.int v74]) (wf := (w_ND_lookFor ct a_this a_texts a_names a_pieces a_song a_fitting a_deal a_guesses a_wise a_spy a_sheets a_sheets0 a_sheets1 a_sheets2 a_sheets3 a_sheets0_items a_sheets1_items a_sheets2_items a_sheets3_items f_stale f_finding_74 f_sheets0_form f_sheets0_size f_sheets1_form f_sheets1_size f_sheets2_form f_sheets2_size f_sheets3_form f_sheets3_size)) C (c_ND_found l D ct a_this a_texts a_names a_pieces a_song a_fitting a_deal a_guesses a_wise a_spy a_sheets f_stale f_finding 2 v74 f_finding_74 _ hc74) ⟨rfl, rfl⟩ yn_yX10_found tw_558 tw_10 tw_556 ⟨Nat.le_of_ble_eq_true rfl, Nat.le_of_ble_eq_true rfl⟩ ⟨Nat.zero_le _, Nat.zero_le _⟩ hP hD hS hA [0] [1, 2, 3, 4, 5] [5, 0, 1, 2, 3, 4] rfl rfl rfl rfl rfl (by decide) rfl rfl rfl rfl rfl rfl hl.1 rfl rfl (Nat.le_of_ble_eq_true rfl) dX10_lookFor_74 rfl (fun H locs hP hD hS => ?_)
                    obtain ⟨e1, e2⟩ := ti2 hf
                    subst e1; subst e2
                    exact kretM C hP hD hS dX10_lookFor_77
                  · have hf := kneg hc hf
                    refine lv_iconst (v := 1) hx hb dX10_lookFor_68 (by decide) ?_
                    refine lv_goto (tgt := 77) hx hb dX10_lookFor_69 (by decide) ?_
                    obtain ⟨e1, e2⟩ := ti2 hf
                    subst e1; subst e2
                    exact kretM C hP hD hS dX10_lookFor_77
                · have hf := kneg hc hf
                  refine lv_aload_n hx hb dX10_lookFor_48 rfl (lv_at hl 0 rfl) ?_
                  refine lv_iconst (v := 3) hx hb dX10_lookFor_49 (by decide) ?_
                  obtain ⟨v50, f_finding_50, hc50, hf⟩ := cb2_some hf
                  refine kcMV (q0 := 0) (ci := 10) (As := [.int 3]) (rest := []) (st1 := [.int v50]) (wf := (w_ND_lookFor ct a_this a_texts a_names a_pieces a_song a_fitting a_deal a_guesses a_wise a_spy a_sheets a_sheets0 a_sheets1 a_sheets2 a_sheets3 a_sheets0_items a_sheets1_items a_sheets2_items a_sheets3_items f_stale f_finding_50 f_sheets0_form f_sheets0_size f_sheets1_form f_sheets1_size f_sheets2_form f_sheets2_size f_sheets3_form f_sheets3_size)) C (c_ND_found l D ct a_this a_texts a_names a_pieces a_song a_fitting a_deal a_guesses a_wise a_spy a_sheets f_stale f_finding 3 v50 f_finding_50 _ hc50) ⟨rfl, rfl⟩ yn_yX10_found tw_558 tw_10 tw_556 ⟨Nat.le_of_ble_eq_true rfl, Nat.le_of_ble_eq_true rfl⟩ ⟨Nat.zero_le _, Nat.zero_le _⟩ hP hD hS hA [0] [1, 2, 3, 4, 5] [5, 0, 1, 2, 3, 4] rfl rfl rfl rfl rfl (by decide) rfl rfl rfl rfl rfl rfl hl.1 rfl rfl (Nat.le_of_ble_eq_true rfl) dX10_lookFor_50 rfl (fun H locs hP hD hS => ?_)
                  obtain ⟨e1, e2⟩ := ti2 hf
                  subst e1; subst e2
                  exact kretM C hP hD hS dX10_lookFor_53
              · have hf := kneg hc hf
                refine lv_aload_n hx hb dX10_lookFor_29 rfl (lv_at hl 0 rfl) ?_
                refine lv_iconst (v := 1) hx hb dX10_lookFor_30 (by decide) ?_
                obtain ⟨v31, f_finding_31, hc31, hf⟩ := cb2_some hf
                refine kcMV (q0 := 0) (ci := 10) (As := [.int 1]) (rest := []) (st1 := [.int v31]) (wf := (w_ND_lookFor ct a_this a_texts a_names a_pieces a_song a_fitting a_deal a_guesses a_wise a_spy a_sheets a_sheets0 a_sheets1 a_sheets2 a_sheets3 a_sheets0_items a_sheets1_items a_sheets2_items a_sheets3_items f_stale f_finding_31 f_sheets0_form f_sheets0_size f_sheets1_form f_sheets1_size f_sheets2_form f_sheets2_size f_sheets3_form f_sheets3_size)) C (c_ND_found l D ct a_this a_texts a_names a_pieces a_song a_fitting a_deal a_guesses a_wise a_spy a_sheets f_stale f_finding 1 v31 f_finding_31 _ hc31) ⟨rfl, rfl⟩ yn_yX10_found tw_558 tw_10 tw_556 ⟨Nat.le_of_ble_eq_true rfl, Nat.le_of_ble_eq_true rfl⟩ ⟨Nat.zero_le _, Nat.zero_le _⟩ hP hD hS hA [0] [1, 2, 3, 4, 5] [5, 0, 1, 2, 3, 4] rfl rfl rfl rfl rfl (by decide) rfl rfl rfl rfl rfl rfl hl.1 rfl rfl (Nat.le_of_ble_eq_true rfl) dX10_lookFor_31 rfl (fun H locs hP hD hS => ?_)
                obtain ⟨e1, e2⟩ := ti2 hf
                subst e1; subst e2
                exact kretM C hP hD hS dX10_lookFor_34
            · have hf := kneg hs_1 hf
              cases hf
    · have hf := kpos hc hf
      refine lv_bipush (v := (-2)) hx hb dX10_lookFor_14 (by decide) ?_
      obtain ⟨e1, e2⟩ := ti2 hf
      subst e1; subst e2
      exact kretM C hP hD hS dX10_lookFor_16
def RM_Sh_asOfForm : Room := { frames := 0, cells := 0, slots := 0, locals := 0 }
set_option maxHeartbeats 4000000 in
set_option maxRecDepth 100000 in
theorem c_Sh_asOfForm (l : Launch) (D : va_G) (ct : Nat → ClassId) (a_this a_items : Nat) (f_size : Int32) (f_form : Int32) (x1 : Int32) (r : Int32) (hf : Sh_asOfForm f_form x1 = some r) : Met l yX5_asOfForm (WS yX5_asOfForm cX5_asOfForm 2 (some .int)) RM_Sh_asOfForm (va_Pc [.ref a_this, .int x1] (PR D ct (w_Sh_asOfForm ct a_this a_items f_form f_size))) (QR (some (.int r))) 0 0 (fun _ => False) := by
  refine kMetR yn_yX5_asOfForm rfl (Nat.le_of_ble_eq_true rfl) ?_
  intro p e s m args below meth c C hP ls hl
  have hl : lv_has ls 2 [(0, .ref a_this), (1, .int x1)] := hl
  obtain ⟨hx, hb, hr, hml, hown, hts, hlk, hK, hN⟩ := id C
  unfold Sh_asOfForm at hf
  refine lv_aload_n hx hb dX5_asOfForm_0 rfl (lv_at hl 0 rfl) ?_
  refine va_get (ci := 5) (v := .int f_form) (C := RX5) (T := TX5) (N := 3) hx hb hts inX5 hown hK hP 0 rfl rfl 1 (by decide) (hts _ tw_274) (fun _ h9 => h9) rfl dX5_asOfForm_1 ?_
  refine lv_if_ne (tgt := 10) hx hb dX5_asOfForm_4 (by decide) (fun hc => ?_) (fun hc => ?_)
  · have hf := kneg hc hf
    refine lv_aload_n hx hb dX5_asOfForm_10 rfl (lv_at hl 0 rfl) ?_
    refine va_get (ci := 5) (v := .int f_form) (C := RX5) (T := TX5) (N := 3) hx hb hts inX5 hown hK hP 0 rfl rfl 1 (by decide) (hts _ tw_274) (fun _ h9 => h9) rfl dX5_asOfForm_11 ?_
    refine lv_iconst (v := 1) hx hb dX5_asOfForm_14 (by decide) ?_
    refine lv_icmp_ne (tgt := 23) hx hb dX5_asOfForm_15 (by decide) (fun hc => ?_) (fun hc => ?_)
    · have hf := kneg hc hf
      refine lv_iload_n hx hb dX5_asOfForm_23 rfl (lv_at hl 1 rfl) ?_
      have e1 := Option.some.inj hf
      subst e1
      exact kretR C dX5_asOfForm_24
    · have hf := kpos hc hf
      refine lv_iload_n hx hb dX5_asOfForm_18 rfl (lv_at hl 1 rfl) ?_
      refine lv_i2s (v := (Int32.toInt16 x1).toInt32) hx hb dX5_asOfForm_19 rfl ?_
      refine lv_goto (tgt := 24) hx hb dX5_asOfForm_20 (by decide) ?_
      have e1 := Option.some.inj hf
      subst e1
      exact kretR C dX5_asOfForm_24
  · have hf := kpos hc hf
    refine lv_iload_n hx hb dX5_asOfForm_7 rfl (lv_at hl 1 rfl) ?_
    refine lv_i2b (v := (Int32.toInt8 x1).toInt32) hx hb dX5_asOfForm_8 rfl ?_
    have e1 := Option.some.inj hf
    subst e1
    exact kretR C dX5_asOfForm_9
def RM_Sh_put : Room := { frames := 1, cells := 0, slots := 0, locals := 21 }
set_option maxHeartbeats 4000000 in
set_option maxRecDepth 100000 in
theorem c_Sh_put (l : Launch) (D : va_G) (ct : Nat → ClassId) (a_this a_items : Nat) (f_form : Int32) (f_size : Int32) (f_items : Nat → Int32) (x1 : Int32) (x2 : Int32) (r_items : Nat → Int32) (sz : Nat) (hf : Sh_put f_form f_size f_items x1 x2 = some r_items) : Met l yX5_put (WS yX5_put cX5_put 3 none) RM_Sh_put (va_Pc [.ref a_this, .int x1, .int x2] (PM D ct sz (w_Sh_put ct a_this a_items f_form f_size f_items))) (QM D none (w_Sh_put ct a_this a_items f_form f_size r_items) (va_A (w_Sh_put ct a_this a_items f_form f_size f_items) sz)) 0 0 (va_A (w_Sh_put ct a_this a_items f_form f_size f_items) sz) := by
  refine kMetM yn_yX5_put rfl (Nat.le_of_ble_eq_true rfl) ?_
  intro p e s m args below meth c A C hA hP hD ls hl
  have hl : lv_has ls 3 [(0, .ref a_this), (1, .int x1), (2, .int x2)] := hl
  have hS : va_S A s.heap s.heap [] := va_S.rf
  obtain ⟨hx, hb, hr, hml, hown, hts, hlk, hK, hN⟩ := id C
  unfold Sh_put at hf
  refine lv_iload_n hx hb dX5_put_0 rfl (lv_at hl 1 rfl) ?_
  refine lv_if_lt (tgt := 32) hx hb dX5_put_1 (by decide) (fun hc => ?_) (fun hc => ?_)
  · have hf := kpos hc hf
    have e1 := Option.some.inj hf
    subst e1
    exact kretMv C hP hD hS dX5_put_32
  · have hf := kneg hc hf
    refine lv_iload_n hx hb dX5_put_4 rfl (lv_at hl 1 rfl) ?_
    refine lv_aload_n hx hb dX5_put_5 rfl (lv_at hl 0 rfl) ?_
    refine va_get (ci := 5) (v := .int f_size) (C := RX5) (T := TX5) (N := 3) hx hb hts inX5 hown hK hP 0 rfl rfl 2 (by decide) (hts _ tw_275) (fun _ h9 => h9) rfl dX5_put_6 ?_
    refine lv_icmp_ge (tgt := 32) hx hb dX5_put_9 (by decide) (fun hc => ?_) (fun hc => ?_)
    · have hf := kpos hc hf
      have e1 := Option.some.inj hf
      subst e1
      exact kretMv C hP hD hS dX5_put_32
    · have hf := kneg hc hf
      refine lv_iload_n hx hb dX5_put_12 rfl (lv_at hl 1 rfl) ?_
      refine lv_aload_n hx hb dX5_put_13 rfl (lv_at hl 0 rfl) ?_
      refine va_get (ci := 5) (v := .ref a_items) (C := RX5) (T := TX5) (N := 3) hx hb hts inX5 hown hK hP 0 rfl rfl 0 (by decide) (hts _ tw_273) (fun _ h9 => h9) rfl dX5_put_14 ?_
      refine va_alen (v := 60) hx hb hK hP 1 0 rfl rfl rfl dX5_put_17 ?_
      refine lv_icmp_ge (tgt := 32) hx hb dX5_put_18 (by decide) (fun hc => ?_) (fun hc => ?_)
      · have hf := kpos hc hf
        have e1 := Option.some.inj hf
        subst e1
        exact kretMv C hP hD hS dX5_put_32
      · have hf := kneg hc hf
        refine lv_aload_n hx hb dX5_put_21 rfl (lv_at hl 0 rfl) ?_
        refine va_get (ci := 5) (v := .ref a_items) (C := RX5) (T := TX5) (N := 3) hx hb hts inX5 hown hK hP 0 rfl rfl 0 (by decide) (hts _ tw_273) (fun _ h9 => h9) rfl dX5_put_22 ?_
        refine lv_iload_n hx hb dX5_put_25 rfl (lv_at hl 1 rfl) ?_
        refine lv_aload_n hx hb dX5_put_26 rfl (lv_at hl 0 rfl) ?_
        refine lv_iload_n hx hb dX5_put_27 rfl (lv_at hl 2 rfl) ?_
        obtain ⟨v28, hc28, hf⟩ := cb1_some hf
        refine kcRV (q0 := 0) (ci := 5) (As := [.int x2]) (rest := [.int x1, .ref a_items]) (st1 := [.int v28, .int x1, .ref a_items]) C (c_Sh_asOfForm l D ct a_this a_items f_size f_form x2 v28 hc28) ⟨rfl, rfl⟩ yn_yX5_asOfForm tw_866 tw_22 tw_864 ⟨Nat.le_of_ble_eq_true rfl, Nat.le_of_ble_eq_true rfl⟩ ⟨Nat.zero_le _, Nat.zero_le _⟩ hP [0] rfl rfl rfl rfl hl.1 rfl rfl (Nat.le_of_ble_eq_true rfl) dX5_put_28 rfl ?_
        obtain ⟨hin, f_items_31, ev31, hf⟩ := wr_ex hf
        refine kiast hx hb hK hP hD hS 1 0 rfl rfl hin ev31 dX5_put_31 (fun H locs hP hD hS => ?_)
        have hP : va_P D vwCl (w_Sh_put ct a_this a_items f_form f_size f_items_31) H := hP
        have hD : va_D A (w_Sh_put ct a_this a_items f_form f_size f_items_31) := hD
        have e1 := Option.some.inj hf
        subst e1
        exact kretMv C hP hD hS dX5_put_32
def RM_ND_lay : Room := { frames := 2, cells := 0, slots := 0, locals := 45 }
set_option maxHeartbeats 4000000 in
set_option maxRecDepth 100000 in
theorem c_ND_lay (l : Launch) (D : va_G) (ct : Nat → ClassId) (a_this a_texts a_names a_pieces a_song a_fitting a_deal a_guesses a_wise a_spy a_sheets a_sheets0 a_sheets1 a_sheets2 a_sheets3 a_sheets0_items a_sheets1_items a_sheets2_items a_sheets3_items : Nat) (f_stale : Int32) (f_sheets0_form : Int32) (f_sheets0_size : Int32) (f_sheets1_form : Int32) (f_sheets1_size : Int32) (f_sheets2_form : Int32) (f_sheets2_size : Int32) (f_sheets3_form : Int32) (f_sheets3_size : Int32) (f_finding : Int32) (f_sheets0_items : Nat → Int32) (f_sheets1_items : Nat → Int32) (f_sheets2_items : Nat → Int32) (f_sheets3_items : Nat → Int32) (x1 : Int32) (x2 : Int32) (x3 : Int32) (x4 : Int32) (r : Int32) (r_finding : Int32) (r_sheets0_items : Nat → Int32) (r_sheets1_items : Nat → Int32) (r_sheets2_items : Nat → Int32) (r_sheets3_items : Nat → Int32) (sz : Nat) (hf : ND_lay f_sheets0_form f_sheets0_size f_sheets1_form f_sheets1_size f_sheets2_form f_sheets2_size f_sheets3_form f_sheets3_size f_finding f_sheets0_items f_sheets1_items f_sheets2_items f_sheets3_items x1 x2 x3 x4 = some (r, r_finding, r_sheets0_items, r_sheets1_items, r_sheets2_items, r_sheets3_items)) : Met l yX10_lay (WS yX10_lay cX10_lay 6 (some .int)) RM_ND_lay (va_Pc [.ref a_this, .int x1, .int x2, .int x3, .int x4] (PM D ct sz (w_ND_lay ct a_this a_texts a_names a_pieces a_song a_fitting a_deal a_guesses a_wise a_spy a_sheets a_sheets0 a_sheets1 a_sheets2 a_sheets3 a_sheets0_items a_sheets1_items a_sheets2_items a_sheets3_items f_stale f_finding f_sheets0_form f_sheets0_size f_sheets0_items f_sheets1_form f_sheets1_size f_sheets1_items f_sheets2_form f_sheets2_size f_sheets2_items f_sheets3_form f_sheets3_size f_sheets3_items))) (QM D (some (.int r)) (w_ND_lay ct a_this a_texts a_names a_pieces a_song a_fitting a_deal a_guesses a_wise a_spy a_sheets a_sheets0 a_sheets1 a_sheets2 a_sheets3 a_sheets0_items a_sheets1_items a_sheets2_items a_sheets3_items f_stale r_finding f_sheets0_form f_sheets0_size r_sheets0_items f_sheets1_form f_sheets1_size r_sheets1_items f_sheets2_form f_sheets2_size r_sheets2_items f_sheets3_form f_sheets3_size r_sheets3_items) (va_A (w_ND_lay ct a_this a_texts a_names a_pieces a_song a_fitting a_deal a_guesses a_wise a_spy a_sheets a_sheets0 a_sheets1 a_sheets2 a_sheets3 a_sheets0_items a_sheets1_items a_sheets2_items a_sheets3_items f_stale f_finding f_sheets0_form f_sheets0_size f_sheets0_items f_sheets1_form f_sheets1_size f_sheets1_items f_sheets2_form f_sheets2_size f_sheets2_items f_sheets3_form f_sheets3_size f_sheets3_items) sz)) 0 0 (va_A (w_ND_lay ct a_this a_texts a_names a_pieces a_song a_fitting a_deal a_guesses a_wise a_spy a_sheets a_sheets0 a_sheets1 a_sheets2 a_sheets3 a_sheets0_items a_sheets1_items a_sheets2_items a_sheets3_items f_stale f_finding f_sheets0_form f_sheets0_size f_sheets0_items f_sheets1_form f_sheets1_size f_sheets1_items f_sheets2_form f_sheets2_size f_sheets2_items f_sheets3_form f_sheets3_size f_sheets3_items) sz) := by
  refine kMetM yn_yX10_lay rfl (Nat.le_of_ble_eq_true rfl) ?_
  intro p e s m args below meth c A C hA hP hD ls hl
  have hl : lv_has ls 6 [(0, .ref a_this), (1, .int x1), (2, .int x2), (3, .int x3), (4, .int x4)] := hl
  have hS : va_S A s.heap s.heap [] := va_S.rf
  obtain ⟨hx, hb, hr, hml, hown, hts, hlk, hK, hN⟩ := id C
  unfold ND_lay at hf
  refine lv_aload_n hx hb dX10_lay_0 rfl (lv_at hl 0 rfl) ?_
  refine lv_iload_n hx hb dX10_lay_1 rfl (lv_at hl 1 rfl) ?_
  refine lv_iload_n hx hb dX10_lay_2 rfl (lv_at hl 2 rfl) ?_
  refine lv_iload_n hx hb dX10_lay_3 rfl (lv_at hl 3 rfl) ?_
  obtain ⟨v4, f_finding_4, hc4, hf⟩ := cb2_some hf
  refine kcMV (q0 := 0) (ci := 10) (As := [.int x1, .int x2, .int x3]) (rest := []) (st1 := [.int v4]) (wf := (w_ND_lay ct a_this a_texts a_names a_pieces a_song a_fitting a_deal a_guesses a_wise a_spy a_sheets a_sheets0 a_sheets1 a_sheets2 a_sheets3 a_sheets0_items a_sheets1_items a_sheets2_items a_sheets3_items f_stale f_finding_4 f_sheets0_form f_sheets0_size f_sheets0_items f_sheets1_form f_sheets1_size f_sheets1_items f_sheets2_form f_sheets2_size f_sheets2_items f_sheets3_form f_sheets3_size f_sheets3_items)) C (c_ND_lookFor l D ct a_this a_texts a_names a_pieces a_song a_fitting a_deal a_guesses a_wise a_spy a_sheets a_sheets0 a_sheets1 a_sheets2 a_sheets3 a_sheets0_items a_sheets1_items a_sheets2_items a_sheets3_items f_stale f_sheets0_form f_sheets0_size f_sheets1_form f_sheets1_size f_sheets2_form f_sheets2_size f_sheets3_form f_sheets3_size f_finding x1 x2 x3 v4 f_finding_4 _ hc4) ⟨rfl, rfl⟩ yn_yX10_lookFor tw_850 tw_21 tw_848 ⟨Nat.le_of_ble_eq_true rfl, Nat.le_of_ble_eq_true rfl⟩ ⟨Nat.zero_le _, Nat.zero_le _⟩ hP hD hS hA [0, 1, 2, 4, 6, 8] [3, 5, 7, 9] [4, 5, 6, 0, 7, 1, 8, 2, 9, 3] rfl rfl rfl rfl rfl (by decide) rfl rfl rfl rfl rfl rfl hl.1 rfl rfl (Nat.le_of_ble_eq_true rfl) dX10_lay_4 rfl (fun H locs hP hD hS => ?_)
  refine lv_istore (lv' := [(5, .int v4), (0, .ref a_this), (1, .int x1), (2, .int x2), (3, .int x3), (4, .int x4)]) hx hb dX10_lay_7 hl (by decide) rfl (fun ls hl => ?_)
  refine lv_iload hx hb dX10_lay_9 (lv_at hl 0 rfl) ?_
  refine lv_iconst (v := 1) hx hb dX10_lay_11 (by decide) ?_
  refine lv_icmp_ne (tgt := 27) hx hb dX10_lay_12 (by decide) (fun hc => ?_) (fun hc => ?_)
  · have hf := kneg hc hf
    refine lv_iload hx hb dX10_lay_27 (lv_at hl 0 rfl) ?_
    obtain ⟨e1, e2, e3, e4, e5, e6⟩ := ti6 hf
    subst e1; subst e2; subst e3; subst e4; subst e5; subst e6
    exact kretM C hP hD hS dX10_lay_29
  · have hf := kpos hc hf
    refine lv_aload_n hx hb dX10_lay_15 rfl (lv_at hl 1 rfl) ?_
    refine va_get (ci := 10) (v := .ref a_sheets) (C := RX10) (T := TX10) (N := 12) hx hb hts inX10 hown hK hP 0 rfl rfl 9 (by decide) (hts _ tw_292) (fun _ h9 => h9) rfl dX10_lay_16 ?_
    refine lv_iload_n hx hb dX10_lay_19 rfl (lv_at hl 2 rfl) ?_
    by_cases hs_1 : x1 = 0
    · have hf := kpos hs_1 hf
      refine kaald hx hb hK hP 1 4 rfl rfl (k := 0) (by rw [hs_1]; rfl) rfl (by decide) dX10_lay_20 ?_
      refine lv_iload_n hx hb dX10_lay_21 rfl (lv_at hl 4 rfl) ?_
      refine lv_iload hx hb dX10_lay_22 (lv_at hl 5 rfl) ?_
      obtain ⟨f_sheets0_items_24, hc24, hf⟩ := cb1_some hf
      refine kcMV (q0 := 2) (ci := 5) (As := [.int x3, .int x4]) (rest := []) (st1 := []) (wf := (w_ND_lay ct a_this a_texts a_names a_pieces a_song a_fitting a_deal a_guesses a_wise a_spy a_sheets a_sheets0 a_sheets1 a_sheets2 a_sheets3 a_sheets0_items a_sheets1_items a_sheets2_items a_sheets3_items f_stale f_finding_4 f_sheets0_form f_sheets0_size f_sheets0_items_24 f_sheets1_form f_sheets1_size f_sheets1_items f_sheets2_form f_sheets2_size f_sheets2_items f_sheets3_form f_sheets3_size f_sheets3_items)) C (c_Sh_put l D ct a_sheets0 a_sheets0_items f_sheets0_form f_sheets0_size f_sheets0_items x3 x4 f_sheets0_items_24 _ hc24) ⟨rfl, rfl⟩ yn_yX5_put tw_861 tw_862 tw_860 ⟨Nat.le_of_ble_eq_true rfl, Nat.le_of_ble_eq_true rfl⟩ ⟨Nat.zero_le _, Nat.zero_le _⟩ hP hD hS hA [2, 3] [0, 1, 4, 5, 6, 7, 8, 9] [0, 1, 8, 9, 2, 3, 4, 5, 6, 7] rfl rfl rfl rfl rfl (by decide) rfl rfl rfl rfl rfl rfl hl.1 rfl rfl (Nat.le_of_ble_eq_true rfl) dX10_lay_24 rfl (fun H locs hP hD hS => ?_)
      refine lv_iload hx hb dX10_lay_27 (lv_at hl 0 rfl) ?_
      obtain ⟨e1, e2, e3, e4, e5, e6⟩ := ti6 hf
      subst e1; subst e2; subst e3; subst e4; subst e5; subst e6
      exact kretM C hP hD hS dX10_lay_29
    · have hf := kneg hs_1 hf
      by_cases hs_1 : x1 = 1
      · have hf := kpos hs_1 hf
        refine kaald hx hb hK hP 1 4 rfl rfl (k := 1) (by rw [hs_1]; rfl) rfl (by decide) dX10_lay_20 ?_
        refine lv_iload_n hx hb dX10_lay_21 rfl (lv_at hl 4 rfl) ?_
        refine lv_iload hx hb dX10_lay_22 (lv_at hl 5 rfl) ?_
        obtain ⟨f_sheets1_items_24, hc24, hf⟩ := cb1_some hf
        refine kcMV (q0 := 4) (ci := 5) (As := [.int x3, .int x4]) (rest := []) (st1 := []) (wf := (w_ND_lay ct a_this a_texts a_names a_pieces a_song a_fitting a_deal a_guesses a_wise a_spy a_sheets a_sheets0 a_sheets1 a_sheets2 a_sheets3 a_sheets0_items a_sheets1_items a_sheets2_items a_sheets3_items f_stale f_finding_4 f_sheets0_form f_sheets0_size f_sheets0_items f_sheets1_form f_sheets1_size f_sheets1_items_24 f_sheets2_form f_sheets2_size f_sheets2_items f_sheets3_form f_sheets3_size f_sheets3_items)) C (c_Sh_put l D ct a_sheets1 a_sheets1_items f_sheets1_form f_sheets1_size f_sheets1_items x3 x4 f_sheets1_items_24 _ hc24) ⟨rfl, rfl⟩ yn_yX5_put tw_861 tw_862 tw_860 ⟨Nat.le_of_ble_eq_true rfl, Nat.le_of_ble_eq_true rfl⟩ ⟨Nat.zero_le _, Nat.zero_le _⟩ hP hD hS hA [4, 5] [0, 1, 2, 3, 6, 7, 8, 9] [0, 1, 2, 3, 8, 9, 4, 5, 6, 7] rfl rfl rfl rfl rfl (by decide) rfl rfl rfl rfl rfl rfl hl.1 rfl rfl (Nat.le_of_ble_eq_true rfl) dX10_lay_24 rfl (fun H locs hP hD hS => ?_)
        refine lv_iload hx hb dX10_lay_27 (lv_at hl 0 rfl) ?_
        obtain ⟨e1, e2, e3, e4, e5, e6⟩ := ti6 hf
        subst e1; subst e2; subst e3; subst e4; subst e5; subst e6
        exact kretM C hP hD hS dX10_lay_29
      · have hf := kneg hs_1 hf
        by_cases hs_1 : x1 = 2
        · have hf := kpos hs_1 hf
          refine kaald hx hb hK hP 1 4 rfl rfl (k := 2) (by rw [hs_1]; rfl) rfl (by decide) dX10_lay_20 ?_
          refine lv_iload_n hx hb dX10_lay_21 rfl (lv_at hl 4 rfl) ?_
          refine lv_iload hx hb dX10_lay_22 (lv_at hl 5 rfl) ?_
          obtain ⟨f_sheets2_items_24, hc24, hf⟩ := cb1_some hf
          refine kcMV (q0 := 6) (ci := 5) (As := [.int x3, .int x4]) (rest := []) (st1 := []) (wf := (w_ND_lay ct a_this a_texts a_names a_pieces a_song a_fitting a_deal a_guesses a_wise a_spy a_sheets a_sheets0 a_sheets1 a_sheets2 a_sheets3 a_sheets0_items a_sheets1_items a_sheets2_items a_sheets3_items f_stale f_finding_4 f_sheets0_form f_sheets0_size f_sheets0_items f_sheets1_form f_sheets1_size f_sheets1_items f_sheets2_form f_sheets2_size f_sheets2_items_24 f_sheets3_form f_sheets3_size f_sheets3_items)) C (c_Sh_put l D ct a_sheets2 a_sheets2_items f_sheets2_form f_sheets2_size f_sheets2_items x3 x4 f_sheets2_items_24 _ hc24) ⟨rfl, rfl⟩ yn_yX5_put tw_861 tw_862 tw_860 ⟨Nat.le_of_ble_eq_true rfl, Nat.le_of_ble_eq_true rfl⟩ ⟨Nat.zero_le _, Nat.zero_le _⟩ hP hD hS hA [6, 7] [0, 1, 2, 3, 4, 5, 8, 9] [0, 1, 2, 3, 4, 5, 8, 9, 6, 7] rfl rfl rfl rfl rfl (by decide) rfl rfl rfl rfl rfl rfl hl.1 rfl rfl (Nat.le_of_ble_eq_true rfl) dX10_lay_24 rfl (fun H locs hP hD hS => ?_)
          refine lv_iload hx hb dX10_lay_27 (lv_at hl 0 rfl) ?_
          obtain ⟨e1, e2, e3, e4, e5, e6⟩ := ti6 hf
          subst e1; subst e2; subst e3; subst e4; subst e5; subst e6
          exact kretM C hP hD hS dX10_lay_29
        · have hf := kneg hs_1 hf
          by_cases hs_1 : x1 = 3
          · have hf := kpos hs_1 hf
            refine kaald hx hb hK hP 1 4 rfl rfl (k := 3) (by rw [hs_1]; rfl) rfl (by decide) dX10_lay_20 ?_
            refine lv_iload_n hx hb dX10_lay_21 rfl (lv_at hl 4 rfl) ?_
            refine lv_iload hx hb dX10_lay_22 (lv_at hl 5 rfl) ?_
            obtain ⟨f_sheets3_items_24, hc24, hf⟩ := cb1_some hf
            refine kcMV (q0 := 8) (ci := 5) (As := [.int x3, .int x4]) (rest := []) (st1 := []) (wf := (w_ND_lay ct a_this a_texts a_names a_pieces a_song a_fitting a_deal a_guesses a_wise a_spy a_sheets a_sheets0 a_sheets1 a_sheets2 a_sheets3 a_sheets0_items a_sheets1_items a_sheets2_items a_sheets3_items f_stale f_finding_4 f_sheets0_form f_sheets0_size f_sheets0_items f_sheets1_form f_sheets1_size f_sheets1_items f_sheets2_form f_sheets2_size f_sheets2_items f_sheets3_form f_sheets3_size f_sheets3_items_24)) C (c_Sh_put l D ct a_sheets3 a_sheets3_items f_sheets3_form f_sheets3_size f_sheets3_items x3 x4 f_sheets3_items_24 _ hc24) ⟨rfl, rfl⟩ yn_yX5_put tw_861 tw_862 tw_860 ⟨Nat.le_of_ble_eq_true rfl, Nat.le_of_ble_eq_true rfl⟩ ⟨Nat.zero_le _, Nat.zero_le _⟩ hP hD hS hA [8, 9] [0, 1, 2, 3, 4, 5, 6, 7] [0, 1, 2, 3, 4, 5, 6, 7, 8, 9] rfl rfl rfl rfl rfl (by decide) rfl rfl rfl rfl rfl rfl hl.1 rfl rfl (Nat.le_of_ble_eq_true rfl) dX10_lay_24 rfl (fun H locs hP hD hS => ?_)
            refine lv_iload hx hb dX10_lay_27 (lv_at hl 0 rfl) ?_
            obtain ⟨e1, e2, e3, e4, e5, e6⟩ := ti6 hf
            subst e1; subst e2; subst e3; subst e4; subst e5; subst e6
            exact kretM C hP hD hS dX10_lay_29
          · have hf := kneg hs_1 hf
            cases hf
def RM_ND_get : Room := { frames := 2, cells := 0, slots := 0, locals := 45 }
set_option maxHeartbeats 4000000 in
set_option maxRecDepth 100000 in
theorem c_ND_get (l : Launch) (D : va_G) (ct : Nat → ClassId) (a_this a_texts a_names a_pieces a_song a_fitting a_deal a_guesses a_wise a_spy a_sheets a_sheets0 a_sheets1 a_sheets2 a_sheets3 a_sheets0_items a_sheets1_items a_sheets2_items a_sheets3_items : Nat) (f_stale : Int32) (f_sheets0_form : Int32) (f_sheets0_size : Int32) (f_sheets0_items : Nat → Int32) (f_sheets1_form : Int32) (f_sheets1_size : Int32) (f_sheets1_items : Nat → Int32) (f_sheets2_form : Int32) (f_sheets2_size : Int32) (f_sheets2_items : Nat → Int32) (f_sheets3_form : Int32) (f_sheets3_size : Int32) (f_sheets3_items : Nat → Int32) (f_finding : Int32) (x1 : Int32) (x2 : Int32) (x3 : Int32) (r : Int32) (r_finding : Int32) (sz : Nat) (hf : ND_get f_sheets0_form f_sheets0_size f_sheets0_items f_sheets1_form f_sheets1_size f_sheets1_items f_sheets2_form f_sheets2_size f_sheets2_items f_sheets3_form f_sheets3_size f_sheets3_items f_finding x1 x2 x3 = some (r, r_finding)) : Met l yX10_get (WS yX10_get cX10_get 4 (some .int)) RM_ND_get (va_Pc [.ref a_this, .int x1, .int x2, .int x3] (PM D ct sz (w_ND_get ct a_this a_texts a_names a_pieces a_song a_fitting a_deal a_guesses a_wise a_spy a_sheets a_sheets0 a_sheets1 a_sheets2 a_sheets3 a_sheets0_items a_sheets1_items a_sheets2_items a_sheets3_items f_stale f_finding f_sheets0_form f_sheets0_size f_sheets0_items f_sheets1_form f_sheets1_size f_sheets1_items f_sheets2_form f_sheets2_size f_sheets2_items f_sheets3_form f_sheets3_size f_sheets3_items))) (QM D (some (.int r)) (w_ND_get ct a_this a_texts a_names a_pieces a_song a_fitting a_deal a_guesses a_wise a_spy a_sheets a_sheets0 a_sheets1 a_sheets2 a_sheets3 a_sheets0_items a_sheets1_items a_sheets2_items a_sheets3_items f_stale r_finding f_sheets0_form f_sheets0_size f_sheets0_items f_sheets1_form f_sheets1_size f_sheets1_items f_sheets2_form f_sheets2_size f_sheets2_items f_sheets3_form f_sheets3_size f_sheets3_items) (va_A (w_ND_get ct a_this a_texts a_names a_pieces a_song a_fitting a_deal a_guesses a_wise a_spy a_sheets a_sheets0 a_sheets1 a_sheets2 a_sheets3 a_sheets0_items a_sheets1_items a_sheets2_items a_sheets3_items f_stale f_finding f_sheets0_form f_sheets0_size f_sheets0_items f_sheets1_form f_sheets1_size f_sheets1_items f_sheets2_form f_sheets2_size f_sheets2_items f_sheets3_form f_sheets3_size f_sheets3_items) sz)) 0 0 (va_A (w_ND_get ct a_this a_texts a_names a_pieces a_song a_fitting a_deal a_guesses a_wise a_spy a_sheets a_sheets0 a_sheets1 a_sheets2 a_sheets3 a_sheets0_items a_sheets1_items a_sheets2_items a_sheets3_items f_stale f_finding f_sheets0_form f_sheets0_size f_sheets0_items f_sheets1_form f_sheets1_size f_sheets1_items f_sheets2_form f_sheets2_size f_sheets2_items f_sheets3_form f_sheets3_size f_sheets3_items) sz) := by
  refine kMetM yn_yX10_get rfl (Nat.le_of_ble_eq_true rfl) ?_
  intro p e s m args below meth c A C hA hP hD ls hl
  have hl : lv_has ls 4 [(0, .ref a_this), (1, .int x1), (2, .int x2), (3, .int x3)] := hl
  have hS : va_S A s.heap s.heap [] := va_S.rf
  obtain ⟨hx, hb, hr, hml, hown, hts, hlk, hK, hN⟩ := id C
  unfold ND_get at hf
  refine lv_aload_n hx hb dX10_get_0 rfl (lv_at hl 0 rfl) ?_
  refine lv_iload_n hx hb dX10_get_1 rfl (lv_at hl 1 rfl) ?_
  refine lv_iload_n hx hb dX10_get_2 rfl (lv_at hl 2 rfl) ?_
  refine lv_iload_n hx hb dX10_get_3 rfl (lv_at hl 3 rfl) ?_
  obtain ⟨v4, f_finding_4, hc4, hf⟩ := cb2_some hf
  refine kcMV (q0 := 0) (ci := 10) (As := [.int x1, .int x2, .int x3]) (rest := []) (st1 := [.int v4]) (wf := (w_ND_get ct a_this a_texts a_names a_pieces a_song a_fitting a_deal a_guesses a_wise a_spy a_sheets a_sheets0 a_sheets1 a_sheets2 a_sheets3 a_sheets0_items a_sheets1_items a_sheets2_items a_sheets3_items f_stale f_finding_4 f_sheets0_form f_sheets0_size f_sheets0_items f_sheets1_form f_sheets1_size f_sheets1_items f_sheets2_form f_sheets2_size f_sheets2_items f_sheets3_form f_sheets3_size f_sheets3_items)) C (c_ND_lookFor l D ct a_this a_texts a_names a_pieces a_song a_fitting a_deal a_guesses a_wise a_spy a_sheets a_sheets0 a_sheets1 a_sheets2 a_sheets3 a_sheets0_items a_sheets1_items a_sheets2_items a_sheets3_items f_stale f_sheets0_form f_sheets0_size f_sheets1_form f_sheets1_size f_sheets2_form f_sheets2_size f_sheets3_form f_sheets3_size f_finding x1 x2 x3 v4 f_finding_4 _ hc4) ⟨rfl, rfl⟩ yn_yX10_lookFor tw_850 tw_21 tw_848 ⟨Nat.le_of_ble_eq_true rfl, Nat.le_of_ble_eq_true rfl⟩ ⟨Nat.zero_le _, Nat.zero_le _⟩ hP hD hS hA [0, 1, 2, 4, 6, 8] [3, 5, 7, 9] [4, 5, 6, 0, 7, 1, 8, 2, 9, 3] rfl rfl rfl rfl rfl (by decide) rfl rfl rfl rfl rfl rfl hl.1 rfl rfl (Nat.le_of_ble_eq_true rfl) dX10_get_4 rfl (fun H locs hP hD hS => ?_)
  refine lv_iconst (v := 1) hx hb dX10_get_7 (by decide) ?_
  refine lv_icmp_ne (tgt := 24) hx hb dX10_get_8 (by decide) (fun hc => ?_) (fun hc => ?_)
  · have hf := kneg hc hf
    refine lv_ldcw (v := (-2147483648)) hx hb hown (hts _ tw_872) dX10_get_24 ?_
    obtain ⟨e1, e2⟩ := ti2 hf
    subst e1; subst e2
    exact kretM C hP hD hS dX10_get_27
  · have hf := kpos hc hf
    refine lv_aload_n hx hb dX10_get_11 rfl (lv_at hl 0 rfl) ?_
    refine va_get (ci := 10) (v := .ref a_sheets) (C := RX10) (T := TX10) (N := 12) hx hb hts inX10 hown hK hP 0 rfl rfl 9 (by decide) (hts _ tw_292) (fun _ h9 => h9) rfl dX10_get_12 ?_
    refine lv_iload_n hx hb dX10_get_15 rfl (lv_at hl 1 rfl) ?_
    by_cases hs_1 : x1 = 0
    · have hf := kpos hs_1 hf
      refine kaald hx hb hK hP 1 4 rfl rfl (k := 0) (by rw [hs_1]; rfl) rfl (by decide) dX10_get_16 ?_
      refine lv_iload_n hx hb dX10_get_17 rfl (lv_at hl 3 rfl) ?_
      obtain ⟨v18, hc18, hf⟩ := cb1_some hf
      refine kcRV (q0 := 2) (ci := 5) (As := [.int x3]) (rest := []) (st1 := [.int v18]) C (c_Sh_item l D ct a_sheets0 a_sheets0_items f_sheets0_form f_sheets0_size f_sheets0_items x3 v18 hc18) ⟨rfl, rfl⟩ yn_yX5_item tw_569 tw_570 tw_568 ⟨Nat.le_of_ble_eq_true rfl, Nat.le_of_ble_eq_true rfl⟩ ⟨Nat.zero_le _, Nat.zero_le _⟩ hP [2, 3] rfl rfl rfl rfl hl.1 rfl rfl (Nat.le_of_ble_eq_true rfl) dX10_get_18 rfl ?_
      refine lv_goto (tgt := 27) hx hb dX10_get_21 (by decide) ?_
      obtain ⟨e1, e2⟩ := ti2 hf
      subst e1; subst e2
      exact kretM C hP hD hS dX10_get_27
    · have hf := kneg hs_1 hf
      by_cases hs_1 : x1 = 1
      · have hf := kpos hs_1 hf
        refine kaald hx hb hK hP 1 4 rfl rfl (k := 1) (by rw [hs_1]; rfl) rfl (by decide) dX10_get_16 ?_
        refine lv_iload_n hx hb dX10_get_17 rfl (lv_at hl 3 rfl) ?_
        obtain ⟨v18, hc18, hf⟩ := cb1_some hf
        refine kcRV (q0 := 4) (ci := 5) (As := [.int x3]) (rest := []) (st1 := [.int v18]) C (c_Sh_item l D ct a_sheets1 a_sheets1_items f_sheets1_form f_sheets1_size f_sheets1_items x3 v18 hc18) ⟨rfl, rfl⟩ yn_yX5_item tw_569 tw_570 tw_568 ⟨Nat.le_of_ble_eq_true rfl, Nat.le_of_ble_eq_true rfl⟩ ⟨Nat.zero_le _, Nat.zero_le _⟩ hP [4, 5] rfl rfl rfl rfl hl.1 rfl rfl (Nat.le_of_ble_eq_true rfl) dX10_get_18 rfl ?_
        refine lv_goto (tgt := 27) hx hb dX10_get_21 (by decide) ?_
        obtain ⟨e1, e2⟩ := ti2 hf
        subst e1; subst e2
        exact kretM C hP hD hS dX10_get_27
      · have hf := kneg hs_1 hf
        by_cases hs_1 : x1 = 2
        · have hf := kpos hs_1 hf
          refine kaald hx hb hK hP 1 4 rfl rfl (k := 2) (by rw [hs_1]; rfl) rfl (by decide) dX10_get_16 ?_
          refine lv_iload_n hx hb dX10_get_17 rfl (lv_at hl 3 rfl) ?_
          obtain ⟨v18, hc18, hf⟩ := cb1_some hf
          refine kcRV (q0 := 6) (ci := 5) (As := [.int x3]) (rest := []) (st1 := [.int v18]) C (c_Sh_item l D ct a_sheets2 a_sheets2_items f_sheets2_form f_sheets2_size f_sheets2_items x3 v18 hc18) ⟨rfl, rfl⟩ yn_yX5_item tw_569 tw_570 tw_568 ⟨Nat.le_of_ble_eq_true rfl, Nat.le_of_ble_eq_true rfl⟩ ⟨Nat.zero_le _, Nat.zero_le _⟩ hP [6, 7] rfl rfl rfl rfl hl.1 rfl rfl (Nat.le_of_ble_eq_true rfl) dX10_get_18 rfl ?_
          refine lv_goto (tgt := 27) hx hb dX10_get_21 (by decide) ?_
          obtain ⟨e1, e2⟩ := ti2 hf
          subst e1; subst e2
          exact kretM C hP hD hS dX10_get_27
        · have hf := kneg hs_1 hf
          by_cases hs_1 : x1 = 3
          · have hf := kpos hs_1 hf
            refine kaald hx hb hK hP 1 4 rfl rfl (k := 3) (by rw [hs_1]; rfl) rfl (by decide) dX10_get_16 ?_
            refine lv_iload_n hx hb dX10_get_17 rfl (lv_at hl 3 rfl) ?_
            obtain ⟨v18, hc18, hf⟩ := cb1_some hf
            refine kcRV (q0 := 8) (ci := 5) (As := [.int x3]) (rest := []) (st1 := [.int v18]) C (c_Sh_item l D ct a_sheets3 a_sheets3_items f_sheets3_form f_sheets3_size f_sheets3_items x3 v18 hc18) ⟨rfl, rfl⟩ yn_yX5_item tw_569 tw_570 tw_568 ⟨Nat.le_of_ble_eq_true rfl, Nat.le_of_ble_eq_true rfl⟩ ⟨Nat.zero_le _, Nat.zero_le _⟩ hP [8, 9] rfl rfl rfl rfl hl.1 rfl rfl (Nat.le_of_ble_eq_true rfl) dX10_get_18 rfl ?_
            refine lv_goto (tgt := 27) hx hb dX10_get_21 (by decide) ?_
            obtain ⟨e1, e2⟩ := ti2 hf
            subst e1; subst e2
            exact kretM C hP hD hS dX10_get_27
          · have hf := kneg hs_1 hf
            cases hf
def RM_Sh_take_same : Room := { frames := 1, cells := 0, slots := 0, locals := 60 }
set_option maxHeartbeats 4000000 in
set_option maxRecDepth 100000 in
theorem c_Sh_take_same (l : Launch) (D : va_G) (ct : Nat → ClassId) (a_this a_items : Nat) (f_form : Int32) (f_size : Int32) (f_items : Nat → Int32) (x2 : Int32) (x3 : Int32) (x4 : Int32) (r_items : Nat → Int32) (sz : Nat) (hf : Sh_take_same f_size f_items x2 x3 x4 = some r_items) : Met l yX5_take (WS yX5_take cX5_take 5 none) RM_Sh_take_same (va_Pc [.ref a_this, .ref a_this, .int x2, .int x3, .int x4] (PM D ct sz (w_Sh_take_same ct a_this a_items f_form f_size f_items))) (QM D none (w_Sh_take_same ct a_this a_items f_form f_size r_items) (va_A (w_Sh_take_same ct a_this a_items f_form f_size f_items) sz)) 0 0 (va_A (w_Sh_take_same ct a_this a_items f_form f_size f_items) sz) := by
  refine kMetM yn_yX5_take rfl (Nat.le_of_ble_eq_true rfl) ?_
  intro p e s m args below meth c A C hA hP hD ls hl
  have hl : lv_has ls 5 [(0, .ref a_this), (1, .ref a_this), (2, .int x2), (3, .int x3), (4, .int x4)] := hl
  have hS : va_S A s.heap s.heap [] := va_S.rf
  obtain ⟨hx, hb, hr, hml, hown, hts, hlk, hK, hN⟩ := id C
  unfold Sh_take_same at hf
  refine lv_aload_n hx hb dX5_take_0 rfl (lv_at hl 1 rfl) ?_
  refine lv_iload_n hx hb dX5_take_1 rfl (lv_at hl 2 rfl) ?_
  refine lv_iload hx hb dX5_take_2 (lv_at hl 4 rfl) ?_
  obtain ⟨v4, hc4, hf⟩ := cb1_some hf
  refine kcRV (q0 := 0) (ci := 5) (As := [.int x2, .int x4]) (rest := []) (st1 := [.int v4]) C (c_Sh_holds l D ct a_this a_items f_form f_size x2 x4 v4 hc4) ⟨rfl, rfl⟩ yn_yX5_holds tw_857 tw_858 tw_881 ⟨Nat.le_of_ble_eq_true rfl, Nat.le_of_ble_eq_true rfl⟩ ⟨Nat.zero_le _, Nat.zero_le _⟩ hP [0] rfl rfl rfl rfl hl.1 rfl rfl (Nat.le_of_ble_eq_true rfl) dX5_take_4 rfl ?_
  refine lv_if_eq (tgt := 35) hx hb dX5_take_7 (by decide) (fun hc => ?_) (fun hc => ?_)
  · have hf := kpos hc hf
    have e1 := Option.some.inj hf
    subst e1
    exact kretMv C hP hD hS dX5_take_35
  · have hf := kneg hc hf
    refine lv_aload_n hx hb dX5_take_10 rfl (lv_at hl 0 rfl) ?_
    refine lv_iload_n hx hb dX5_take_11 rfl (lv_at hl 3 rfl) ?_
    refine lv_iload hx hb dX5_take_12 (lv_at hl 4 rfl) ?_
    obtain ⟨v14, hc14, hf⟩ := cb1_some hf
    refine kcRV (q0 := 0) (ci := 5) (As := [.int x3, .int x4]) (rest := []) (st1 := [.int v14]) C (c_Sh_holds l D ct a_this a_items f_form f_size x3 x4 v14 hc14) ⟨rfl, rfl⟩ yn_yX5_holds tw_857 tw_858 tw_881 ⟨Nat.le_of_ble_eq_true rfl, Nat.le_of_ble_eq_true rfl⟩ ⟨Nat.zero_le _, Nat.zero_le _⟩ hP [0] rfl rfl rfl rfl hl.1 rfl rfl (Nat.le_of_ble_eq_true rfl) dX5_take_14 rfl ?_
    refine lv_if_eq (tgt := 35) hx hb dX5_take_17 (by decide) (fun hc => ?_) (fun hc => ?_)
    · have hf := kpos hc hf
      have e1 := Option.some.inj hf
      subst e1
      exact kretMv C hP hD hS dX5_take_35
    · have hf := kneg hc hf
      refine lv_aload_n hx hb dX5_take_20 rfl (lv_at hl 1 rfl) ?_
      refine va_get (ci := 5) (v := .ref a_items) (C := RX5) (T := TX5) (N := 3) hx hb hts inX5 hown hK hP 0 rfl rfl 0 (by decide) (hts _ tw_273) (fun _ h9 => h9) rfl dX5_take_21 ?_
      refine lv_iload_n hx hb dX5_take_24 rfl (lv_at hl 2 rfl) ?_
      refine lv_aload_n hx hb dX5_take_25 rfl (lv_at hl 0 rfl) ?_
      refine va_get (ci := 5) (v := .ref a_items) (C := RX5) (T := TX5) (N := 3) hx hb hts inX5 hown hK hP 0 rfl rfl 0 (by decide) (hts _ tw_273) (fun _ h9 => h9) rfl dX5_take_26 ?_
      refine lv_iload_n hx hb dX5_take_29 rfl (lv_at hl 3 rfl) ?_
      refine lv_iload hx hb dX5_take_30 (lv_at hl 4 rfl) ?_
      obtain ⟨⟨h1, h2, h3, h4, h5⟩, f_items_32, ev32, hf⟩ := acp_ex hf
      refine kacp hx hb (hml.trans hl.1.symm) hown (hts _ tw_882) (hts _ tw_884) (hts _ tw_883) (hts _ tw_86) hK hP hD hS 1 1 0 0 rfl rfl rfl rfl h1 h2 h3 h4 h5 ev32 (Nat.le_of_ble_eq_true rfl) (by decide) dX5_take_32 (fun H locs hP hD hS => ?_)
      have hP : va_P D vwCl (w_Sh_take_same ct a_this a_items f_form f_size f_items_32) H := hP
      have hD : va_D A (w_Sh_take_same ct a_this a_items f_form f_size f_items_32) := hD
      have e1 := Option.some.inj hf
      subst e1
      exact kretMv C hP hD hS dX5_take_35
def RM_Sh_take : Room := { frames := 1, cells := 0, slots := 0, locals := 60 }
set_option maxHeartbeats 4000000 in
set_option maxRecDepth 100000 in
theorem c_Sh_take (l : Launch) (D : va_G) (ct : Nat → ClassId) (a_this a_items a_p1 a_p1_items : Nat) (f_form : Int32) (f_p1_form : Int32) (f_size : Int32) (f_p1_size : Int32) (f_p1_items : Nat → Int32) (f_items : Nat → Int32) (x2 : Int32) (x3 : Int32) (x4 : Int32) (r_items : Nat → Int32) (sz : Nat) (hf : Sh_take f_size f_p1_size f_p1_items f_items x2 x3 x4 = some r_items) : Met l yX5_take (WS yX5_take cX5_take 5 none) RM_Sh_take (va_Pc [.ref a_this, .ref a_p1, .int x2, .int x3, .int x4] (PM D ct sz (w_Sh_take ct a_this a_items a_p1 a_p1_items f_form f_size f_items f_p1_form f_p1_size f_p1_items))) (QM D none (w_Sh_take ct a_this a_items a_p1 a_p1_items f_form f_size r_items f_p1_form f_p1_size f_p1_items) (va_A (w_Sh_take ct a_this a_items a_p1 a_p1_items f_form f_size f_items f_p1_form f_p1_size f_p1_items) sz)) 0 0 (va_A (w_Sh_take ct a_this a_items a_p1 a_p1_items f_form f_size f_items f_p1_form f_p1_size f_p1_items) sz) := by
  refine kMetM yn_yX5_take rfl (Nat.le_of_ble_eq_true rfl) ?_
  intro p e s m args below meth c A C hA hP hD ls hl
  have hl : lv_has ls 5 [(0, .ref a_this), (1, .ref a_p1), (2, .int x2), (3, .int x3), (4, .int x4)] := hl
  have hS : va_S A s.heap s.heap [] := va_S.rf
  obtain ⟨hx, hb, hr, hml, hown, hts, hlk, hK, hN⟩ := id C
  unfold Sh_take at hf
  refine lv_aload_n hx hb dX5_take_0 rfl (lv_at hl 1 rfl) ?_
  refine lv_iload_n hx hb dX5_take_1 rfl (lv_at hl 2 rfl) ?_
  refine lv_iload hx hb dX5_take_2 (lv_at hl 4 rfl) ?_
  obtain ⟨v4, hc4, hf⟩ := cb1_some hf
  refine kcRV (q0 := 2) (ci := 5) (As := [.int x2, .int x4]) (rest := []) (st1 := [.int v4]) C (c_Sh_holds l D ct a_p1 a_p1_items f_p1_form f_p1_size x2 x4 v4 hc4) ⟨rfl, rfl⟩ yn_yX5_holds tw_857 tw_858 tw_881 ⟨Nat.le_of_ble_eq_true rfl, Nat.le_of_ble_eq_true rfl⟩ ⟨Nat.zero_le _, Nat.zero_le _⟩ hP [2] rfl rfl rfl rfl hl.1 rfl rfl (Nat.le_of_ble_eq_true rfl) dX5_take_4 rfl ?_
  refine lv_if_eq (tgt := 35) hx hb dX5_take_7 (by decide) (fun hc => ?_) (fun hc => ?_)
  · have hf := kpos hc hf
    have e1 := Option.some.inj hf
    subst e1
    exact kretMv C hP hD hS dX5_take_35
  · have hf := kneg hc hf
    refine lv_aload_n hx hb dX5_take_10 rfl (lv_at hl 0 rfl) ?_
    refine lv_iload_n hx hb dX5_take_11 rfl (lv_at hl 3 rfl) ?_
    refine lv_iload hx hb dX5_take_12 (lv_at hl 4 rfl) ?_
    obtain ⟨v14, hc14, hf⟩ := cb1_some hf
    refine kcRV (q0 := 0) (ci := 5) (As := [.int x3, .int x4]) (rest := []) (st1 := [.int v14]) C (c_Sh_holds l D ct a_this a_items f_form f_size x3 x4 v14 hc14) ⟨rfl, rfl⟩ yn_yX5_holds tw_857 tw_858 tw_881 ⟨Nat.le_of_ble_eq_true rfl, Nat.le_of_ble_eq_true rfl⟩ ⟨Nat.zero_le _, Nat.zero_le _⟩ hP [0] rfl rfl rfl rfl hl.1 rfl rfl (Nat.le_of_ble_eq_true rfl) dX5_take_14 rfl ?_
    refine lv_if_eq (tgt := 35) hx hb dX5_take_17 (by decide) (fun hc => ?_) (fun hc => ?_)
    · have hf := kpos hc hf
      have e1 := Option.some.inj hf
      subst e1
      exact kretMv C hP hD hS dX5_take_35
    · have hf := kneg hc hf
      refine lv_aload_n hx hb dX5_take_20 rfl (lv_at hl 1 rfl) ?_
      refine va_get (ci := 5) (v := .ref a_p1_items) (C := RX5) (T := TX5) (N := 3) hx hb hts inX5 hown hK hP 2 rfl rfl 0 (by decide) (hts _ tw_273) (fun _ h9 => h9) rfl dX5_take_21 ?_
      refine lv_iload_n hx hb dX5_take_24 rfl (lv_at hl 2 rfl) ?_
      refine lv_aload_n hx hb dX5_take_25 rfl (lv_at hl 0 rfl) ?_
      refine va_get (ci := 5) (v := .ref a_items) (C := RX5) (T := TX5) (N := 3) hx hb hts inX5 hown hK hP 0 rfl rfl 0 (by decide) (hts _ tw_273) (fun _ h9 => h9) rfl dX5_take_26 ?_
      refine lv_iload_n hx hb dX5_take_29 rfl (lv_at hl 3 rfl) ?_
      refine lv_iload hx hb dX5_take_30 (lv_at hl 4 rfl) ?_
      obtain ⟨⟨h1, h2, h3, h4, h5⟩, f_items_32, ev32, hf⟩ := acp_ex hf
      refine kacp hx hb (hml.trans hl.1.symm) hown (hts _ tw_882) (hts _ tw_884) (hts _ tw_883) (hts _ tw_86) hK hP hD hS 3 1 0 0 rfl rfl rfl rfl h1 h2 h3 h4 h5 ev32 (Nat.le_of_ble_eq_true rfl) (by decide) dX5_take_32 (fun H locs hP hD hS => ?_)
      have hP : va_P D vwCl (w_Sh_take ct a_this a_items a_p1 a_p1_items f_form f_size f_items_32 f_p1_form f_p1_size f_p1_items) H := hP
      have hD : va_D A (w_Sh_take ct a_this a_items a_p1 a_p1_items f_form f_size f_items_32 f_p1_form f_p1_size f_p1_items) := hD
      have e1 := Option.some.inj hf
      subst e1
      exact kretMv C hP hD hS dX5_take_35
def RM_ND_copy : Room := { frames := 2, cells := 0, slots := 0, locals := 84 }
set_option maxHeartbeats 4000000 in
set_option maxRecDepth 100000 in
theorem t_ND_copy_b97v0 {p : Program} {l : Launch} {e : Env} {s : State} {m : MethodId} {args : Array Value} {below : List Frame} {meth : Method} {c : Code} {D : va_G} {ct : Nat → ClassId} (C : CX p s m args meth c RX10 cX10_copy 8 (some .int) D ct) {A : Nat → Prop} (hA : ∀ q : Nat, s.heap.size ≤ q → A q) (a_this a_texts a_names a_pieces a_song a_fitting a_deal a_guesses a_wise a_spy a_sheets a_sheets0 a_sheets1 a_sheets2 a_sheets3 a_sheets0_items a_sheets1_items a_sheets2_items a_sheets3_items : Nat) (f_stale : Int32) (f_sheets0_form : Int32) (f_sheets0_size : Int32) (f_sheets1_form : Int32) (f_sheets1_size : Int32) (f_sheets2_form : Int32) (f_sheets2_size : Int32) (f_sheets3_form : Int32) (f_sheets3_size : Int32) (x1 : Int32) (x2 : Int32) (x3 : Int32) (x4 : Int32) (x5 : Int32) (r : Int32) (r_finding : Int32) (r_sheets0_items : Nat → Int32) (r_sheets1_items : Nat → Int32) (r_sheets2_items : Nat → Int32) (r_sheets3_items : Nat → Int32) (hs_1 : x1 = 3) (hs_3 : x3 = 3) : ∀ (f_finding : Int32) (f_sheets0_items : Nat → Int32) (f_sheets1_items : Nat → Int32) (f_sheets2_items : Nat → Int32) (f_sheets3_items : Nat → Int32), ND_copy_b97v0 f_sheets0_form f_sheets0_size f_sheets1_form f_sheets1_size f_sheets2_form f_sheets2_size f_sheets3_form f_sheets3_size x1 x2 x3 x4 x5 f_finding f_sheets0_items f_sheets1_items f_sheets2_items f_sheets3_items = some (r, r_finding, r_sheets0_items, r_sheets1_items, r_sheets2_items, r_sheets3_items) → ∀ (H : Heap) (locs : List Loc), va_P D vwCl (w_ND_copy ct a_this a_texts a_names a_pieces a_song a_fitting a_deal a_guesses a_wise a_spy a_sheets a_sheets0 a_sheets1 a_sheets2 a_sheets3 a_sheets0_items a_sheets1_items a_sheets2_items a_sheets3_items f_stale f_finding f_sheets0_form f_sheets0_size f_sheets0_items f_sheets1_form f_sheets1_size f_sheets1_items f_sheets2_form f_sheets2_size f_sheets2_items f_sheets3_form f_sheets3_size f_sheets3_items) H → va_D A (w_ND_copy ct a_this a_texts a_names a_pieces a_song a_fitting a_deal a_guesses a_wise a_spy a_sheets a_sheets0 a_sheets1 a_sheets2 a_sheets3 a_sheets0_items a_sheets1_items a_sheets2_items a_sheets3_items f_stale f_finding f_sheets0_form f_sheets0_size f_sheets0_items f_sheets1_form f_sheets1_size f_sheets1_items f_sheets2_form f_sheets2_size f_sheets2_items f_sheets3_form f_sheets3_size f_sheets3_items) → va_S A s.heap H locs → ∀ ls : Array Slot, lv_has ls 8 [(0, .ref a_this)] → W p l e RM_ND_copy s m args below meth c H locs 0 0 (MQ below (QM D (some (.int r)) (w_ND_copy ct a_this a_texts a_names a_pieces a_song a_fitting a_deal a_guesses a_wise a_spy a_sheets a_sheets0 a_sheets1 a_sheets2 a_sheets3 a_sheets0_items a_sheets1_items a_sheets2_items a_sheets3_items f_stale r_finding f_sheets0_form f_sheets0_size r_sheets0_items f_sheets1_form f_sheets1_size r_sheets1_items f_sheets2_form f_sheets2_size r_sheets2_items f_sheets3_form f_sheets3_size r_sheets3_items) A) args s 0 0 A) (F0 m 97 ls []) := by
  obtain ⟨hx, hb, hr, hml, hown, hts, hlk, hK, hN⟩ := id C
  intro f_finding f_sheets0_items f_sheets1_items f_sheets2_items f_sheets3_items hf H locs hP hD hS ls hl
  unfold ND_copy_b97v0 at hf
  refine lv_aload_n hx hb dX10_copy_97 rfl (lv_at hl 0 rfl) ?_
  refine lv_iconst (v := 2) hx hb dX10_copy_98 (by decide) ?_
  obtain ⟨v99, f_finding_99, hc99, hf⟩ := cb2_some hf
  refine kcMV (q0 := 0) (ci := 10) (As := [.int 2]) (rest := []) (st1 := [.int v99]) (wf := (w_ND_copy ct a_this a_texts a_names a_pieces a_song a_fitting a_deal a_guesses a_wise a_spy a_sheets a_sheets0 a_sheets1 a_sheets2 a_sheets3 a_sheets0_items a_sheets1_items a_sheets2_items a_sheets3_items f_stale f_finding_99 f_sheets0_form f_sheets0_size f_sheets0_items f_sheets1_form f_sheets1_size f_sheets1_items f_sheets2_form f_sheets2_size f_sheets2_items f_sheets3_form f_sheets3_size f_sheets3_items)) C (c_ND_found l D ct a_this a_texts a_names a_pieces a_song a_fitting a_deal a_guesses a_wise a_spy a_sheets f_stale f_finding 2 v99 f_finding_99 _ hc99) ⟨rfl, rfl⟩ yn_yX10_found tw_558 tw_10 tw_556 ⟨Nat.le_of_ble_eq_true rfl, Nat.le_of_ble_eq_true rfl⟩ ⟨Nat.zero_le _, Nat.zero_le _⟩ hP hD hS hA [0] [1, 2, 3, 4, 5, 6, 7, 8, 9] [9, 0, 1, 2, 3, 4, 5, 6, 7, 8] rfl rfl rfl rfl rfl (by decide) rfl rfl rfl rfl rfl rfl hl.1 rfl rfl (Nat.le_of_ble_eq_true rfl) dX10_copy_99 rfl (fun H locs hP hD hS => ?_)
  obtain ⟨e1, e2, e3, e4, e5, e6⟩ := ti6 hf
  subst e1; subst e2; subst e3; subst e4; subst e5; subst e6
  exact kretM C hP hD hS dX10_copy_102
set_option maxHeartbeats 4000000 in
set_option maxRecDepth 100000 in
theorem t_ND_copy_b97v1 {p : Program} {l : Launch} {e : Env} {s : State} {m : MethodId} {args : Array Value} {below : List Frame} {meth : Method} {c : Code} {D : va_G} {ct : Nat → ClassId} (C : CX p s m args meth c RX10 cX10_copy 8 (some .int) D ct) {A : Nat → Prop} (hA : ∀ q : Nat, s.heap.size ≤ q → A q) (a_this a_texts a_names a_pieces a_song a_fitting a_deal a_guesses a_wise a_spy a_sheets a_sheets0 a_sheets1 a_sheets2 a_sheets3 a_sheets0_items a_sheets1_items a_sheets2_items a_sheets3_items : Nat) (f_stale : Int32) (f_sheets0_form : Int32) (f_sheets0_size : Int32) (f_sheets1_form : Int32) (f_sheets1_size : Int32) (f_sheets2_form : Int32) (f_sheets2_size : Int32) (f_sheets3_form : Int32) (f_sheets3_size : Int32) (x1 : Int32) (x2 : Int32) (x3 : Int32) (x4 : Int32) (x5 : Int32) (r : Int32) (r_finding : Int32) (r_sheets0_items : Nat → Int32) (r_sheets1_items : Nat → Int32) (r_sheets2_items : Nat → Int32) (r_sheets3_items : Nat → Int32) (hs_1 : x1 = 3) (hs_3 : x3 = 2) : ∀ (f_finding : Int32) (f_sheets0_items : Nat → Int32) (f_sheets1_items : Nat → Int32) (f_sheets2_items : Nat → Int32) (f_sheets3_items : Nat → Int32), ND_copy_b97v1 f_sheets0_form f_sheets0_size f_sheets1_form f_sheets1_size f_sheets2_form f_sheets2_size f_sheets3_form f_sheets3_size x1 x2 x3 x4 x5 f_finding f_sheets0_items f_sheets1_items f_sheets2_items f_sheets3_items = some (r, r_finding, r_sheets0_items, r_sheets1_items, r_sheets2_items, r_sheets3_items) → ∀ (H : Heap) (locs : List Loc), va_P D vwCl (w_ND_copy ct a_this a_texts a_names a_pieces a_song a_fitting a_deal a_guesses a_wise a_spy a_sheets a_sheets0 a_sheets1 a_sheets2 a_sheets3 a_sheets0_items a_sheets1_items a_sheets2_items a_sheets3_items f_stale f_finding f_sheets0_form f_sheets0_size f_sheets0_items f_sheets1_form f_sheets1_size f_sheets1_items f_sheets2_form f_sheets2_size f_sheets2_items f_sheets3_form f_sheets3_size f_sheets3_items) H → va_D A (w_ND_copy ct a_this a_texts a_names a_pieces a_song a_fitting a_deal a_guesses a_wise a_spy a_sheets a_sheets0 a_sheets1 a_sheets2 a_sheets3 a_sheets0_items a_sheets1_items a_sheets2_items a_sheets3_items f_stale f_finding f_sheets0_form f_sheets0_size f_sheets0_items f_sheets1_form f_sheets1_size f_sheets1_items f_sheets2_form f_sheets2_size f_sheets2_items f_sheets3_form f_sheets3_size f_sheets3_items) → va_S A s.heap H locs → ∀ ls : Array Slot, lv_has ls 8 [(0, .ref a_this)] → W p l e RM_ND_copy s m args below meth c H locs 0 0 (MQ below (QM D (some (.int r)) (w_ND_copy ct a_this a_texts a_names a_pieces a_song a_fitting a_deal a_guesses a_wise a_spy a_sheets a_sheets0 a_sheets1 a_sheets2 a_sheets3 a_sheets0_items a_sheets1_items a_sheets2_items a_sheets3_items f_stale r_finding f_sheets0_form f_sheets0_size r_sheets0_items f_sheets1_form f_sheets1_size r_sheets1_items f_sheets2_form f_sheets2_size r_sheets2_items f_sheets3_form f_sheets3_size r_sheets3_items) A) args s 0 0 A) (F0 m 97 ls []) := by
  obtain ⟨hx, hb, hr, hml, hown, hts, hlk, hK, hN⟩ := id C
  intro f_finding f_sheets0_items f_sheets1_items f_sheets2_items f_sheets3_items hf H locs hP hD hS ls hl
  unfold ND_copy_b97v1 at hf
  refine lv_aload_n hx hb dX10_copy_97 rfl (lv_at hl 0 rfl) ?_
  refine lv_iconst (v := 2) hx hb dX10_copy_98 (by decide) ?_
  obtain ⟨v99, f_finding_99, hc99, hf⟩ := cb2_some hf
  refine kcMV (q0 := 0) (ci := 10) (As := [.int 2]) (rest := []) (st1 := [.int v99]) (wf := (w_ND_copy ct a_this a_texts a_names a_pieces a_song a_fitting a_deal a_guesses a_wise a_spy a_sheets a_sheets0 a_sheets1 a_sheets2 a_sheets3 a_sheets0_items a_sheets1_items a_sheets2_items a_sheets3_items f_stale f_finding_99 f_sheets0_form f_sheets0_size f_sheets0_items f_sheets1_form f_sheets1_size f_sheets1_items f_sheets2_form f_sheets2_size f_sheets2_items f_sheets3_form f_sheets3_size f_sheets3_items)) C (c_ND_found l D ct a_this a_texts a_names a_pieces a_song a_fitting a_deal a_guesses a_wise a_spy a_sheets f_stale f_finding 2 v99 f_finding_99 _ hc99) ⟨rfl, rfl⟩ yn_yX10_found tw_558 tw_10 tw_556 ⟨Nat.le_of_ble_eq_true rfl, Nat.le_of_ble_eq_true rfl⟩ ⟨Nat.zero_le _, Nat.zero_le _⟩ hP hD hS hA [0] [1, 2, 3, 4, 5, 6, 7, 8, 9] [9, 0, 1, 2, 3, 4, 5, 6, 7, 8] rfl rfl rfl rfl rfl (by decide) rfl rfl rfl rfl rfl rfl hl.1 rfl rfl (Nat.le_of_ble_eq_true rfl) dX10_copy_99 rfl (fun H locs hP hD hS => ?_)
  obtain ⟨e1, e2, e3, e4, e5, e6⟩ := ti6 hf
  subst e1; subst e2; subst e3; subst e4; subst e5; subst e6
  exact kretM C hP hD hS dX10_copy_102
set_option maxHeartbeats 4000000 in
set_option maxRecDepth 100000 in
theorem t_ND_copy_b97v2 {p : Program} {l : Launch} {e : Env} {s : State} {m : MethodId} {args : Array Value} {below : List Frame} {meth : Method} {c : Code} {D : va_G} {ct : Nat → ClassId} (C : CX p s m args meth c RX10 cX10_copy 8 (some .int) D ct) {A : Nat → Prop} (hA : ∀ q : Nat, s.heap.size ≤ q → A q) (a_this a_texts a_names a_pieces a_song a_fitting a_deal a_guesses a_wise a_spy a_sheets a_sheets0 a_sheets1 a_sheets2 a_sheets3 a_sheets0_items a_sheets1_items a_sheets2_items a_sheets3_items : Nat) (f_stale : Int32) (f_sheets0_form : Int32) (f_sheets0_size : Int32) (f_sheets1_form : Int32) (f_sheets1_size : Int32) (f_sheets2_form : Int32) (f_sheets2_size : Int32) (f_sheets3_form : Int32) (f_sheets3_size : Int32) (x1 : Int32) (x2 : Int32) (x3 : Int32) (x4 : Int32) (x5 : Int32) (r : Int32) (r_finding : Int32) (r_sheets0_items : Nat → Int32) (r_sheets1_items : Nat → Int32) (r_sheets2_items : Nat → Int32) (r_sheets3_items : Nat → Int32) (hs_1 : x1 = 3) (hs_3 : x3 = 1) : ∀ (f_finding : Int32) (f_sheets0_items : Nat → Int32) (f_sheets1_items : Nat → Int32) (f_sheets2_items : Nat → Int32) (f_sheets3_items : Nat → Int32), ND_copy_b97v2 f_sheets0_form f_sheets0_size f_sheets1_form f_sheets1_size f_sheets2_form f_sheets2_size f_sheets3_form f_sheets3_size x1 x2 x3 x4 x5 f_finding f_sheets0_items f_sheets1_items f_sheets2_items f_sheets3_items = some (r, r_finding, r_sheets0_items, r_sheets1_items, r_sheets2_items, r_sheets3_items) → ∀ (H : Heap) (locs : List Loc), va_P D vwCl (w_ND_copy ct a_this a_texts a_names a_pieces a_song a_fitting a_deal a_guesses a_wise a_spy a_sheets a_sheets0 a_sheets1 a_sheets2 a_sheets3 a_sheets0_items a_sheets1_items a_sheets2_items a_sheets3_items f_stale f_finding f_sheets0_form f_sheets0_size f_sheets0_items f_sheets1_form f_sheets1_size f_sheets1_items f_sheets2_form f_sheets2_size f_sheets2_items f_sheets3_form f_sheets3_size f_sheets3_items) H → va_D A (w_ND_copy ct a_this a_texts a_names a_pieces a_song a_fitting a_deal a_guesses a_wise a_spy a_sheets a_sheets0 a_sheets1 a_sheets2 a_sheets3 a_sheets0_items a_sheets1_items a_sheets2_items a_sheets3_items f_stale f_finding f_sheets0_form f_sheets0_size f_sheets0_items f_sheets1_form f_sheets1_size f_sheets1_items f_sheets2_form f_sheets2_size f_sheets2_items f_sheets3_form f_sheets3_size f_sheets3_items) → va_S A s.heap H locs → ∀ ls : Array Slot, lv_has ls 8 [(0, .ref a_this)] → W p l e RM_ND_copy s m args below meth c H locs 0 0 (MQ below (QM D (some (.int r)) (w_ND_copy ct a_this a_texts a_names a_pieces a_song a_fitting a_deal a_guesses a_wise a_spy a_sheets a_sheets0 a_sheets1 a_sheets2 a_sheets3 a_sheets0_items a_sheets1_items a_sheets2_items a_sheets3_items f_stale r_finding f_sheets0_form f_sheets0_size r_sheets0_items f_sheets1_form f_sheets1_size r_sheets1_items f_sheets2_form f_sheets2_size r_sheets2_items f_sheets3_form f_sheets3_size r_sheets3_items) A) args s 0 0 A) (F0 m 97 ls []) := by
  obtain ⟨hx, hb, hr, hml, hown, hts, hlk, hK, hN⟩ := id C
  intro f_finding f_sheets0_items f_sheets1_items f_sheets2_items f_sheets3_items hf H locs hP hD hS ls hl
  unfold ND_copy_b97v2 at hf
  refine lv_aload_n hx hb dX10_copy_97 rfl (lv_at hl 0 rfl) ?_
  refine lv_iconst (v := 2) hx hb dX10_copy_98 (by decide) ?_
  obtain ⟨v99, f_finding_99, hc99, hf⟩ := cb2_some hf
  refine kcMV (q0 := 0) (ci := 10) (As := [.int 2]) (rest := []) (st1 := [.int v99]) (wf := (w_ND_copy ct a_this a_texts a_names a_pieces a_song a_fitting a_deal a_guesses a_wise a_spy a_sheets a_sheets0 a_sheets1 a_sheets2 a_sheets3 a_sheets0_items a_sheets1_items a_sheets2_items a_sheets3_items f_stale f_finding_99 f_sheets0_form f_sheets0_size f_sheets0_items f_sheets1_form f_sheets1_size f_sheets1_items f_sheets2_form f_sheets2_size f_sheets2_items f_sheets3_form f_sheets3_size f_sheets3_items)) C (c_ND_found l D ct a_this a_texts a_names a_pieces a_song a_fitting a_deal a_guesses a_wise a_spy a_sheets f_stale f_finding 2 v99 f_finding_99 _ hc99) ⟨rfl, rfl⟩ yn_yX10_found tw_558 tw_10 tw_556 ⟨Nat.le_of_ble_eq_true rfl, Nat.le_of_ble_eq_true rfl⟩ ⟨Nat.zero_le _, Nat.zero_le _⟩ hP hD hS hA [0] [1, 2, 3, 4, 5, 6, 7, 8, 9] [9, 0, 1, 2, 3, 4, 5, 6, 7, 8] rfl rfl rfl rfl rfl (by decide) rfl rfl rfl rfl rfl rfl hl.1 rfl rfl (Nat.le_of_ble_eq_true rfl) dX10_copy_99 rfl (fun H locs hP hD hS => ?_)
  obtain ⟨e1, e2, e3, e4, e5, e6⟩ := ti6 hf
  subst e1; subst e2; subst e3; subst e4; subst e5; subst e6
  exact kretM C hP hD hS dX10_copy_102
set_option maxHeartbeats 4000000 in
set_option maxRecDepth 100000 in
theorem t_ND_copy_b97v3 {p : Program} {l : Launch} {e : Env} {s : State} {m : MethodId} {args : Array Value} {below : List Frame} {meth : Method} {c : Code} {D : va_G} {ct : Nat → ClassId} (C : CX p s m args meth c RX10 cX10_copy 8 (some .int) D ct) {A : Nat → Prop} (hA : ∀ q : Nat, s.heap.size ≤ q → A q) (a_this a_texts a_names a_pieces a_song a_fitting a_deal a_guesses a_wise a_spy a_sheets a_sheets0 a_sheets1 a_sheets2 a_sheets3 a_sheets0_items a_sheets1_items a_sheets2_items a_sheets3_items : Nat) (f_stale : Int32) (f_sheets0_form : Int32) (f_sheets0_size : Int32) (f_sheets1_form : Int32) (f_sheets1_size : Int32) (f_sheets2_form : Int32) (f_sheets2_size : Int32) (f_sheets3_form : Int32) (f_sheets3_size : Int32) (x1 : Int32) (x2 : Int32) (x3 : Int32) (x4 : Int32) (x5 : Int32) (r : Int32) (r_finding : Int32) (r_sheets0_items : Nat → Int32) (r_sheets1_items : Nat → Int32) (r_sheets2_items : Nat → Int32) (r_sheets3_items : Nat → Int32) (hs_1 : x1 = 3) (hs_3 : x3 = 0) : ∀ (f_finding : Int32) (f_sheets0_items : Nat → Int32) (f_sheets1_items : Nat → Int32) (f_sheets2_items : Nat → Int32) (f_sheets3_items : Nat → Int32), ND_copy_b97v3 f_sheets0_form f_sheets0_size f_sheets1_form f_sheets1_size f_sheets2_form f_sheets2_size f_sheets3_form f_sheets3_size x1 x2 x3 x4 x5 f_finding f_sheets0_items f_sheets1_items f_sheets2_items f_sheets3_items = some (r, r_finding, r_sheets0_items, r_sheets1_items, r_sheets2_items, r_sheets3_items) → ∀ (H : Heap) (locs : List Loc), va_P D vwCl (w_ND_copy ct a_this a_texts a_names a_pieces a_song a_fitting a_deal a_guesses a_wise a_spy a_sheets a_sheets0 a_sheets1 a_sheets2 a_sheets3 a_sheets0_items a_sheets1_items a_sheets2_items a_sheets3_items f_stale f_finding f_sheets0_form f_sheets0_size f_sheets0_items f_sheets1_form f_sheets1_size f_sheets1_items f_sheets2_form f_sheets2_size f_sheets2_items f_sheets3_form f_sheets3_size f_sheets3_items) H → va_D A (w_ND_copy ct a_this a_texts a_names a_pieces a_song a_fitting a_deal a_guesses a_wise a_spy a_sheets a_sheets0 a_sheets1 a_sheets2 a_sheets3 a_sheets0_items a_sheets1_items a_sheets2_items a_sheets3_items f_stale f_finding f_sheets0_form f_sheets0_size f_sheets0_items f_sheets1_form f_sheets1_size f_sheets1_items f_sheets2_form f_sheets2_size f_sheets2_items f_sheets3_form f_sheets3_size f_sheets3_items) → va_S A s.heap H locs → ∀ ls : Array Slot, lv_has ls 8 [(0, .ref a_this)] → W p l e RM_ND_copy s m args below meth c H locs 0 0 (MQ below (QM D (some (.int r)) (w_ND_copy ct a_this a_texts a_names a_pieces a_song a_fitting a_deal a_guesses a_wise a_spy a_sheets a_sheets0 a_sheets1 a_sheets2 a_sheets3 a_sheets0_items a_sheets1_items a_sheets2_items a_sheets3_items f_stale r_finding f_sheets0_form f_sheets0_size r_sheets0_items f_sheets1_form f_sheets1_size r_sheets1_items f_sheets2_form f_sheets2_size r_sheets2_items f_sheets3_form f_sheets3_size r_sheets3_items) A) args s 0 0 A) (F0 m 97 ls []) := by
  obtain ⟨hx, hb, hr, hml, hown, hts, hlk, hK, hN⟩ := id C
  intro f_finding f_sheets0_items f_sheets1_items f_sheets2_items f_sheets3_items hf H locs hP hD hS ls hl
  unfold ND_copy_b97v3 at hf
  refine lv_aload_n hx hb dX10_copy_97 rfl (lv_at hl 0 rfl) ?_
  refine lv_iconst (v := 2) hx hb dX10_copy_98 (by decide) ?_
  obtain ⟨v99, f_finding_99, hc99, hf⟩ := cb2_some hf
  refine kcMV (q0 := 0) (ci := 10) (As := [.int 2]) (rest := []) (st1 := [.int v99]) (wf := (w_ND_copy ct a_this a_texts a_names a_pieces a_song a_fitting a_deal a_guesses a_wise a_spy a_sheets a_sheets0 a_sheets1 a_sheets2 a_sheets3 a_sheets0_items a_sheets1_items a_sheets2_items a_sheets3_items f_stale f_finding_99 f_sheets0_form f_sheets0_size f_sheets0_items f_sheets1_form f_sheets1_size f_sheets1_items f_sheets2_form f_sheets2_size f_sheets2_items f_sheets3_form f_sheets3_size f_sheets3_items)) C (c_ND_found l D ct a_this a_texts a_names a_pieces a_song a_fitting a_deal a_guesses a_wise a_spy a_sheets f_stale f_finding 2 v99 f_finding_99 _ hc99) ⟨rfl, rfl⟩ yn_yX10_found tw_558 tw_10 tw_556 ⟨Nat.le_of_ble_eq_true rfl, Nat.le_of_ble_eq_true rfl⟩ ⟨Nat.zero_le _, Nat.zero_le _⟩ hP hD hS hA [0] [1, 2, 3, 4, 5, 6, 7, 8, 9] [9, 0, 1, 2, 3, 4, 5, 6, 7, 8] rfl rfl rfl rfl rfl (by decide) rfl rfl rfl rfl rfl rfl hl.1 rfl rfl (Nat.le_of_ble_eq_true rfl) dX10_copy_99 rfl (fun H locs hP hD hS => ?_)
  obtain ⟨e1, e2, e3, e4, e5, e6⟩ := ti6 hf
  subst e1; subst e2; subst e3; subst e4; subst e5; subst e6
  exact kretM C hP hD hS dX10_copy_102
set_option maxHeartbeats 4000000 in
set_option maxRecDepth 100000 in
theorem t_ND_copy_b97v4 {p : Program} {l : Launch} {e : Env} {s : State} {m : MethodId} {args : Array Value} {below : List Frame} {meth : Method} {c : Code} {D : va_G} {ct : Nat → ClassId} (C : CX p s m args meth c RX10 cX10_copy 8 (some .int) D ct) {A : Nat → Prop} (hA : ∀ q : Nat, s.heap.size ≤ q → A q) (a_this a_texts a_names a_pieces a_song a_fitting a_deal a_guesses a_wise a_spy a_sheets a_sheets0 a_sheets1 a_sheets2 a_sheets3 a_sheets0_items a_sheets1_items a_sheets2_items a_sheets3_items : Nat) (f_stale : Int32) (f_sheets0_form : Int32) (f_sheets0_size : Int32) (f_sheets1_form : Int32) (f_sheets1_size : Int32) (f_sheets2_form : Int32) (f_sheets2_size : Int32) (f_sheets3_form : Int32) (f_sheets3_size : Int32) (x1 : Int32) (x2 : Int32) (x3 : Int32) (x4 : Int32) (x5 : Int32) (r : Int32) (r_finding : Int32) (r_sheets0_items : Nat → Int32) (r_sheets1_items : Nat → Int32) (r_sheets2_items : Nat → Int32) (r_sheets3_items : Nat → Int32) (hs_1 : x1 = 2) (hs_3 : x3 = 3) : ∀ (f_finding : Int32) (f_sheets0_items : Nat → Int32) (f_sheets1_items : Nat → Int32) (f_sheets2_items : Nat → Int32) (f_sheets3_items : Nat → Int32), ND_copy_b97v4 f_sheets0_form f_sheets0_size f_sheets1_form f_sheets1_size f_sheets2_form f_sheets2_size f_sheets3_form f_sheets3_size x1 x2 x3 x4 x5 f_finding f_sheets0_items f_sheets1_items f_sheets2_items f_sheets3_items = some (r, r_finding, r_sheets0_items, r_sheets1_items, r_sheets2_items, r_sheets3_items) → ∀ (H : Heap) (locs : List Loc), va_P D vwCl (w_ND_copy ct a_this a_texts a_names a_pieces a_song a_fitting a_deal a_guesses a_wise a_spy a_sheets a_sheets0 a_sheets1 a_sheets2 a_sheets3 a_sheets0_items a_sheets1_items a_sheets2_items a_sheets3_items f_stale f_finding f_sheets0_form f_sheets0_size f_sheets0_items f_sheets1_form f_sheets1_size f_sheets1_items f_sheets2_form f_sheets2_size f_sheets2_items f_sheets3_form f_sheets3_size f_sheets3_items) H → va_D A (w_ND_copy ct a_this a_texts a_names a_pieces a_song a_fitting a_deal a_guesses a_wise a_spy a_sheets a_sheets0 a_sheets1 a_sheets2 a_sheets3 a_sheets0_items a_sheets1_items a_sheets2_items a_sheets3_items f_stale f_finding f_sheets0_form f_sheets0_size f_sheets0_items f_sheets1_form f_sheets1_size f_sheets1_items f_sheets2_form f_sheets2_size f_sheets2_items f_sheets3_form f_sheets3_size f_sheets3_items) → va_S A s.heap H locs → ∀ ls : Array Slot, lv_has ls 8 [(0, .ref a_this)] → W p l e RM_ND_copy s m args below meth c H locs 0 0 (MQ below (QM D (some (.int r)) (w_ND_copy ct a_this a_texts a_names a_pieces a_song a_fitting a_deal a_guesses a_wise a_spy a_sheets a_sheets0 a_sheets1 a_sheets2 a_sheets3 a_sheets0_items a_sheets1_items a_sheets2_items a_sheets3_items f_stale r_finding f_sheets0_form f_sheets0_size r_sheets0_items f_sheets1_form f_sheets1_size r_sheets1_items f_sheets2_form f_sheets2_size r_sheets2_items f_sheets3_form f_sheets3_size r_sheets3_items) A) args s 0 0 A) (F0 m 97 ls []) := by
  obtain ⟨hx, hb, hr, hml, hown, hts, hlk, hK, hN⟩ := id C
  intro f_finding f_sheets0_items f_sheets1_items f_sheets2_items f_sheets3_items hf H locs hP hD hS ls hl
  unfold ND_copy_b97v4 at hf
  refine lv_aload_n hx hb dX10_copy_97 rfl (lv_at hl 0 rfl) ?_
  refine lv_iconst (v := 2) hx hb dX10_copy_98 (by decide) ?_
  obtain ⟨v99, f_finding_99, hc99, hf⟩ := cb2_some hf
  refine kcMV (q0 := 0) (ci := 10) (As := [.int 2]) (rest := []) (st1 := [.int v99]) (wf := (w_ND_copy ct a_this a_texts a_names a_pieces a_song a_fitting a_deal a_guesses a_wise a_spy a_sheets a_sheets0 a_sheets1 a_sheets2 a_sheets3 a_sheets0_items a_sheets1_items a_sheets2_items a_sheets3_items f_stale f_finding_99 f_sheets0_form f_sheets0_size f_sheets0_items f_sheets1_form f_sheets1_size f_sheets1_items f_sheets2_form f_sheets2_size f_sheets2_items f_sheets3_form f_sheets3_size f_sheets3_items)) C (c_ND_found l D ct a_this a_texts a_names a_pieces a_song a_fitting a_deal a_guesses a_wise a_spy a_sheets f_stale f_finding 2 v99 f_finding_99 _ hc99) ⟨rfl, rfl⟩ yn_yX10_found tw_558 tw_10 tw_556 ⟨Nat.le_of_ble_eq_true rfl, Nat.le_of_ble_eq_true rfl⟩ ⟨Nat.zero_le _, Nat.zero_le _⟩ hP hD hS hA [0] [1, 2, 3, 4, 5, 6, 7, 8, 9] [9, 0, 1, 2, 3, 4, 5, 6, 7, 8] rfl rfl rfl rfl rfl (by decide) rfl rfl rfl rfl rfl rfl hl.1 rfl rfl (Nat.le_of_ble_eq_true rfl) dX10_copy_99 rfl (fun H locs hP hD hS => ?_)
  obtain ⟨e1, e2, e3, e4, e5, e6⟩ := ti6 hf
  subst e1; subst e2; subst e3; subst e4; subst e5; subst e6
  exact kretM C hP hD hS dX10_copy_102
set_option maxHeartbeats 4000000 in
set_option maxRecDepth 100000 in
theorem t_ND_copy_b97v5 {p : Program} {l : Launch} {e : Env} {s : State} {m : MethodId} {args : Array Value} {below : List Frame} {meth : Method} {c : Code} {D : va_G} {ct : Nat → ClassId} (C : CX p s m args meth c RX10 cX10_copy 8 (some .int) D ct) {A : Nat → Prop} (hA : ∀ q : Nat, s.heap.size ≤ q → A q) (a_this a_texts a_names a_pieces a_song a_fitting a_deal a_guesses a_wise a_spy a_sheets a_sheets0 a_sheets1 a_sheets2 a_sheets3 a_sheets0_items a_sheets1_items a_sheets2_items a_sheets3_items : Nat) (f_stale : Int32) (f_sheets0_form : Int32) (f_sheets0_size : Int32) (f_sheets1_form : Int32) (f_sheets1_size : Int32) (f_sheets2_form : Int32) (f_sheets2_size : Int32) (f_sheets3_form : Int32) (f_sheets3_size : Int32) (x1 : Int32) (x2 : Int32) (x3 : Int32) (x4 : Int32) (x5 : Int32) (r : Int32) (r_finding : Int32) (r_sheets0_items : Nat → Int32) (r_sheets1_items : Nat → Int32) (r_sheets2_items : Nat → Int32) (r_sheets3_items : Nat → Int32) (hs_1 : x1 = 2) (hs_3 : x3 = 2) : ∀ (f_finding : Int32) (f_sheets0_items : Nat → Int32) (f_sheets1_items : Nat → Int32) (f_sheets2_items : Nat → Int32) (f_sheets3_items : Nat → Int32), ND_copy_b97v5 f_sheets0_form f_sheets0_size f_sheets1_form f_sheets1_size f_sheets2_form f_sheets2_size f_sheets3_form f_sheets3_size x1 x2 x3 x4 x5 f_finding f_sheets0_items f_sheets1_items f_sheets2_items f_sheets3_items = some (r, r_finding, r_sheets0_items, r_sheets1_items, r_sheets2_items, r_sheets3_items) → ∀ (H : Heap) (locs : List Loc), va_P D vwCl (w_ND_copy ct a_this a_texts a_names a_pieces a_song a_fitting a_deal a_guesses a_wise a_spy a_sheets a_sheets0 a_sheets1 a_sheets2 a_sheets3 a_sheets0_items a_sheets1_items a_sheets2_items a_sheets3_items f_stale f_finding f_sheets0_form f_sheets0_size f_sheets0_items f_sheets1_form f_sheets1_size f_sheets1_items f_sheets2_form f_sheets2_size f_sheets2_items f_sheets3_form f_sheets3_size f_sheets3_items) H → va_D A (w_ND_copy ct a_this a_texts a_names a_pieces a_song a_fitting a_deal a_guesses a_wise a_spy a_sheets a_sheets0 a_sheets1 a_sheets2 a_sheets3 a_sheets0_items a_sheets1_items a_sheets2_items a_sheets3_items f_stale f_finding f_sheets0_form f_sheets0_size f_sheets0_items f_sheets1_form f_sheets1_size f_sheets1_items f_sheets2_form f_sheets2_size f_sheets2_items f_sheets3_form f_sheets3_size f_sheets3_items) → va_S A s.heap H locs → ∀ ls : Array Slot, lv_has ls 8 [(0, .ref a_this)] → W p l e RM_ND_copy s m args below meth c H locs 0 0 (MQ below (QM D (some (.int r)) (w_ND_copy ct a_this a_texts a_names a_pieces a_song a_fitting a_deal a_guesses a_wise a_spy a_sheets a_sheets0 a_sheets1 a_sheets2 a_sheets3 a_sheets0_items a_sheets1_items a_sheets2_items a_sheets3_items f_stale r_finding f_sheets0_form f_sheets0_size r_sheets0_items f_sheets1_form f_sheets1_size r_sheets1_items f_sheets2_form f_sheets2_size r_sheets2_items f_sheets3_form f_sheets3_size r_sheets3_items) A) args s 0 0 A) (F0 m 97 ls []) := by
  obtain ⟨hx, hb, hr, hml, hown, hts, hlk, hK, hN⟩ := id C
  intro f_finding f_sheets0_items f_sheets1_items f_sheets2_items f_sheets3_items hf H locs hP hD hS ls hl
  unfold ND_copy_b97v5 at hf
  refine lv_aload_n hx hb dX10_copy_97 rfl (lv_at hl 0 rfl) ?_
  refine lv_iconst (v := 2) hx hb dX10_copy_98 (by decide) ?_
  obtain ⟨v99, f_finding_99, hc99, hf⟩ := cb2_some hf
  refine kcMV (q0 := 0) (ci := 10) (As := [.int 2]) (rest := []) (st1 := [.int v99]) (wf := (w_ND_copy ct a_this a_texts a_names a_pieces a_song a_fitting a_deal a_guesses a_wise a_spy a_sheets a_sheets0 a_sheets1 a_sheets2 a_sheets3 a_sheets0_items a_sheets1_items a_sheets2_items a_sheets3_items f_stale f_finding_99 f_sheets0_form f_sheets0_size f_sheets0_items f_sheets1_form f_sheets1_size f_sheets1_items f_sheets2_form f_sheets2_size f_sheets2_items f_sheets3_form f_sheets3_size f_sheets3_items)) C (c_ND_found l D ct a_this a_texts a_names a_pieces a_song a_fitting a_deal a_guesses a_wise a_spy a_sheets f_stale f_finding 2 v99 f_finding_99 _ hc99) ⟨rfl, rfl⟩ yn_yX10_found tw_558 tw_10 tw_556 ⟨Nat.le_of_ble_eq_true rfl, Nat.le_of_ble_eq_true rfl⟩ ⟨Nat.zero_le _, Nat.zero_le _⟩ hP hD hS hA [0] [1, 2, 3, 4, 5, 6, 7, 8, 9] [9, 0, 1, 2, 3, 4, 5, 6, 7, 8] rfl rfl rfl rfl rfl (by decide) rfl rfl rfl rfl rfl rfl hl.1 rfl rfl (Nat.le_of_ble_eq_true rfl) dX10_copy_99 rfl (fun H locs hP hD hS => ?_)
  obtain ⟨e1, e2, e3, e4, e5, e6⟩ := ti6 hf
  subst e1; subst e2; subst e3; subst e4; subst e5; subst e6
  exact kretM C hP hD hS dX10_copy_102
set_option maxHeartbeats 4000000 in
set_option maxRecDepth 100000 in
theorem t_ND_copy_b97v6 {p : Program} {l : Launch} {e : Env} {s : State} {m : MethodId} {args : Array Value} {below : List Frame} {meth : Method} {c : Code} {D : va_G} {ct : Nat → ClassId} (C : CX p s m args meth c RX10 cX10_copy 8 (some .int) D ct) {A : Nat → Prop} (hA : ∀ q : Nat, s.heap.size ≤ q → A q) (a_this a_texts a_names a_pieces a_song a_fitting a_deal a_guesses a_wise a_spy a_sheets a_sheets0 a_sheets1 a_sheets2 a_sheets3 a_sheets0_items a_sheets1_items a_sheets2_items a_sheets3_items : Nat) (f_stale : Int32) (f_sheets0_form : Int32) (f_sheets0_size : Int32) (f_sheets1_form : Int32) (f_sheets1_size : Int32) (f_sheets2_form : Int32) (f_sheets2_size : Int32) (f_sheets3_form : Int32) (f_sheets3_size : Int32) (x1 : Int32) (x2 : Int32) (x3 : Int32) (x4 : Int32) (x5 : Int32) (r : Int32) (r_finding : Int32) (r_sheets0_items : Nat → Int32) (r_sheets1_items : Nat → Int32) (r_sheets2_items : Nat → Int32) (r_sheets3_items : Nat → Int32) (hs_1 : x1 = 2) (hs_3 : x3 = 1) : ∀ (f_finding : Int32) (f_sheets0_items : Nat → Int32) (f_sheets1_items : Nat → Int32) (f_sheets2_items : Nat → Int32) (f_sheets3_items : Nat → Int32), ND_copy_b97v6 f_sheets0_form f_sheets0_size f_sheets1_form f_sheets1_size f_sheets2_form f_sheets2_size f_sheets3_form f_sheets3_size x1 x2 x3 x4 x5 f_finding f_sheets0_items f_sheets1_items f_sheets2_items f_sheets3_items = some (r, r_finding, r_sheets0_items, r_sheets1_items, r_sheets2_items, r_sheets3_items) → ∀ (H : Heap) (locs : List Loc), va_P D vwCl (w_ND_copy ct a_this a_texts a_names a_pieces a_song a_fitting a_deal a_guesses a_wise a_spy a_sheets a_sheets0 a_sheets1 a_sheets2 a_sheets3 a_sheets0_items a_sheets1_items a_sheets2_items a_sheets3_items f_stale f_finding f_sheets0_form f_sheets0_size f_sheets0_items f_sheets1_form f_sheets1_size f_sheets1_items f_sheets2_form f_sheets2_size f_sheets2_items f_sheets3_form f_sheets3_size f_sheets3_items) H → va_D A (w_ND_copy ct a_this a_texts a_names a_pieces a_song a_fitting a_deal a_guesses a_wise a_spy a_sheets a_sheets0 a_sheets1 a_sheets2 a_sheets3 a_sheets0_items a_sheets1_items a_sheets2_items a_sheets3_items f_stale f_finding f_sheets0_form f_sheets0_size f_sheets0_items f_sheets1_form f_sheets1_size f_sheets1_items f_sheets2_form f_sheets2_size f_sheets2_items f_sheets3_form f_sheets3_size f_sheets3_items) → va_S A s.heap H locs → ∀ ls : Array Slot, lv_has ls 8 [(0, .ref a_this)] → W p l e RM_ND_copy s m args below meth c H locs 0 0 (MQ below (QM D (some (.int r)) (w_ND_copy ct a_this a_texts a_names a_pieces a_song a_fitting a_deal a_guesses a_wise a_spy a_sheets a_sheets0 a_sheets1 a_sheets2 a_sheets3 a_sheets0_items a_sheets1_items a_sheets2_items a_sheets3_items f_stale r_finding f_sheets0_form f_sheets0_size r_sheets0_items f_sheets1_form f_sheets1_size r_sheets1_items f_sheets2_form f_sheets2_size r_sheets2_items f_sheets3_form f_sheets3_size r_sheets3_items) A) args s 0 0 A) (F0 m 97 ls []) := by
  obtain ⟨hx, hb, hr, hml, hown, hts, hlk, hK, hN⟩ := id C
  intro f_finding f_sheets0_items f_sheets1_items f_sheets2_items f_sheets3_items hf H locs hP hD hS ls hl
  unfold ND_copy_b97v6 at hf
  refine lv_aload_n hx hb dX10_copy_97 rfl (lv_at hl 0 rfl) ?_
  refine lv_iconst (v := 2) hx hb dX10_copy_98 (by decide) ?_
  obtain ⟨v99, f_finding_99, hc99, hf⟩ := cb2_some hf
  refine kcMV (q0 := 0) (ci := 10) (As := [.int 2]) (rest := []) (st1 := [.int v99]) (wf := (w_ND_copy ct a_this a_texts a_names a_pieces a_song a_fitting a_deal a_guesses a_wise a_spy a_sheets a_sheets0 a_sheets1 a_sheets2 a_sheets3 a_sheets0_items a_sheets1_items a_sheets2_items a_sheets3_items f_stale f_finding_99 f_sheets0_form f_sheets0_size f_sheets0_items f_sheets1_form f_sheets1_size f_sheets1_items f_sheets2_form f_sheets2_size f_sheets2_items f_sheets3_form f_sheets3_size f_sheets3_items)) C (c_ND_found l D ct a_this a_texts a_names a_pieces a_song a_fitting a_deal a_guesses a_wise a_spy a_sheets f_stale f_finding 2 v99 f_finding_99 _ hc99) ⟨rfl, rfl⟩ yn_yX10_found tw_558 tw_10 tw_556 ⟨Nat.le_of_ble_eq_true rfl, Nat.le_of_ble_eq_true rfl⟩ ⟨Nat.zero_le _, Nat.zero_le _⟩ hP hD hS hA [0] [1, 2, 3, 4, 5, 6, 7, 8, 9] [9, 0, 1, 2, 3, 4, 5, 6, 7, 8] rfl rfl rfl rfl rfl (by decide) rfl rfl rfl rfl rfl rfl hl.1 rfl rfl (Nat.le_of_ble_eq_true rfl) dX10_copy_99 rfl (fun H locs hP hD hS => ?_)
  obtain ⟨e1, e2, e3, e4, e5, e6⟩ := ti6 hf
  subst e1; subst e2; subst e3; subst e4; subst e5; subst e6
  exact kretM C hP hD hS dX10_copy_102
set_option maxHeartbeats 4000000 in
set_option maxRecDepth 100000 in
theorem t_ND_copy_b97v7 {p : Program} {l : Launch} {e : Env} {s : State} {m : MethodId} {args : Array Value} {below : List Frame} {meth : Method} {c : Code} {D : va_G} {ct : Nat → ClassId} (C : CX p s m args meth c RX10 cX10_copy 8 (some .int) D ct) {A : Nat → Prop} (hA : ∀ q : Nat, s.heap.size ≤ q → A q) (a_this a_texts a_names a_pieces a_song a_fitting a_deal a_guesses a_wise a_spy a_sheets a_sheets0 a_sheets1 a_sheets2 a_sheets3 a_sheets0_items a_sheets1_items a_sheets2_items a_sheets3_items : Nat) (f_stale : Int32) (f_sheets0_form : Int32) (f_sheets0_size : Int32) (f_sheets1_form : Int32) (f_sheets1_size : Int32) (f_sheets2_form : Int32) (f_sheets2_size : Int32) (f_sheets3_form : Int32) (f_sheets3_size : Int32) (x1 : Int32) (x2 : Int32) (x3 : Int32) (x4 : Int32) (x5 : Int32) (r : Int32) (r_finding : Int32) (r_sheets0_items : Nat → Int32) (r_sheets1_items : Nat → Int32) (r_sheets2_items : Nat → Int32) (r_sheets3_items : Nat → Int32) (hs_1 : x1 = 2) (hs_3 : x3 = 0) : ∀ (f_finding : Int32) (f_sheets0_items : Nat → Int32) (f_sheets1_items : Nat → Int32) (f_sheets2_items : Nat → Int32) (f_sheets3_items : Nat → Int32), ND_copy_b97v7 f_sheets0_form f_sheets0_size f_sheets1_form f_sheets1_size f_sheets2_form f_sheets2_size f_sheets3_form f_sheets3_size x1 x2 x3 x4 x5 f_finding f_sheets0_items f_sheets1_items f_sheets2_items f_sheets3_items = some (r, r_finding, r_sheets0_items, r_sheets1_items, r_sheets2_items, r_sheets3_items) → ∀ (H : Heap) (locs : List Loc), va_P D vwCl (w_ND_copy ct a_this a_texts a_names a_pieces a_song a_fitting a_deal a_guesses a_wise a_spy a_sheets a_sheets0 a_sheets1 a_sheets2 a_sheets3 a_sheets0_items a_sheets1_items a_sheets2_items a_sheets3_items f_stale f_finding f_sheets0_form f_sheets0_size f_sheets0_items f_sheets1_form f_sheets1_size f_sheets1_items f_sheets2_form f_sheets2_size f_sheets2_items f_sheets3_form f_sheets3_size f_sheets3_items) H → va_D A (w_ND_copy ct a_this a_texts a_names a_pieces a_song a_fitting a_deal a_guesses a_wise a_spy a_sheets a_sheets0 a_sheets1 a_sheets2 a_sheets3 a_sheets0_items a_sheets1_items a_sheets2_items a_sheets3_items f_stale f_finding f_sheets0_form f_sheets0_size f_sheets0_items f_sheets1_form f_sheets1_size f_sheets1_items f_sheets2_form f_sheets2_size f_sheets2_items f_sheets3_form f_sheets3_size f_sheets3_items) → va_S A s.heap H locs → ∀ ls : Array Slot, lv_has ls 8 [(0, .ref a_this)] → W p l e RM_ND_copy s m args below meth c H locs 0 0 (MQ below (QM D (some (.int r)) (w_ND_copy ct a_this a_texts a_names a_pieces a_song a_fitting a_deal a_guesses a_wise a_spy a_sheets a_sheets0 a_sheets1 a_sheets2 a_sheets3 a_sheets0_items a_sheets1_items a_sheets2_items a_sheets3_items f_stale r_finding f_sheets0_form f_sheets0_size r_sheets0_items f_sheets1_form f_sheets1_size r_sheets1_items f_sheets2_form f_sheets2_size r_sheets2_items f_sheets3_form f_sheets3_size r_sheets3_items) A) args s 0 0 A) (F0 m 97 ls []) := by
  obtain ⟨hx, hb, hr, hml, hown, hts, hlk, hK, hN⟩ := id C
  intro f_finding f_sheets0_items f_sheets1_items f_sheets2_items f_sheets3_items hf H locs hP hD hS ls hl
  unfold ND_copy_b97v7 at hf
  refine lv_aload_n hx hb dX10_copy_97 rfl (lv_at hl 0 rfl) ?_
  refine lv_iconst (v := 2) hx hb dX10_copy_98 (by decide) ?_
  obtain ⟨v99, f_finding_99, hc99, hf⟩ := cb2_some hf
  refine kcMV (q0 := 0) (ci := 10) (As := [.int 2]) (rest := []) (st1 := [.int v99]) (wf := (w_ND_copy ct a_this a_texts a_names a_pieces a_song a_fitting a_deal a_guesses a_wise a_spy a_sheets a_sheets0 a_sheets1 a_sheets2 a_sheets3 a_sheets0_items a_sheets1_items a_sheets2_items a_sheets3_items f_stale f_finding_99 f_sheets0_form f_sheets0_size f_sheets0_items f_sheets1_form f_sheets1_size f_sheets1_items f_sheets2_form f_sheets2_size f_sheets2_items f_sheets3_form f_sheets3_size f_sheets3_items)) C (c_ND_found l D ct a_this a_texts a_names a_pieces a_song a_fitting a_deal a_guesses a_wise a_spy a_sheets f_stale f_finding 2 v99 f_finding_99 _ hc99) ⟨rfl, rfl⟩ yn_yX10_found tw_558 tw_10 tw_556 ⟨Nat.le_of_ble_eq_true rfl, Nat.le_of_ble_eq_true rfl⟩ ⟨Nat.zero_le _, Nat.zero_le _⟩ hP hD hS hA [0] [1, 2, 3, 4, 5, 6, 7, 8, 9] [9, 0, 1, 2, 3, 4, 5, 6, 7, 8] rfl rfl rfl rfl rfl (by decide) rfl rfl rfl rfl rfl rfl hl.1 rfl rfl (Nat.le_of_ble_eq_true rfl) dX10_copy_99 rfl (fun H locs hP hD hS => ?_)
  obtain ⟨e1, e2, e3, e4, e5, e6⟩ := ti6 hf
  subst e1; subst e2; subst e3; subst e4; subst e5; subst e6
  exact kretM C hP hD hS dX10_copy_102
set_option maxHeartbeats 4000000 in
set_option maxRecDepth 100000 in
theorem t_ND_copy_b97v8 {p : Program} {l : Launch} {e : Env} {s : State} {m : MethodId} {args : Array Value} {below : List Frame} {meth : Method} {c : Code} {D : va_G} {ct : Nat → ClassId} (C : CX p s m args meth c RX10 cX10_copy 8 (some .int) D ct) {A : Nat → Prop} (hA : ∀ q : Nat, s.heap.size ≤ q → A q) (a_this a_texts a_names a_pieces a_song a_fitting a_deal a_guesses a_wise a_spy a_sheets a_sheets0 a_sheets1 a_sheets2 a_sheets3 a_sheets0_items a_sheets1_items a_sheets2_items a_sheets3_items : Nat) (f_stale : Int32) (f_sheets0_form : Int32) (f_sheets0_size : Int32) (f_sheets1_form : Int32) (f_sheets1_size : Int32) (f_sheets2_form : Int32) (f_sheets2_size : Int32) (f_sheets3_form : Int32) (f_sheets3_size : Int32) (x1 : Int32) (x2 : Int32) (x3 : Int32) (x4 : Int32) (x5 : Int32) (r : Int32) (r_finding : Int32) (r_sheets0_items : Nat → Int32) (r_sheets1_items : Nat → Int32) (r_sheets2_items : Nat → Int32) (r_sheets3_items : Nat → Int32) (hs_1 : x1 = 1) (hs_3 : x3 = 3) : ∀ (f_finding : Int32) (f_sheets0_items : Nat → Int32) (f_sheets1_items : Nat → Int32) (f_sheets2_items : Nat → Int32) (f_sheets3_items : Nat → Int32), ND_copy_b97v8 f_sheets0_form f_sheets0_size f_sheets1_form f_sheets1_size f_sheets2_form f_sheets2_size f_sheets3_form f_sheets3_size x1 x2 x3 x4 x5 f_finding f_sheets0_items f_sheets1_items f_sheets2_items f_sheets3_items = some (r, r_finding, r_sheets0_items, r_sheets1_items, r_sheets2_items, r_sheets3_items) → ∀ (H : Heap) (locs : List Loc), va_P D vwCl (w_ND_copy ct a_this a_texts a_names a_pieces a_song a_fitting a_deal a_guesses a_wise a_spy a_sheets a_sheets0 a_sheets1 a_sheets2 a_sheets3 a_sheets0_items a_sheets1_items a_sheets2_items a_sheets3_items f_stale f_finding f_sheets0_form f_sheets0_size f_sheets0_items f_sheets1_form f_sheets1_size f_sheets1_items f_sheets2_form f_sheets2_size f_sheets2_items f_sheets3_form f_sheets3_size f_sheets3_items) H → va_D A (w_ND_copy ct a_this a_texts a_names a_pieces a_song a_fitting a_deal a_guesses a_wise a_spy a_sheets a_sheets0 a_sheets1 a_sheets2 a_sheets3 a_sheets0_items a_sheets1_items a_sheets2_items a_sheets3_items f_stale f_finding f_sheets0_form f_sheets0_size f_sheets0_items f_sheets1_form f_sheets1_size f_sheets1_items f_sheets2_form f_sheets2_size f_sheets2_items f_sheets3_form f_sheets3_size f_sheets3_items) → va_S A s.heap H locs → ∀ ls : Array Slot, lv_has ls 8 [(0, .ref a_this)] → W p l e RM_ND_copy s m args below meth c H locs 0 0 (MQ below (QM D (some (.int r)) (w_ND_copy ct a_this a_texts a_names a_pieces a_song a_fitting a_deal a_guesses a_wise a_spy a_sheets a_sheets0 a_sheets1 a_sheets2 a_sheets3 a_sheets0_items a_sheets1_items a_sheets2_items a_sheets3_items f_stale r_finding f_sheets0_form f_sheets0_size r_sheets0_items f_sheets1_form f_sheets1_size r_sheets1_items f_sheets2_form f_sheets2_size r_sheets2_items f_sheets3_form f_sheets3_size r_sheets3_items) A) args s 0 0 A) (F0 m 97 ls []) := by
  obtain ⟨hx, hb, hr, hml, hown, hts, hlk, hK, hN⟩ := id C
  intro f_finding f_sheets0_items f_sheets1_items f_sheets2_items f_sheets3_items hf H locs hP hD hS ls hl
  unfold ND_copy_b97v8 at hf
  refine lv_aload_n hx hb dX10_copy_97 rfl (lv_at hl 0 rfl) ?_
  refine lv_iconst (v := 2) hx hb dX10_copy_98 (by decide) ?_
  obtain ⟨v99, f_finding_99, hc99, hf⟩ := cb2_some hf
  refine kcMV (q0 := 0) (ci := 10) (As := [.int 2]) (rest := []) (st1 := [.int v99]) (wf := (w_ND_copy ct a_this a_texts a_names a_pieces a_song a_fitting a_deal a_guesses a_wise a_spy a_sheets a_sheets0 a_sheets1 a_sheets2 a_sheets3 a_sheets0_items a_sheets1_items a_sheets2_items a_sheets3_items f_stale f_finding_99 f_sheets0_form f_sheets0_size f_sheets0_items f_sheets1_form f_sheets1_size f_sheets1_items f_sheets2_form f_sheets2_size f_sheets2_items f_sheets3_form f_sheets3_size f_sheets3_items)) C (c_ND_found l D ct a_this a_texts a_names a_pieces a_song a_fitting a_deal a_guesses a_wise a_spy a_sheets f_stale f_finding 2 v99 f_finding_99 _ hc99) ⟨rfl, rfl⟩ yn_yX10_found tw_558 tw_10 tw_556 ⟨Nat.le_of_ble_eq_true rfl, Nat.le_of_ble_eq_true rfl⟩ ⟨Nat.zero_le _, Nat.zero_le _⟩ hP hD hS hA [0] [1, 2, 3, 4, 5, 6, 7, 8, 9] [9, 0, 1, 2, 3, 4, 5, 6, 7, 8] rfl rfl rfl rfl rfl (by decide) rfl rfl rfl rfl rfl rfl hl.1 rfl rfl (Nat.le_of_ble_eq_true rfl) dX10_copy_99 rfl (fun H locs hP hD hS => ?_)
  obtain ⟨e1, e2, e3, e4, e5, e6⟩ := ti6 hf
  subst e1; subst e2; subst e3; subst e4; subst e5; subst e6
  exact kretM C hP hD hS dX10_copy_102
set_option maxHeartbeats 4000000 in
set_option maxRecDepth 100000 in
theorem t_ND_copy_b97v9 {p : Program} {l : Launch} {e : Env} {s : State} {m : MethodId} {args : Array Value} {below : List Frame} {meth : Method} {c : Code} {D : va_G} {ct : Nat → ClassId} (C : CX p s m args meth c RX10 cX10_copy 8 (some .int) D ct) {A : Nat → Prop} (hA : ∀ q : Nat, s.heap.size ≤ q → A q) (a_this a_texts a_names a_pieces a_song a_fitting a_deal a_guesses a_wise a_spy a_sheets a_sheets0 a_sheets1 a_sheets2 a_sheets3 a_sheets0_items a_sheets1_items a_sheets2_items a_sheets3_items : Nat) (f_stale : Int32) (f_sheets0_form : Int32) (f_sheets0_size : Int32) (f_sheets1_form : Int32) (f_sheets1_size : Int32) (f_sheets2_form : Int32) (f_sheets2_size : Int32) (f_sheets3_form : Int32) (f_sheets3_size : Int32) (x1 : Int32) (x2 : Int32) (x3 : Int32) (x4 : Int32) (x5 : Int32) (r : Int32) (r_finding : Int32) (r_sheets0_items : Nat → Int32) (r_sheets1_items : Nat → Int32) (r_sheets2_items : Nat → Int32) (r_sheets3_items : Nat → Int32) (hs_1 : x1 = 1) (hs_3 : x3 = 2) : ∀ (f_finding : Int32) (f_sheets0_items : Nat → Int32) (f_sheets1_items : Nat → Int32) (f_sheets2_items : Nat → Int32) (f_sheets3_items : Nat → Int32), ND_copy_b97v9 f_sheets0_form f_sheets0_size f_sheets1_form f_sheets1_size f_sheets2_form f_sheets2_size f_sheets3_form f_sheets3_size x1 x2 x3 x4 x5 f_finding f_sheets0_items f_sheets1_items f_sheets2_items f_sheets3_items = some (r, r_finding, r_sheets0_items, r_sheets1_items, r_sheets2_items, r_sheets3_items) → ∀ (H : Heap) (locs : List Loc), va_P D vwCl (w_ND_copy ct a_this a_texts a_names a_pieces a_song a_fitting a_deal a_guesses a_wise a_spy a_sheets a_sheets0 a_sheets1 a_sheets2 a_sheets3 a_sheets0_items a_sheets1_items a_sheets2_items a_sheets3_items f_stale f_finding f_sheets0_form f_sheets0_size f_sheets0_items f_sheets1_form f_sheets1_size f_sheets1_items f_sheets2_form f_sheets2_size f_sheets2_items f_sheets3_form f_sheets3_size f_sheets3_items) H → va_D A (w_ND_copy ct a_this a_texts a_names a_pieces a_song a_fitting a_deal a_guesses a_wise a_spy a_sheets a_sheets0 a_sheets1 a_sheets2 a_sheets3 a_sheets0_items a_sheets1_items a_sheets2_items a_sheets3_items f_stale f_finding f_sheets0_form f_sheets0_size f_sheets0_items f_sheets1_form f_sheets1_size f_sheets1_items f_sheets2_form f_sheets2_size f_sheets2_items f_sheets3_form f_sheets3_size f_sheets3_items) → va_S A s.heap H locs → ∀ ls : Array Slot, lv_has ls 8 [(0, .ref a_this)] → W p l e RM_ND_copy s m args below meth c H locs 0 0 (MQ below (QM D (some (.int r)) (w_ND_copy ct a_this a_texts a_names a_pieces a_song a_fitting a_deal a_guesses a_wise a_spy a_sheets a_sheets0 a_sheets1 a_sheets2 a_sheets3 a_sheets0_items a_sheets1_items a_sheets2_items a_sheets3_items f_stale r_finding f_sheets0_form f_sheets0_size r_sheets0_items f_sheets1_form f_sheets1_size r_sheets1_items f_sheets2_form f_sheets2_size r_sheets2_items f_sheets3_form f_sheets3_size r_sheets3_items) A) args s 0 0 A) (F0 m 97 ls []) := by
  obtain ⟨hx, hb, hr, hml, hown, hts, hlk, hK, hN⟩ := id C
  intro f_finding f_sheets0_items f_sheets1_items f_sheets2_items f_sheets3_items hf H locs hP hD hS ls hl
  unfold ND_copy_b97v9 at hf
  refine lv_aload_n hx hb dX10_copy_97 rfl (lv_at hl 0 rfl) ?_
  refine lv_iconst (v := 2) hx hb dX10_copy_98 (by decide) ?_
  obtain ⟨v99, f_finding_99, hc99, hf⟩ := cb2_some hf
  refine kcMV (q0 := 0) (ci := 10) (As := [.int 2]) (rest := []) (st1 := [.int v99]) (wf := (w_ND_copy ct a_this a_texts a_names a_pieces a_song a_fitting a_deal a_guesses a_wise a_spy a_sheets a_sheets0 a_sheets1 a_sheets2 a_sheets3 a_sheets0_items a_sheets1_items a_sheets2_items a_sheets3_items f_stale f_finding_99 f_sheets0_form f_sheets0_size f_sheets0_items f_sheets1_form f_sheets1_size f_sheets1_items f_sheets2_form f_sheets2_size f_sheets2_items f_sheets3_form f_sheets3_size f_sheets3_items)) C (c_ND_found l D ct a_this a_texts a_names a_pieces a_song a_fitting a_deal a_guesses a_wise a_spy a_sheets f_stale f_finding 2 v99 f_finding_99 _ hc99) ⟨rfl, rfl⟩ yn_yX10_found tw_558 tw_10 tw_556 ⟨Nat.le_of_ble_eq_true rfl, Nat.le_of_ble_eq_true rfl⟩ ⟨Nat.zero_le _, Nat.zero_le _⟩ hP hD hS hA [0] [1, 2, 3, 4, 5, 6, 7, 8, 9] [9, 0, 1, 2, 3, 4, 5, 6, 7, 8] rfl rfl rfl rfl rfl (by decide) rfl rfl rfl rfl rfl rfl hl.1 rfl rfl (Nat.le_of_ble_eq_true rfl) dX10_copy_99 rfl (fun H locs hP hD hS => ?_)
  obtain ⟨e1, e2, e3, e4, e5, e6⟩ := ti6 hf
  subst e1; subst e2; subst e3; subst e4; subst e5; subst e6
  exact kretM C hP hD hS dX10_copy_102
set_option maxHeartbeats 4000000 in
set_option maxRecDepth 100000 in
theorem t_ND_copy_b97v10 {p : Program} {l : Launch} {e : Env} {s : State} {m : MethodId} {args : Array Value} {below : List Frame} {meth : Method} {c : Code} {D : va_G} {ct : Nat → ClassId} (C : CX p s m args meth c RX10 cX10_copy 8 (some .int) D ct) {A : Nat → Prop} (hA : ∀ q : Nat, s.heap.size ≤ q → A q) (a_this a_texts a_names a_pieces a_song a_fitting a_deal a_guesses a_wise a_spy a_sheets a_sheets0 a_sheets1 a_sheets2 a_sheets3 a_sheets0_items a_sheets1_items a_sheets2_items a_sheets3_items : Nat) (f_stale : Int32) (f_sheets0_form : Int32) (f_sheets0_size : Int32) (f_sheets1_form : Int32) (f_sheets1_size : Int32) (f_sheets2_form : Int32) (f_sheets2_size : Int32) (f_sheets3_form : Int32) (f_sheets3_size : Int32) (x1 : Int32) (x2 : Int32) (x3 : Int32) (x4 : Int32) (x5 : Int32) (r : Int32) (r_finding : Int32) (r_sheets0_items : Nat → Int32) (r_sheets1_items : Nat → Int32) (r_sheets2_items : Nat → Int32) (r_sheets3_items : Nat → Int32) (hs_1 : x1 = 1) (hs_3 : x3 = 1) : ∀ (f_finding : Int32) (f_sheets0_items : Nat → Int32) (f_sheets1_items : Nat → Int32) (f_sheets2_items : Nat → Int32) (f_sheets3_items : Nat → Int32), ND_copy_b97v10 f_sheets0_form f_sheets0_size f_sheets1_form f_sheets1_size f_sheets2_form f_sheets2_size f_sheets3_form f_sheets3_size x1 x2 x3 x4 x5 f_finding f_sheets0_items f_sheets1_items f_sheets2_items f_sheets3_items = some (r, r_finding, r_sheets0_items, r_sheets1_items, r_sheets2_items, r_sheets3_items) → ∀ (H : Heap) (locs : List Loc), va_P D vwCl (w_ND_copy ct a_this a_texts a_names a_pieces a_song a_fitting a_deal a_guesses a_wise a_spy a_sheets a_sheets0 a_sheets1 a_sheets2 a_sheets3 a_sheets0_items a_sheets1_items a_sheets2_items a_sheets3_items f_stale f_finding f_sheets0_form f_sheets0_size f_sheets0_items f_sheets1_form f_sheets1_size f_sheets1_items f_sheets2_form f_sheets2_size f_sheets2_items f_sheets3_form f_sheets3_size f_sheets3_items) H → va_D A (w_ND_copy ct a_this a_texts a_names a_pieces a_song a_fitting a_deal a_guesses a_wise a_spy a_sheets a_sheets0 a_sheets1 a_sheets2 a_sheets3 a_sheets0_items a_sheets1_items a_sheets2_items a_sheets3_items f_stale f_finding f_sheets0_form f_sheets0_size f_sheets0_items f_sheets1_form f_sheets1_size f_sheets1_items f_sheets2_form f_sheets2_size f_sheets2_items f_sheets3_form f_sheets3_size f_sheets3_items) → va_S A s.heap H locs → ∀ ls : Array Slot, lv_has ls 8 [(0, .ref a_this)] → W p l e RM_ND_copy s m args below meth c H locs 0 0 (MQ below (QM D (some (.int r)) (w_ND_copy ct a_this a_texts a_names a_pieces a_song a_fitting a_deal a_guesses a_wise a_spy a_sheets a_sheets0 a_sheets1 a_sheets2 a_sheets3 a_sheets0_items a_sheets1_items a_sheets2_items a_sheets3_items f_stale r_finding f_sheets0_form f_sheets0_size r_sheets0_items f_sheets1_form f_sheets1_size r_sheets1_items f_sheets2_form f_sheets2_size r_sheets2_items f_sheets3_form f_sheets3_size r_sheets3_items) A) args s 0 0 A) (F0 m 97 ls []) := by
  obtain ⟨hx, hb, hr, hml, hown, hts, hlk, hK, hN⟩ := id C
  intro f_finding f_sheets0_items f_sheets1_items f_sheets2_items f_sheets3_items hf H locs hP hD hS ls hl
  unfold ND_copy_b97v10 at hf
  refine lv_aload_n hx hb dX10_copy_97 rfl (lv_at hl 0 rfl) ?_
  refine lv_iconst (v := 2) hx hb dX10_copy_98 (by decide) ?_
  obtain ⟨v99, f_finding_99, hc99, hf⟩ := cb2_some hf
  refine kcMV (q0 := 0) (ci := 10) (As := [.int 2]) (rest := []) (st1 := [.int v99]) (wf := (w_ND_copy ct a_this a_texts a_names a_pieces a_song a_fitting a_deal a_guesses a_wise a_spy a_sheets a_sheets0 a_sheets1 a_sheets2 a_sheets3 a_sheets0_items a_sheets1_items a_sheets2_items a_sheets3_items f_stale f_finding_99 f_sheets0_form f_sheets0_size f_sheets0_items f_sheets1_form f_sheets1_size f_sheets1_items f_sheets2_form f_sheets2_size f_sheets2_items f_sheets3_form f_sheets3_size f_sheets3_items)) C (c_ND_found l D ct a_this a_texts a_names a_pieces a_song a_fitting a_deal a_guesses a_wise a_spy a_sheets f_stale f_finding 2 v99 f_finding_99 _ hc99) ⟨rfl, rfl⟩ yn_yX10_found tw_558 tw_10 tw_556 ⟨Nat.le_of_ble_eq_true rfl, Nat.le_of_ble_eq_true rfl⟩ ⟨Nat.zero_le _, Nat.zero_le _⟩ hP hD hS hA [0] [1, 2, 3, 4, 5, 6, 7, 8, 9] [9, 0, 1, 2, 3, 4, 5, 6, 7, 8] rfl rfl rfl rfl rfl (by decide) rfl rfl rfl rfl rfl rfl hl.1 rfl rfl (Nat.le_of_ble_eq_true rfl) dX10_copy_99 rfl (fun H locs hP hD hS => ?_)
  obtain ⟨e1, e2, e3, e4, e5, e6⟩ := ti6 hf
  subst e1; subst e2; subst e3; subst e4; subst e5; subst e6
  exact kretM C hP hD hS dX10_copy_102
set_option maxHeartbeats 4000000 in
set_option maxRecDepth 100000 in
theorem t_ND_copy_b97v11 {p : Program} {l : Launch} {e : Env} {s : State} {m : MethodId} {args : Array Value} {below : List Frame} {meth : Method} {c : Code} {D : va_G} {ct : Nat → ClassId} (C : CX p s m args meth c RX10 cX10_copy 8 (some .int) D ct) {A : Nat → Prop} (hA : ∀ q : Nat, s.heap.size ≤ q → A q) (a_this a_texts a_names a_pieces a_song a_fitting a_deal a_guesses a_wise a_spy a_sheets a_sheets0 a_sheets1 a_sheets2 a_sheets3 a_sheets0_items a_sheets1_items a_sheets2_items a_sheets3_items : Nat) (f_stale : Int32) (f_sheets0_form : Int32) (f_sheets0_size : Int32) (f_sheets1_form : Int32) (f_sheets1_size : Int32) (f_sheets2_form : Int32) (f_sheets2_size : Int32) (f_sheets3_form : Int32) (f_sheets3_size : Int32) (x1 : Int32) (x2 : Int32) (x3 : Int32) (x4 : Int32) (x5 : Int32) (r : Int32) (r_finding : Int32) (r_sheets0_items : Nat → Int32) (r_sheets1_items : Nat → Int32) (r_sheets2_items : Nat → Int32) (r_sheets3_items : Nat → Int32) (hs_1 : x1 = 1) (hs_3 : x3 = 0) : ∀ (f_finding : Int32) (f_sheets0_items : Nat → Int32) (f_sheets1_items : Nat → Int32) (f_sheets2_items : Nat → Int32) (f_sheets3_items : Nat → Int32), ND_copy_b97v11 f_sheets0_form f_sheets0_size f_sheets1_form f_sheets1_size f_sheets2_form f_sheets2_size f_sheets3_form f_sheets3_size x1 x2 x3 x4 x5 f_finding f_sheets0_items f_sheets1_items f_sheets2_items f_sheets3_items = some (r, r_finding, r_sheets0_items, r_sheets1_items, r_sheets2_items, r_sheets3_items) → ∀ (H : Heap) (locs : List Loc), va_P D vwCl (w_ND_copy ct a_this a_texts a_names a_pieces a_song a_fitting a_deal a_guesses a_wise a_spy a_sheets a_sheets0 a_sheets1 a_sheets2 a_sheets3 a_sheets0_items a_sheets1_items a_sheets2_items a_sheets3_items f_stale f_finding f_sheets0_form f_sheets0_size f_sheets0_items f_sheets1_form f_sheets1_size f_sheets1_items f_sheets2_form f_sheets2_size f_sheets2_items f_sheets3_form f_sheets3_size f_sheets3_items) H → va_D A (w_ND_copy ct a_this a_texts a_names a_pieces a_song a_fitting a_deal a_guesses a_wise a_spy a_sheets a_sheets0 a_sheets1 a_sheets2 a_sheets3 a_sheets0_items a_sheets1_items a_sheets2_items a_sheets3_items f_stale f_finding f_sheets0_form f_sheets0_size f_sheets0_items f_sheets1_form f_sheets1_size f_sheets1_items f_sheets2_form f_sheets2_size f_sheets2_items f_sheets3_form f_sheets3_size f_sheets3_items) → va_S A s.heap H locs → ∀ ls : Array Slot, lv_has ls 8 [(0, .ref a_this)] → W p l e RM_ND_copy s m args below meth c H locs 0 0 (MQ below (QM D (some (.int r)) (w_ND_copy ct a_this a_texts a_names a_pieces a_song a_fitting a_deal a_guesses a_wise a_spy a_sheets a_sheets0 a_sheets1 a_sheets2 a_sheets3 a_sheets0_items a_sheets1_items a_sheets2_items a_sheets3_items f_stale r_finding f_sheets0_form f_sheets0_size r_sheets0_items f_sheets1_form f_sheets1_size r_sheets1_items f_sheets2_form f_sheets2_size r_sheets2_items f_sheets3_form f_sheets3_size r_sheets3_items) A) args s 0 0 A) (F0 m 97 ls []) := by
  obtain ⟨hx, hb, hr, hml, hown, hts, hlk, hK, hN⟩ := id C
  intro f_finding f_sheets0_items f_sheets1_items f_sheets2_items f_sheets3_items hf H locs hP hD hS ls hl
  unfold ND_copy_b97v11 at hf
  refine lv_aload_n hx hb dX10_copy_97 rfl (lv_at hl 0 rfl) ?_
  refine lv_iconst (v := 2) hx hb dX10_copy_98 (by decide) ?_
  obtain ⟨v99, f_finding_99, hc99, hf⟩ := cb2_some hf
  refine kcMV (q0 := 0) (ci := 10) (As := [.int 2]) (rest := []) (st1 := [.int v99]) (wf := (w_ND_copy ct a_this a_texts a_names a_pieces a_song a_fitting a_deal a_guesses a_wise a_spy a_sheets a_sheets0 a_sheets1 a_sheets2 a_sheets3 a_sheets0_items a_sheets1_items a_sheets2_items a_sheets3_items f_stale f_finding_99 f_sheets0_form f_sheets0_size f_sheets0_items f_sheets1_form f_sheets1_size f_sheets1_items f_sheets2_form f_sheets2_size f_sheets2_items f_sheets3_form f_sheets3_size f_sheets3_items)) C (c_ND_found l D ct a_this a_texts a_names a_pieces a_song a_fitting a_deal a_guesses a_wise a_spy a_sheets f_stale f_finding 2 v99 f_finding_99 _ hc99) ⟨rfl, rfl⟩ yn_yX10_found tw_558 tw_10 tw_556 ⟨Nat.le_of_ble_eq_true rfl, Nat.le_of_ble_eq_true rfl⟩ ⟨Nat.zero_le _, Nat.zero_le _⟩ hP hD hS hA [0] [1, 2, 3, 4, 5, 6, 7, 8, 9] [9, 0, 1, 2, 3, 4, 5, 6, 7, 8] rfl rfl rfl rfl rfl (by decide) rfl rfl rfl rfl rfl rfl hl.1 rfl rfl (Nat.le_of_ble_eq_true rfl) dX10_copy_99 rfl (fun H locs hP hD hS => ?_)
  obtain ⟨e1, e2, e3, e4, e5, e6⟩ := ti6 hf
  subst e1; subst e2; subst e3; subst e4; subst e5; subst e6
  exact kretM C hP hD hS dX10_copy_102
set_option maxHeartbeats 4000000 in
set_option maxRecDepth 100000 in
theorem t_ND_copy_b97v12 {p : Program} {l : Launch} {e : Env} {s : State} {m : MethodId} {args : Array Value} {below : List Frame} {meth : Method} {c : Code} {D : va_G} {ct : Nat → ClassId} (C : CX p s m args meth c RX10 cX10_copy 8 (some .int) D ct) {A : Nat → Prop} (hA : ∀ q : Nat, s.heap.size ≤ q → A q) (a_this a_texts a_names a_pieces a_song a_fitting a_deal a_guesses a_wise a_spy a_sheets a_sheets0 a_sheets1 a_sheets2 a_sheets3 a_sheets0_items a_sheets1_items a_sheets2_items a_sheets3_items : Nat) (f_stale : Int32) (f_sheets0_form : Int32) (f_sheets0_size : Int32) (f_sheets1_form : Int32) (f_sheets1_size : Int32) (f_sheets2_form : Int32) (f_sheets2_size : Int32) (f_sheets3_form : Int32) (f_sheets3_size : Int32) (x1 : Int32) (x2 : Int32) (x3 : Int32) (x4 : Int32) (x5 : Int32) (r : Int32) (r_finding : Int32) (r_sheets0_items : Nat → Int32) (r_sheets1_items : Nat → Int32) (r_sheets2_items : Nat → Int32) (r_sheets3_items : Nat → Int32) (hs_1 : x1 = 0) (hs_3 : x3 = 3) : ∀ (f_finding : Int32) (f_sheets0_items : Nat → Int32) (f_sheets1_items : Nat → Int32) (f_sheets2_items : Nat → Int32) (f_sheets3_items : Nat → Int32), ND_copy_b97v12 f_sheets0_form f_sheets0_size f_sheets1_form f_sheets1_size f_sheets2_form f_sheets2_size f_sheets3_form f_sheets3_size x1 x2 x3 x4 x5 f_finding f_sheets0_items f_sheets1_items f_sheets2_items f_sheets3_items = some (r, r_finding, r_sheets0_items, r_sheets1_items, r_sheets2_items, r_sheets3_items) → ∀ (H : Heap) (locs : List Loc), va_P D vwCl (w_ND_copy ct a_this a_texts a_names a_pieces a_song a_fitting a_deal a_guesses a_wise a_spy a_sheets a_sheets0 a_sheets1 a_sheets2 a_sheets3 a_sheets0_items a_sheets1_items a_sheets2_items a_sheets3_items f_stale f_finding f_sheets0_form f_sheets0_size f_sheets0_items f_sheets1_form f_sheets1_size f_sheets1_items f_sheets2_form f_sheets2_size f_sheets2_items f_sheets3_form f_sheets3_size f_sheets3_items) H → va_D A (w_ND_copy ct a_this a_texts a_names a_pieces a_song a_fitting a_deal a_guesses a_wise a_spy a_sheets a_sheets0 a_sheets1 a_sheets2 a_sheets3 a_sheets0_items a_sheets1_items a_sheets2_items a_sheets3_items f_stale f_finding f_sheets0_form f_sheets0_size f_sheets0_items f_sheets1_form f_sheets1_size f_sheets1_items f_sheets2_form f_sheets2_size f_sheets2_items f_sheets3_form f_sheets3_size f_sheets3_items) → va_S A s.heap H locs → ∀ ls : Array Slot, lv_has ls 8 [(0, .ref a_this)] → W p l e RM_ND_copy s m args below meth c H locs 0 0 (MQ below (QM D (some (.int r)) (w_ND_copy ct a_this a_texts a_names a_pieces a_song a_fitting a_deal a_guesses a_wise a_spy a_sheets a_sheets0 a_sheets1 a_sheets2 a_sheets3 a_sheets0_items a_sheets1_items a_sheets2_items a_sheets3_items f_stale r_finding f_sheets0_form f_sheets0_size r_sheets0_items f_sheets1_form f_sheets1_size r_sheets1_items f_sheets2_form f_sheets2_size r_sheets2_items f_sheets3_form f_sheets3_size r_sheets3_items) A) args s 0 0 A) (F0 m 97 ls []) := by
  obtain ⟨hx, hb, hr, hml, hown, hts, hlk, hK, hN⟩ := id C
  intro f_finding f_sheets0_items f_sheets1_items f_sheets2_items f_sheets3_items hf H locs hP hD hS ls hl
  unfold ND_copy_b97v12 at hf
  refine lv_aload_n hx hb dX10_copy_97 rfl (lv_at hl 0 rfl) ?_
  refine lv_iconst (v := 2) hx hb dX10_copy_98 (by decide) ?_
  obtain ⟨v99, f_finding_99, hc99, hf⟩ := cb2_some hf
  refine kcMV (q0 := 0) (ci := 10) (As := [.int 2]) (rest := []) (st1 := [.int v99]) (wf := (w_ND_copy ct a_this a_texts a_names a_pieces a_song a_fitting a_deal a_guesses a_wise a_spy a_sheets a_sheets0 a_sheets1 a_sheets2 a_sheets3 a_sheets0_items a_sheets1_items a_sheets2_items a_sheets3_items f_stale f_finding_99 f_sheets0_form f_sheets0_size f_sheets0_items f_sheets1_form f_sheets1_size f_sheets1_items f_sheets2_form f_sheets2_size f_sheets2_items f_sheets3_form f_sheets3_size f_sheets3_items)) C (c_ND_found l D ct a_this a_texts a_names a_pieces a_song a_fitting a_deal a_guesses a_wise a_spy a_sheets f_stale f_finding 2 v99 f_finding_99 _ hc99) ⟨rfl, rfl⟩ yn_yX10_found tw_558 tw_10 tw_556 ⟨Nat.le_of_ble_eq_true rfl, Nat.le_of_ble_eq_true rfl⟩ ⟨Nat.zero_le _, Nat.zero_le _⟩ hP hD hS hA [0] [1, 2, 3, 4, 5, 6, 7, 8, 9] [9, 0, 1, 2, 3, 4, 5, 6, 7, 8] rfl rfl rfl rfl rfl (by decide) rfl rfl rfl rfl rfl rfl hl.1 rfl rfl (Nat.le_of_ble_eq_true rfl) dX10_copy_99 rfl (fun H locs hP hD hS => ?_)
  obtain ⟨e1, e2, e3, e4, e5, e6⟩ := ti6 hf
  subst e1; subst e2; subst e3; subst e4; subst e5; subst e6
  exact kretM C hP hD hS dX10_copy_102
set_option maxHeartbeats 4000000 in
set_option maxRecDepth 100000 in
theorem t_ND_copy_b97v13 {p : Program} {l : Launch} {e : Env} {s : State} {m : MethodId} {args : Array Value} {below : List Frame} {meth : Method} {c : Code} {D : va_G} {ct : Nat → ClassId} (C : CX p s m args meth c RX10 cX10_copy 8 (some .int) D ct) {A : Nat → Prop} (hA : ∀ q : Nat, s.heap.size ≤ q → A q) (a_this a_texts a_names a_pieces a_song a_fitting a_deal a_guesses a_wise a_spy a_sheets a_sheets0 a_sheets1 a_sheets2 a_sheets3 a_sheets0_items a_sheets1_items a_sheets2_items a_sheets3_items : Nat) (f_stale : Int32) (f_sheets0_form : Int32) (f_sheets0_size : Int32) (f_sheets1_form : Int32) (f_sheets1_size : Int32) (f_sheets2_form : Int32) (f_sheets2_size : Int32) (f_sheets3_form : Int32) (f_sheets3_size : Int32) (x1 : Int32) (x2 : Int32) (x3 : Int32) (x4 : Int32) (x5 : Int32) (r : Int32) (r_finding : Int32) (r_sheets0_items : Nat → Int32) (r_sheets1_items : Nat → Int32) (r_sheets2_items : Nat → Int32) (r_sheets3_items : Nat → Int32) (hs_1 : x1 = 0) (hs_3 : x3 = 2) : ∀ (f_finding : Int32) (f_sheets0_items : Nat → Int32) (f_sheets1_items : Nat → Int32) (f_sheets2_items : Nat → Int32) (f_sheets3_items : Nat → Int32), ND_copy_b97v13 f_sheets0_form f_sheets0_size f_sheets1_form f_sheets1_size f_sheets2_form f_sheets2_size f_sheets3_form f_sheets3_size x1 x2 x3 x4 x5 f_finding f_sheets0_items f_sheets1_items f_sheets2_items f_sheets3_items = some (r, r_finding, r_sheets0_items, r_sheets1_items, r_sheets2_items, r_sheets3_items) → ∀ (H : Heap) (locs : List Loc), va_P D vwCl (w_ND_copy ct a_this a_texts a_names a_pieces a_song a_fitting a_deal a_guesses a_wise a_spy a_sheets a_sheets0 a_sheets1 a_sheets2 a_sheets3 a_sheets0_items a_sheets1_items a_sheets2_items a_sheets3_items f_stale f_finding f_sheets0_form f_sheets0_size f_sheets0_items f_sheets1_form f_sheets1_size f_sheets1_items f_sheets2_form f_sheets2_size f_sheets2_items f_sheets3_form f_sheets3_size f_sheets3_items) H → va_D A (w_ND_copy ct a_this a_texts a_names a_pieces a_song a_fitting a_deal a_guesses a_wise a_spy a_sheets a_sheets0 a_sheets1 a_sheets2 a_sheets3 a_sheets0_items a_sheets1_items a_sheets2_items a_sheets3_items f_stale f_finding f_sheets0_form f_sheets0_size f_sheets0_items f_sheets1_form f_sheets1_size f_sheets1_items f_sheets2_form f_sheets2_size f_sheets2_items f_sheets3_form f_sheets3_size f_sheets3_items) → va_S A s.heap H locs → ∀ ls : Array Slot, lv_has ls 8 [(0, .ref a_this)] → W p l e RM_ND_copy s m args below meth c H locs 0 0 (MQ below (QM D (some (.int r)) (w_ND_copy ct a_this a_texts a_names a_pieces a_song a_fitting a_deal a_guesses a_wise a_spy a_sheets a_sheets0 a_sheets1 a_sheets2 a_sheets3 a_sheets0_items a_sheets1_items a_sheets2_items a_sheets3_items f_stale r_finding f_sheets0_form f_sheets0_size r_sheets0_items f_sheets1_form f_sheets1_size r_sheets1_items f_sheets2_form f_sheets2_size r_sheets2_items f_sheets3_form f_sheets3_size r_sheets3_items) A) args s 0 0 A) (F0 m 97 ls []) := by
  obtain ⟨hx, hb, hr, hml, hown, hts, hlk, hK, hN⟩ := id C
  intro f_finding f_sheets0_items f_sheets1_items f_sheets2_items f_sheets3_items hf H locs hP hD hS ls hl
  unfold ND_copy_b97v13 at hf
  refine lv_aload_n hx hb dX10_copy_97 rfl (lv_at hl 0 rfl) ?_
  refine lv_iconst (v := 2) hx hb dX10_copy_98 (by decide) ?_
  obtain ⟨v99, f_finding_99, hc99, hf⟩ := cb2_some hf
  refine kcMV (q0 := 0) (ci := 10) (As := [.int 2]) (rest := []) (st1 := [.int v99]) (wf := (w_ND_copy ct a_this a_texts a_names a_pieces a_song a_fitting a_deal a_guesses a_wise a_spy a_sheets a_sheets0 a_sheets1 a_sheets2 a_sheets3 a_sheets0_items a_sheets1_items a_sheets2_items a_sheets3_items f_stale f_finding_99 f_sheets0_form f_sheets0_size f_sheets0_items f_sheets1_form f_sheets1_size f_sheets1_items f_sheets2_form f_sheets2_size f_sheets2_items f_sheets3_form f_sheets3_size f_sheets3_items)) C (c_ND_found l D ct a_this a_texts a_names a_pieces a_song a_fitting a_deal a_guesses a_wise a_spy a_sheets f_stale f_finding 2 v99 f_finding_99 _ hc99) ⟨rfl, rfl⟩ yn_yX10_found tw_558 tw_10 tw_556 ⟨Nat.le_of_ble_eq_true rfl, Nat.le_of_ble_eq_true rfl⟩ ⟨Nat.zero_le _, Nat.zero_le _⟩ hP hD hS hA [0] [1, 2, 3, 4, 5, 6, 7, 8, 9] [9, 0, 1, 2, 3, 4, 5, 6, 7, 8] rfl rfl rfl rfl rfl (by decide) rfl rfl rfl rfl rfl rfl hl.1 rfl rfl (Nat.le_of_ble_eq_true rfl) dX10_copy_99 rfl (fun H locs hP hD hS => ?_)
  obtain ⟨e1, e2, e3, e4, e5, e6⟩ := ti6 hf
  subst e1; subst e2; subst e3; subst e4; subst e5; subst e6
  exact kretM C hP hD hS dX10_copy_102
set_option maxHeartbeats 4000000 in
set_option maxRecDepth 100000 in
theorem t_ND_copy_b97v14 {p : Program} {l : Launch} {e : Env} {s : State} {m : MethodId} {args : Array Value} {below : List Frame} {meth : Method} {c : Code} {D : va_G} {ct : Nat → ClassId} (C : CX p s m args meth c RX10 cX10_copy 8 (some .int) D ct) {A : Nat → Prop} (hA : ∀ q : Nat, s.heap.size ≤ q → A q) (a_this a_texts a_names a_pieces a_song a_fitting a_deal a_guesses a_wise a_spy a_sheets a_sheets0 a_sheets1 a_sheets2 a_sheets3 a_sheets0_items a_sheets1_items a_sheets2_items a_sheets3_items : Nat) (f_stale : Int32) (f_sheets0_form : Int32) (f_sheets0_size : Int32) (f_sheets1_form : Int32) (f_sheets1_size : Int32) (f_sheets2_form : Int32) (f_sheets2_size : Int32) (f_sheets3_form : Int32) (f_sheets3_size : Int32) (x1 : Int32) (x2 : Int32) (x3 : Int32) (x4 : Int32) (x5 : Int32) (r : Int32) (r_finding : Int32) (r_sheets0_items : Nat → Int32) (r_sheets1_items : Nat → Int32) (r_sheets2_items : Nat → Int32) (r_sheets3_items : Nat → Int32) (hs_1 : x1 = 0) (hs_3 : x3 = 1) : ∀ (f_finding : Int32) (f_sheets0_items : Nat → Int32) (f_sheets1_items : Nat → Int32) (f_sheets2_items : Nat → Int32) (f_sheets3_items : Nat → Int32), ND_copy_b97v14 f_sheets0_form f_sheets0_size f_sheets1_form f_sheets1_size f_sheets2_form f_sheets2_size f_sheets3_form f_sheets3_size x1 x2 x3 x4 x5 f_finding f_sheets0_items f_sheets1_items f_sheets2_items f_sheets3_items = some (r, r_finding, r_sheets0_items, r_sheets1_items, r_sheets2_items, r_sheets3_items) → ∀ (H : Heap) (locs : List Loc), va_P D vwCl (w_ND_copy ct a_this a_texts a_names a_pieces a_song a_fitting a_deal a_guesses a_wise a_spy a_sheets a_sheets0 a_sheets1 a_sheets2 a_sheets3 a_sheets0_items a_sheets1_items a_sheets2_items a_sheets3_items f_stale f_finding f_sheets0_form f_sheets0_size f_sheets0_items f_sheets1_form f_sheets1_size f_sheets1_items f_sheets2_form f_sheets2_size f_sheets2_items f_sheets3_form f_sheets3_size f_sheets3_items) H → va_D A (w_ND_copy ct a_this a_texts a_names a_pieces a_song a_fitting a_deal a_guesses a_wise a_spy a_sheets a_sheets0 a_sheets1 a_sheets2 a_sheets3 a_sheets0_items a_sheets1_items a_sheets2_items a_sheets3_items f_stale f_finding f_sheets0_form f_sheets0_size f_sheets0_items f_sheets1_form f_sheets1_size f_sheets1_items f_sheets2_form f_sheets2_size f_sheets2_items f_sheets3_form f_sheets3_size f_sheets3_items) → va_S A s.heap H locs → ∀ ls : Array Slot, lv_has ls 8 [(0, .ref a_this)] → W p l e RM_ND_copy s m args below meth c H locs 0 0 (MQ below (QM D (some (.int r)) (w_ND_copy ct a_this a_texts a_names a_pieces a_song a_fitting a_deal a_guesses a_wise a_spy a_sheets a_sheets0 a_sheets1 a_sheets2 a_sheets3 a_sheets0_items a_sheets1_items a_sheets2_items a_sheets3_items f_stale r_finding f_sheets0_form f_sheets0_size r_sheets0_items f_sheets1_form f_sheets1_size r_sheets1_items f_sheets2_form f_sheets2_size r_sheets2_items f_sheets3_form f_sheets3_size r_sheets3_items) A) args s 0 0 A) (F0 m 97 ls []) := by
  obtain ⟨hx, hb, hr, hml, hown, hts, hlk, hK, hN⟩ := id C
  intro f_finding f_sheets0_items f_sheets1_items f_sheets2_items f_sheets3_items hf H locs hP hD hS ls hl
  unfold ND_copy_b97v14 at hf
  refine lv_aload_n hx hb dX10_copy_97 rfl (lv_at hl 0 rfl) ?_
  refine lv_iconst (v := 2) hx hb dX10_copy_98 (by decide) ?_
  obtain ⟨v99, f_finding_99, hc99, hf⟩ := cb2_some hf
  refine kcMV (q0 := 0) (ci := 10) (As := [.int 2]) (rest := []) (st1 := [.int v99]) (wf := (w_ND_copy ct a_this a_texts a_names a_pieces a_song a_fitting a_deal a_guesses a_wise a_spy a_sheets a_sheets0 a_sheets1 a_sheets2 a_sheets3 a_sheets0_items a_sheets1_items a_sheets2_items a_sheets3_items f_stale f_finding_99 f_sheets0_form f_sheets0_size f_sheets0_items f_sheets1_form f_sheets1_size f_sheets1_items f_sheets2_form f_sheets2_size f_sheets2_items f_sheets3_form f_sheets3_size f_sheets3_items)) C (c_ND_found l D ct a_this a_texts a_names a_pieces a_song a_fitting a_deal a_guesses a_wise a_spy a_sheets f_stale f_finding 2 v99 f_finding_99 _ hc99) ⟨rfl, rfl⟩ yn_yX10_found tw_558 tw_10 tw_556 ⟨Nat.le_of_ble_eq_true rfl, Nat.le_of_ble_eq_true rfl⟩ ⟨Nat.zero_le _, Nat.zero_le _⟩ hP hD hS hA [0] [1, 2, 3, 4, 5, 6, 7, 8, 9] [9, 0, 1, 2, 3, 4, 5, 6, 7, 8] rfl rfl rfl rfl rfl (by decide) rfl rfl rfl rfl rfl rfl hl.1 rfl rfl (Nat.le_of_ble_eq_true rfl) dX10_copy_99 rfl (fun H locs hP hD hS => ?_)
  obtain ⟨e1, e2, e3, e4, e5, e6⟩ := ti6 hf
  subst e1; subst e2; subst e3; subst e4; subst e5; subst e6
  exact kretM C hP hD hS dX10_copy_102
set_option maxHeartbeats 4000000 in
set_option maxRecDepth 100000 in
theorem t_ND_copy_b97v15 {p : Program} {l : Launch} {e : Env} {s : State} {m : MethodId} {args : Array Value} {below : List Frame} {meth : Method} {c : Code} {D : va_G} {ct : Nat → ClassId} (C : CX p s m args meth c RX10 cX10_copy 8 (some .int) D ct) {A : Nat → Prop} (hA : ∀ q : Nat, s.heap.size ≤ q → A q) (a_this a_texts a_names a_pieces a_song a_fitting a_deal a_guesses a_wise a_spy a_sheets a_sheets0 a_sheets1 a_sheets2 a_sheets3 a_sheets0_items a_sheets1_items a_sheets2_items a_sheets3_items : Nat) (f_stale : Int32) (f_sheets0_form : Int32) (f_sheets0_size : Int32) (f_sheets1_form : Int32) (f_sheets1_size : Int32) (f_sheets2_form : Int32) (f_sheets2_size : Int32) (f_sheets3_form : Int32) (f_sheets3_size : Int32) (x1 : Int32) (x2 : Int32) (x3 : Int32) (x4 : Int32) (x5 : Int32) (r : Int32) (r_finding : Int32) (r_sheets0_items : Nat → Int32) (r_sheets1_items : Nat → Int32) (r_sheets2_items : Nat → Int32) (r_sheets3_items : Nat → Int32) (hs_1 : x1 = 0) (hs_3 : x3 = 0) : ∀ (f_finding : Int32) (f_sheets0_items : Nat → Int32) (f_sheets1_items : Nat → Int32) (f_sheets2_items : Nat → Int32) (f_sheets3_items : Nat → Int32), ND_copy_b97v15 f_sheets0_form f_sheets0_size f_sheets1_form f_sheets1_size f_sheets2_form f_sheets2_size f_sheets3_form f_sheets3_size x1 x2 x3 x4 x5 f_finding f_sheets0_items f_sheets1_items f_sheets2_items f_sheets3_items = some (r, r_finding, r_sheets0_items, r_sheets1_items, r_sheets2_items, r_sheets3_items) → ∀ (H : Heap) (locs : List Loc), va_P D vwCl (w_ND_copy ct a_this a_texts a_names a_pieces a_song a_fitting a_deal a_guesses a_wise a_spy a_sheets a_sheets0 a_sheets1 a_sheets2 a_sheets3 a_sheets0_items a_sheets1_items a_sheets2_items a_sheets3_items f_stale f_finding f_sheets0_form f_sheets0_size f_sheets0_items f_sheets1_form f_sheets1_size f_sheets1_items f_sheets2_form f_sheets2_size f_sheets2_items f_sheets3_form f_sheets3_size f_sheets3_items) H → va_D A (w_ND_copy ct a_this a_texts a_names a_pieces a_song a_fitting a_deal a_guesses a_wise a_spy a_sheets a_sheets0 a_sheets1 a_sheets2 a_sheets3 a_sheets0_items a_sheets1_items a_sheets2_items a_sheets3_items f_stale f_finding f_sheets0_form f_sheets0_size f_sheets0_items f_sheets1_form f_sheets1_size f_sheets1_items f_sheets2_form f_sheets2_size f_sheets2_items f_sheets3_form f_sheets3_size f_sheets3_items) → va_S A s.heap H locs → ∀ ls : Array Slot, lv_has ls 8 [(0, .ref a_this)] → W p l e RM_ND_copy s m args below meth c H locs 0 0 (MQ below (QM D (some (.int r)) (w_ND_copy ct a_this a_texts a_names a_pieces a_song a_fitting a_deal a_guesses a_wise a_spy a_sheets a_sheets0 a_sheets1 a_sheets2 a_sheets3 a_sheets0_items a_sheets1_items a_sheets2_items a_sheets3_items f_stale r_finding f_sheets0_form f_sheets0_size r_sheets0_items f_sheets1_form f_sheets1_size r_sheets1_items f_sheets2_form f_sheets2_size r_sheets2_items f_sheets3_form f_sheets3_size r_sheets3_items) A) args s 0 0 A) (F0 m 97 ls []) := by
  obtain ⟨hx, hb, hr, hml, hown, hts, hlk, hK, hN⟩ := id C
  intro f_finding f_sheets0_items f_sheets1_items f_sheets2_items f_sheets3_items hf H locs hP hD hS ls hl
  unfold ND_copy_b97v15 at hf
  refine lv_aload_n hx hb dX10_copy_97 rfl (lv_at hl 0 rfl) ?_
  refine lv_iconst (v := 2) hx hb dX10_copy_98 (by decide) ?_
  obtain ⟨v99, f_finding_99, hc99, hf⟩ := cb2_some hf
  refine kcMV (q0 := 0) (ci := 10) (As := [.int 2]) (rest := []) (st1 := [.int v99]) (wf := (w_ND_copy ct a_this a_texts a_names a_pieces a_song a_fitting a_deal a_guesses a_wise a_spy a_sheets a_sheets0 a_sheets1 a_sheets2 a_sheets3 a_sheets0_items a_sheets1_items a_sheets2_items a_sheets3_items f_stale f_finding_99 f_sheets0_form f_sheets0_size f_sheets0_items f_sheets1_form f_sheets1_size f_sheets1_items f_sheets2_form f_sheets2_size f_sheets2_items f_sheets3_form f_sheets3_size f_sheets3_items)) C (c_ND_found l D ct a_this a_texts a_names a_pieces a_song a_fitting a_deal a_guesses a_wise a_spy a_sheets f_stale f_finding 2 v99 f_finding_99 _ hc99) ⟨rfl, rfl⟩ yn_yX10_found tw_558 tw_10 tw_556 ⟨Nat.le_of_ble_eq_true rfl, Nat.le_of_ble_eq_true rfl⟩ ⟨Nat.zero_le _, Nat.zero_le _⟩ hP hD hS hA [0] [1, 2, 3, 4, 5, 6, 7, 8, 9] [9, 0, 1, 2, 3, 4, 5, 6, 7, 8] rfl rfl rfl rfl rfl (by decide) rfl rfl rfl rfl rfl rfl hl.1 rfl rfl (Nat.le_of_ble_eq_true rfl) dX10_copy_99 rfl (fun H locs hP hD hS => ?_)
  obtain ⟨e1, e2, e3, e4, e5, e6⟩ := ti6 hf
  subst e1; subst e2; subst e3; subst e4; subst e5; subst e6
  exact kretM C hP hD hS dX10_copy_102
set_option maxHeartbeats 4000000 in
set_option maxRecDepth 100000 in
theorem t_ND_copy_b49v0 {p : Program} {l : Launch} {e : Env} {s : State} {m : MethodId} {args : Array Value} {below : List Frame} {meth : Method} {c : Code} {D : va_G} {ct : Nat → ClassId} (C : CX p s m args meth c RX10 cX10_copy 8 (some .int) D ct) {A : Nat → Prop} (hA : ∀ q : Nat, s.heap.size ≤ q → A q) (a_this a_texts a_names a_pieces a_song a_fitting a_deal a_guesses a_wise a_spy a_sheets a_sheets0 a_sheets1 a_sheets2 a_sheets3 a_sheets0_items a_sheets1_items a_sheets2_items a_sheets3_items : Nat) (f_stale : Int32) (f_sheets0_form : Int32) (f_sheets0_size : Int32) (f_sheets1_form : Int32) (f_sheets1_size : Int32) (f_sheets2_form : Int32) (f_sheets2_size : Int32) (f_sheets3_form : Int32) (f_sheets3_size : Int32) (x1 : Int32) (x2 : Int32) (x3 : Int32) (x4 : Int32) (x5 : Int32) (r : Int32) (r_finding : Int32) (r_sheets0_items : Nat → Int32) (r_sheets1_items : Nat → Int32) (r_sheets2_items : Nat → Int32) (r_sheets3_items : Nat → Int32) (hs_1 : x1 = 3) (hs_3 : x3 = 3) : ∀ (f_finding : Int32) (f_sheets0_items : Nat → Int32) (f_sheets1_items : Nat → Int32) (f_sheets2_items : Nat → Int32) (f_sheets3_items : Nat → Int32), ND_copy_b49v0 f_sheets0_form f_sheets0_size f_sheets1_form f_sheets1_size f_sheets2_form f_sheets2_size f_sheets3_form f_sheets3_size x1 x2 x3 x4 x5 f_finding f_sheets0_items f_sheets1_items f_sheets2_items f_sheets3_items = some (r, r_finding, r_sheets0_items, r_sheets1_items, r_sheets2_items, r_sheets3_items) → ∀ (H : Heap) (locs : List Loc), va_P D vwCl (w_ND_copy ct a_this a_texts a_names a_pieces a_song a_fitting a_deal a_guesses a_wise a_spy a_sheets a_sheets0 a_sheets1 a_sheets2 a_sheets3 a_sheets0_items a_sheets1_items a_sheets2_items a_sheets3_items f_stale f_finding f_sheets0_form f_sheets0_size f_sheets0_items f_sheets1_form f_sheets1_size f_sheets1_items f_sheets2_form f_sheets2_size f_sheets2_items f_sheets3_form f_sheets3_size f_sheets3_items) H → va_D A (w_ND_copy ct a_this a_texts a_names a_pieces a_song a_fitting a_deal a_guesses a_wise a_spy a_sheets a_sheets0 a_sheets1 a_sheets2 a_sheets3 a_sheets0_items a_sheets1_items a_sheets2_items a_sheets3_items f_stale f_finding f_sheets0_form f_sheets0_size f_sheets0_items f_sheets1_form f_sheets1_size f_sheets1_items f_sheets2_form f_sheets2_size f_sheets2_items f_sheets3_form f_sheets3_size f_sheets3_items) → va_S A s.heap H locs → ∀ ls : Array Slot, lv_has ls 8 [(0, .ref a_this)] → W p l e RM_ND_copy s m args below meth c H locs 0 0 (MQ below (QM D (some (.int r)) (w_ND_copy ct a_this a_texts a_names a_pieces a_song a_fitting a_deal a_guesses a_wise a_spy a_sheets a_sheets0 a_sheets1 a_sheets2 a_sheets3 a_sheets0_items a_sheets1_items a_sheets2_items a_sheets3_items f_stale r_finding f_sheets0_form f_sheets0_size r_sheets0_items f_sheets1_form f_sheets1_size r_sheets1_items f_sheets2_form f_sheets2_size r_sheets2_items f_sheets3_form f_sheets3_size r_sheets3_items) A) args s 0 0 A) (F0 m 49 ls []) := by
  obtain ⟨hx, hb, hr, hml, hown, hts, hlk, hK, hN⟩ := id C
  intro f_finding f_sheets0_items f_sheets1_items f_sheets2_items f_sheets3_items hf H locs hP hD hS ls hl
  unfold ND_copy_b49v0 at hf
  refine lv_aload_n hx hb dX10_copy_49 rfl (lv_at hl 0 rfl) ?_
  refine lv_iconst (v := 1) hx hb dX10_copy_50 (by decide) ?_
  obtain ⟨v51, f_finding_51, hc51, hf⟩ := cb2_some hf
  refine kcMV (q0 := 0) (ci := 10) (As := [.int 1]) (rest := []) (st1 := [.int v51]) (wf := (w_ND_copy ct a_this a_texts a_names a_pieces a_song a_fitting a_deal a_guesses a_wise a_spy a_sheets a_sheets0 a_sheets1 a_sheets2 a_sheets3 a_sheets0_items a_sheets1_items a_sheets2_items a_sheets3_items f_stale f_finding_51 f_sheets0_form f_sheets0_size f_sheets0_items f_sheets1_form f_sheets1_size f_sheets1_items f_sheets2_form f_sheets2_size f_sheets2_items f_sheets3_form f_sheets3_size f_sheets3_items)) C (c_ND_found l D ct a_this a_texts a_names a_pieces a_song a_fitting a_deal a_guesses a_wise a_spy a_sheets f_stale f_finding 1 v51 f_finding_51 _ hc51) ⟨rfl, rfl⟩ yn_yX10_found tw_558 tw_10 tw_556 ⟨Nat.le_of_ble_eq_true rfl, Nat.le_of_ble_eq_true rfl⟩ ⟨Nat.zero_le _, Nat.zero_le _⟩ hP hD hS hA [0] [1, 2, 3, 4, 5, 6, 7, 8, 9] [9, 0, 1, 2, 3, 4, 5, 6, 7, 8] rfl rfl rfl rfl rfl (by decide) rfl rfl rfl rfl rfl rfl hl.1 rfl rfl (Nat.le_of_ble_eq_true rfl) dX10_copy_51 rfl (fun H locs hP hD hS => ?_)
  obtain ⟨e1, e2, e3, e4, e5, e6⟩ := ti6 hf
  subst e1; subst e2; subst e3; subst e4; subst e5; subst e6
  exact kretM C hP hD hS dX10_copy_54
set_option maxHeartbeats 4000000 in
set_option maxRecDepth 100000 in
theorem t_ND_copy_b49v1 {p : Program} {l : Launch} {e : Env} {s : State} {m : MethodId} {args : Array Value} {below : List Frame} {meth : Method} {c : Code} {D : va_G} {ct : Nat → ClassId} (C : CX p s m args meth c RX10 cX10_copy 8 (some .int) D ct) {A : Nat → Prop} (hA : ∀ q : Nat, s.heap.size ≤ q → A q) (a_this a_texts a_names a_pieces a_song a_fitting a_deal a_guesses a_wise a_spy a_sheets a_sheets0 a_sheets1 a_sheets2 a_sheets3 a_sheets0_items a_sheets1_items a_sheets2_items a_sheets3_items : Nat) (f_stale : Int32) (f_sheets0_form : Int32) (f_sheets0_size : Int32) (f_sheets1_form : Int32) (f_sheets1_size : Int32) (f_sheets2_form : Int32) (f_sheets2_size : Int32) (f_sheets3_form : Int32) (f_sheets3_size : Int32) (x1 : Int32) (x2 : Int32) (x3 : Int32) (x4 : Int32) (x5 : Int32) (r : Int32) (r_finding : Int32) (r_sheets0_items : Nat → Int32) (r_sheets1_items : Nat → Int32) (r_sheets2_items : Nat → Int32) (r_sheets3_items : Nat → Int32) (hs_1 : x1 = 3) (hs_3 : x3 = 2) : ∀ (f_finding : Int32) (f_sheets0_items : Nat → Int32) (f_sheets1_items : Nat → Int32) (f_sheets2_items : Nat → Int32) (f_sheets3_items : Nat → Int32), ND_copy_b49v1 f_sheets0_form f_sheets0_size f_sheets1_form f_sheets1_size f_sheets2_form f_sheets2_size f_sheets3_form f_sheets3_size x1 x2 x3 x4 x5 f_finding f_sheets0_items f_sheets1_items f_sheets2_items f_sheets3_items = some (r, r_finding, r_sheets0_items, r_sheets1_items, r_sheets2_items, r_sheets3_items) → ∀ (H : Heap) (locs : List Loc), va_P D vwCl (w_ND_copy ct a_this a_texts a_names a_pieces a_song a_fitting a_deal a_guesses a_wise a_spy a_sheets a_sheets0 a_sheets1 a_sheets2 a_sheets3 a_sheets0_items a_sheets1_items a_sheets2_items a_sheets3_items f_stale f_finding f_sheets0_form f_sheets0_size f_sheets0_items f_sheets1_form f_sheets1_size f_sheets1_items f_sheets2_form f_sheets2_size f_sheets2_items f_sheets3_form f_sheets3_size f_sheets3_items) H → va_D A (w_ND_copy ct a_this a_texts a_names a_pieces a_song a_fitting a_deal a_guesses a_wise a_spy a_sheets a_sheets0 a_sheets1 a_sheets2 a_sheets3 a_sheets0_items a_sheets1_items a_sheets2_items a_sheets3_items f_stale f_finding f_sheets0_form f_sheets0_size f_sheets0_items f_sheets1_form f_sheets1_size f_sheets1_items f_sheets2_form f_sheets2_size f_sheets2_items f_sheets3_form f_sheets3_size f_sheets3_items) → va_S A s.heap H locs → ∀ ls : Array Slot, lv_has ls 8 [(0, .ref a_this)] → W p l e RM_ND_copy s m args below meth c H locs 0 0 (MQ below (QM D (some (.int r)) (w_ND_copy ct a_this a_texts a_names a_pieces a_song a_fitting a_deal a_guesses a_wise a_spy a_sheets a_sheets0 a_sheets1 a_sheets2 a_sheets3 a_sheets0_items a_sheets1_items a_sheets2_items a_sheets3_items f_stale r_finding f_sheets0_form f_sheets0_size r_sheets0_items f_sheets1_form f_sheets1_size r_sheets1_items f_sheets2_form f_sheets2_size r_sheets2_items f_sheets3_form f_sheets3_size r_sheets3_items) A) args s 0 0 A) (F0 m 49 ls []) := by
  obtain ⟨hx, hb, hr, hml, hown, hts, hlk, hK, hN⟩ := id C
  intro f_finding f_sheets0_items f_sheets1_items f_sheets2_items f_sheets3_items hf H locs hP hD hS ls hl
  unfold ND_copy_b49v1 at hf
  refine lv_aload_n hx hb dX10_copy_49 rfl (lv_at hl 0 rfl) ?_
  refine lv_iconst (v := 1) hx hb dX10_copy_50 (by decide) ?_
  obtain ⟨v51, f_finding_51, hc51, hf⟩ := cb2_some hf
  refine kcMV (q0 := 0) (ci := 10) (As := [.int 1]) (rest := []) (st1 := [.int v51]) (wf := (w_ND_copy ct a_this a_texts a_names a_pieces a_song a_fitting a_deal a_guesses a_wise a_spy a_sheets a_sheets0 a_sheets1 a_sheets2 a_sheets3 a_sheets0_items a_sheets1_items a_sheets2_items a_sheets3_items f_stale f_finding_51 f_sheets0_form f_sheets0_size f_sheets0_items f_sheets1_form f_sheets1_size f_sheets1_items f_sheets2_form f_sheets2_size f_sheets2_items f_sheets3_form f_sheets3_size f_sheets3_items)) C (c_ND_found l D ct a_this a_texts a_names a_pieces a_song a_fitting a_deal a_guesses a_wise a_spy a_sheets f_stale f_finding 1 v51 f_finding_51 _ hc51) ⟨rfl, rfl⟩ yn_yX10_found tw_558 tw_10 tw_556 ⟨Nat.le_of_ble_eq_true rfl, Nat.le_of_ble_eq_true rfl⟩ ⟨Nat.zero_le _, Nat.zero_le _⟩ hP hD hS hA [0] [1, 2, 3, 4, 5, 6, 7, 8, 9] [9, 0, 1, 2, 3, 4, 5, 6, 7, 8] rfl rfl rfl rfl rfl (by decide) rfl rfl rfl rfl rfl rfl hl.1 rfl rfl (Nat.le_of_ble_eq_true rfl) dX10_copy_51 rfl (fun H locs hP hD hS => ?_)
  obtain ⟨e1, e2, e3, e4, e5, e6⟩ := ti6 hf
  subst e1; subst e2; subst e3; subst e4; subst e5; subst e6
  exact kretM C hP hD hS dX10_copy_54
set_option maxHeartbeats 4000000 in
set_option maxRecDepth 100000 in
theorem t_ND_copy_b49v2 {p : Program} {l : Launch} {e : Env} {s : State} {m : MethodId} {args : Array Value} {below : List Frame} {meth : Method} {c : Code} {D : va_G} {ct : Nat → ClassId} (C : CX p s m args meth c RX10 cX10_copy 8 (some .int) D ct) {A : Nat → Prop} (hA : ∀ q : Nat, s.heap.size ≤ q → A q) (a_this a_texts a_names a_pieces a_song a_fitting a_deal a_guesses a_wise a_spy a_sheets a_sheets0 a_sheets1 a_sheets2 a_sheets3 a_sheets0_items a_sheets1_items a_sheets2_items a_sheets3_items : Nat) (f_stale : Int32) (f_sheets0_form : Int32) (f_sheets0_size : Int32) (f_sheets1_form : Int32) (f_sheets1_size : Int32) (f_sheets2_form : Int32) (f_sheets2_size : Int32) (f_sheets3_form : Int32) (f_sheets3_size : Int32) (x1 : Int32) (x2 : Int32) (x3 : Int32) (x4 : Int32) (x5 : Int32) (r : Int32) (r_finding : Int32) (r_sheets0_items : Nat → Int32) (r_sheets1_items : Nat → Int32) (r_sheets2_items : Nat → Int32) (r_sheets3_items : Nat → Int32) (hs_1 : x1 = 3) (hs_3 : x3 = 1) : ∀ (f_finding : Int32) (f_sheets0_items : Nat → Int32) (f_sheets1_items : Nat → Int32) (f_sheets2_items : Nat → Int32) (f_sheets3_items : Nat → Int32), ND_copy_b49v2 f_sheets0_form f_sheets0_size f_sheets1_form f_sheets1_size f_sheets2_form f_sheets2_size f_sheets3_form f_sheets3_size x1 x2 x3 x4 x5 f_finding f_sheets0_items f_sheets1_items f_sheets2_items f_sheets3_items = some (r, r_finding, r_sheets0_items, r_sheets1_items, r_sheets2_items, r_sheets3_items) → ∀ (H : Heap) (locs : List Loc), va_P D vwCl (w_ND_copy ct a_this a_texts a_names a_pieces a_song a_fitting a_deal a_guesses a_wise a_spy a_sheets a_sheets0 a_sheets1 a_sheets2 a_sheets3 a_sheets0_items a_sheets1_items a_sheets2_items a_sheets3_items f_stale f_finding f_sheets0_form f_sheets0_size f_sheets0_items f_sheets1_form f_sheets1_size f_sheets1_items f_sheets2_form f_sheets2_size f_sheets2_items f_sheets3_form f_sheets3_size f_sheets3_items) H → va_D A (w_ND_copy ct a_this a_texts a_names a_pieces a_song a_fitting a_deal a_guesses a_wise a_spy a_sheets a_sheets0 a_sheets1 a_sheets2 a_sheets3 a_sheets0_items a_sheets1_items a_sheets2_items a_sheets3_items f_stale f_finding f_sheets0_form f_sheets0_size f_sheets0_items f_sheets1_form f_sheets1_size f_sheets1_items f_sheets2_form f_sheets2_size f_sheets2_items f_sheets3_form f_sheets3_size f_sheets3_items) → va_S A s.heap H locs → ∀ ls : Array Slot, lv_has ls 8 [(0, .ref a_this)] → W p l e RM_ND_copy s m args below meth c H locs 0 0 (MQ below (QM D (some (.int r)) (w_ND_copy ct a_this a_texts a_names a_pieces a_song a_fitting a_deal a_guesses a_wise a_spy a_sheets a_sheets0 a_sheets1 a_sheets2 a_sheets3 a_sheets0_items a_sheets1_items a_sheets2_items a_sheets3_items f_stale r_finding f_sheets0_form f_sheets0_size r_sheets0_items f_sheets1_form f_sheets1_size r_sheets1_items f_sheets2_form f_sheets2_size r_sheets2_items f_sheets3_form f_sheets3_size r_sheets3_items) A) args s 0 0 A) (F0 m 49 ls []) := by
  obtain ⟨hx, hb, hr, hml, hown, hts, hlk, hK, hN⟩ := id C
  intro f_finding f_sheets0_items f_sheets1_items f_sheets2_items f_sheets3_items hf H locs hP hD hS ls hl
  unfold ND_copy_b49v2 at hf
  refine lv_aload_n hx hb dX10_copy_49 rfl (lv_at hl 0 rfl) ?_
  refine lv_iconst (v := 1) hx hb dX10_copy_50 (by decide) ?_
  obtain ⟨v51, f_finding_51, hc51, hf⟩ := cb2_some hf
  refine kcMV (q0 := 0) (ci := 10) (As := [.int 1]) (rest := []) (st1 := [.int v51]) (wf := (w_ND_copy ct a_this a_texts a_names a_pieces a_song a_fitting a_deal a_guesses a_wise a_spy a_sheets a_sheets0 a_sheets1 a_sheets2 a_sheets3 a_sheets0_items a_sheets1_items a_sheets2_items a_sheets3_items f_stale f_finding_51 f_sheets0_form f_sheets0_size f_sheets0_items f_sheets1_form f_sheets1_size f_sheets1_items f_sheets2_form f_sheets2_size f_sheets2_items f_sheets3_form f_sheets3_size f_sheets3_items)) C (c_ND_found l D ct a_this a_texts a_names a_pieces a_song a_fitting a_deal a_guesses a_wise a_spy a_sheets f_stale f_finding 1 v51 f_finding_51 _ hc51) ⟨rfl, rfl⟩ yn_yX10_found tw_558 tw_10 tw_556 ⟨Nat.le_of_ble_eq_true rfl, Nat.le_of_ble_eq_true rfl⟩ ⟨Nat.zero_le _, Nat.zero_le _⟩ hP hD hS hA [0] [1, 2, 3, 4, 5, 6, 7, 8, 9] [9, 0, 1, 2, 3, 4, 5, 6, 7, 8] rfl rfl rfl rfl rfl (by decide) rfl rfl rfl rfl rfl rfl hl.1 rfl rfl (Nat.le_of_ble_eq_true rfl) dX10_copy_51 rfl (fun H locs hP hD hS => ?_)
  obtain ⟨e1, e2, e3, e4, e5, e6⟩ := ti6 hf
  subst e1; subst e2; subst e3; subst e4; subst e5; subst e6
  exact kretM C hP hD hS dX10_copy_54
set_option maxHeartbeats 4000000 in
set_option maxRecDepth 100000 in
theorem t_ND_copy_b49v3 {p : Program} {l : Launch} {e : Env} {s : State} {m : MethodId} {args : Array Value} {below : List Frame} {meth : Method} {c : Code} {D : va_G} {ct : Nat → ClassId} (C : CX p s m args meth c RX10 cX10_copy 8 (some .int) D ct) {A : Nat → Prop} (hA : ∀ q : Nat, s.heap.size ≤ q → A q) (a_this a_texts a_names a_pieces a_song a_fitting a_deal a_guesses a_wise a_spy a_sheets a_sheets0 a_sheets1 a_sheets2 a_sheets3 a_sheets0_items a_sheets1_items a_sheets2_items a_sheets3_items : Nat) (f_stale : Int32) (f_sheets0_form : Int32) (f_sheets0_size : Int32) (f_sheets1_form : Int32) (f_sheets1_size : Int32) (f_sheets2_form : Int32) (f_sheets2_size : Int32) (f_sheets3_form : Int32) (f_sheets3_size : Int32) (x1 : Int32) (x2 : Int32) (x3 : Int32) (x4 : Int32) (x5 : Int32) (r : Int32) (r_finding : Int32) (r_sheets0_items : Nat → Int32) (r_sheets1_items : Nat → Int32) (r_sheets2_items : Nat → Int32) (r_sheets3_items : Nat → Int32) (hs_1 : x1 = 3) (hs_3 : x3 = 0) : ∀ (f_finding : Int32) (f_sheets0_items : Nat → Int32) (f_sheets1_items : Nat → Int32) (f_sheets2_items : Nat → Int32) (f_sheets3_items : Nat → Int32), ND_copy_b49v3 f_sheets0_form f_sheets0_size f_sheets1_form f_sheets1_size f_sheets2_form f_sheets2_size f_sheets3_form f_sheets3_size x1 x2 x3 x4 x5 f_finding f_sheets0_items f_sheets1_items f_sheets2_items f_sheets3_items = some (r, r_finding, r_sheets0_items, r_sheets1_items, r_sheets2_items, r_sheets3_items) → ∀ (H : Heap) (locs : List Loc), va_P D vwCl (w_ND_copy ct a_this a_texts a_names a_pieces a_song a_fitting a_deal a_guesses a_wise a_spy a_sheets a_sheets0 a_sheets1 a_sheets2 a_sheets3 a_sheets0_items a_sheets1_items a_sheets2_items a_sheets3_items f_stale f_finding f_sheets0_form f_sheets0_size f_sheets0_items f_sheets1_form f_sheets1_size f_sheets1_items f_sheets2_form f_sheets2_size f_sheets2_items f_sheets3_form f_sheets3_size f_sheets3_items) H → va_D A (w_ND_copy ct a_this a_texts a_names a_pieces a_song a_fitting a_deal a_guesses a_wise a_spy a_sheets a_sheets0 a_sheets1 a_sheets2 a_sheets3 a_sheets0_items a_sheets1_items a_sheets2_items a_sheets3_items f_stale f_finding f_sheets0_form f_sheets0_size f_sheets0_items f_sheets1_form f_sheets1_size f_sheets1_items f_sheets2_form f_sheets2_size f_sheets2_items f_sheets3_form f_sheets3_size f_sheets3_items) → va_S A s.heap H locs → ∀ ls : Array Slot, lv_has ls 8 [(0, .ref a_this)] → W p l e RM_ND_copy s m args below meth c H locs 0 0 (MQ below (QM D (some (.int r)) (w_ND_copy ct a_this a_texts a_names a_pieces a_song a_fitting a_deal a_guesses a_wise a_spy a_sheets a_sheets0 a_sheets1 a_sheets2 a_sheets3 a_sheets0_items a_sheets1_items a_sheets2_items a_sheets3_items f_stale r_finding f_sheets0_form f_sheets0_size r_sheets0_items f_sheets1_form f_sheets1_size r_sheets1_items f_sheets2_form f_sheets2_size r_sheets2_items f_sheets3_form f_sheets3_size r_sheets3_items) A) args s 0 0 A) (F0 m 49 ls []) := by
  obtain ⟨hx, hb, hr, hml, hown, hts, hlk, hK, hN⟩ := id C
  intro f_finding f_sheets0_items f_sheets1_items f_sheets2_items f_sheets3_items hf H locs hP hD hS ls hl
  unfold ND_copy_b49v3 at hf
  refine lv_aload_n hx hb dX10_copy_49 rfl (lv_at hl 0 rfl) ?_
  refine lv_iconst (v := 1) hx hb dX10_copy_50 (by decide) ?_
  obtain ⟨v51, f_finding_51, hc51, hf⟩ := cb2_some hf
  refine kcMV (q0 := 0) (ci := 10) (As := [.int 1]) (rest := []) (st1 := [.int v51]) (wf := (w_ND_copy ct a_this a_texts a_names a_pieces a_song a_fitting a_deal a_guesses a_wise a_spy a_sheets a_sheets0 a_sheets1 a_sheets2 a_sheets3 a_sheets0_items a_sheets1_items a_sheets2_items a_sheets3_items f_stale f_finding_51 f_sheets0_form f_sheets0_size f_sheets0_items f_sheets1_form f_sheets1_size f_sheets1_items f_sheets2_form f_sheets2_size f_sheets2_items f_sheets3_form f_sheets3_size f_sheets3_items)) C (c_ND_found l D ct a_this a_texts a_names a_pieces a_song a_fitting a_deal a_guesses a_wise a_spy a_sheets f_stale f_finding 1 v51 f_finding_51 _ hc51) ⟨rfl, rfl⟩ yn_yX10_found tw_558 tw_10 tw_556 ⟨Nat.le_of_ble_eq_true rfl, Nat.le_of_ble_eq_true rfl⟩ ⟨Nat.zero_le _, Nat.zero_le _⟩ hP hD hS hA [0] [1, 2, 3, 4, 5, 6, 7, 8, 9] [9, 0, 1, 2, 3, 4, 5, 6, 7, 8] rfl rfl rfl rfl rfl (by decide) rfl rfl rfl rfl rfl rfl hl.1 rfl rfl (Nat.le_of_ble_eq_true rfl) dX10_copy_51 rfl (fun H locs hP hD hS => ?_)
  obtain ⟨e1, e2, e3, e4, e5, e6⟩ := ti6 hf
  subst e1; subst e2; subst e3; subst e4; subst e5; subst e6
  exact kretM C hP hD hS dX10_copy_54
set_option maxHeartbeats 4000000 in
set_option maxRecDepth 100000 in
theorem t_ND_copy_b49v4 {p : Program} {l : Launch} {e : Env} {s : State} {m : MethodId} {args : Array Value} {below : List Frame} {meth : Method} {c : Code} {D : va_G} {ct : Nat → ClassId} (C : CX p s m args meth c RX10 cX10_copy 8 (some .int) D ct) {A : Nat → Prop} (hA : ∀ q : Nat, s.heap.size ≤ q → A q) (a_this a_texts a_names a_pieces a_song a_fitting a_deal a_guesses a_wise a_spy a_sheets a_sheets0 a_sheets1 a_sheets2 a_sheets3 a_sheets0_items a_sheets1_items a_sheets2_items a_sheets3_items : Nat) (f_stale : Int32) (f_sheets0_form : Int32) (f_sheets0_size : Int32) (f_sheets1_form : Int32) (f_sheets1_size : Int32) (f_sheets2_form : Int32) (f_sheets2_size : Int32) (f_sheets3_form : Int32) (f_sheets3_size : Int32) (x1 : Int32) (x2 : Int32) (x3 : Int32) (x4 : Int32) (x5 : Int32) (r : Int32) (r_finding : Int32) (r_sheets0_items : Nat → Int32) (r_sheets1_items : Nat → Int32) (r_sheets2_items : Nat → Int32) (r_sheets3_items : Nat → Int32) (hs_1 : x1 = 2) (hs_3 : x3 = 3) : ∀ (f_finding : Int32) (f_sheets0_items : Nat → Int32) (f_sheets1_items : Nat → Int32) (f_sheets2_items : Nat → Int32) (f_sheets3_items : Nat → Int32), ND_copy_b49v4 f_sheets0_form f_sheets0_size f_sheets1_form f_sheets1_size f_sheets2_form f_sheets2_size f_sheets3_form f_sheets3_size x1 x2 x3 x4 x5 f_finding f_sheets0_items f_sheets1_items f_sheets2_items f_sheets3_items = some (r, r_finding, r_sheets0_items, r_sheets1_items, r_sheets2_items, r_sheets3_items) → ∀ (H : Heap) (locs : List Loc), va_P D vwCl (w_ND_copy ct a_this a_texts a_names a_pieces a_song a_fitting a_deal a_guesses a_wise a_spy a_sheets a_sheets0 a_sheets1 a_sheets2 a_sheets3 a_sheets0_items a_sheets1_items a_sheets2_items a_sheets3_items f_stale f_finding f_sheets0_form f_sheets0_size f_sheets0_items f_sheets1_form f_sheets1_size f_sheets1_items f_sheets2_form f_sheets2_size f_sheets2_items f_sheets3_form f_sheets3_size f_sheets3_items) H → va_D A (w_ND_copy ct a_this a_texts a_names a_pieces a_song a_fitting a_deal a_guesses a_wise a_spy a_sheets a_sheets0 a_sheets1 a_sheets2 a_sheets3 a_sheets0_items a_sheets1_items a_sheets2_items a_sheets3_items f_stale f_finding f_sheets0_form f_sheets0_size f_sheets0_items f_sheets1_form f_sheets1_size f_sheets1_items f_sheets2_form f_sheets2_size f_sheets2_items f_sheets3_form f_sheets3_size f_sheets3_items) → va_S A s.heap H locs → ∀ ls : Array Slot, lv_has ls 8 [(0, .ref a_this)] → W p l e RM_ND_copy s m args below meth c H locs 0 0 (MQ below (QM D (some (.int r)) (w_ND_copy ct a_this a_texts a_names a_pieces a_song a_fitting a_deal a_guesses a_wise a_spy a_sheets a_sheets0 a_sheets1 a_sheets2 a_sheets3 a_sheets0_items a_sheets1_items a_sheets2_items a_sheets3_items f_stale r_finding f_sheets0_form f_sheets0_size r_sheets0_items f_sheets1_form f_sheets1_size r_sheets1_items f_sheets2_form f_sheets2_size r_sheets2_items f_sheets3_form f_sheets3_size r_sheets3_items) A) args s 0 0 A) (F0 m 49 ls []) := by
  obtain ⟨hx, hb, hr, hml, hown, hts, hlk, hK, hN⟩ := id C
  intro f_finding f_sheets0_items f_sheets1_items f_sheets2_items f_sheets3_items hf H locs hP hD hS ls hl
  unfold ND_copy_b49v4 at hf
  refine lv_aload_n hx hb dX10_copy_49 rfl (lv_at hl 0 rfl) ?_
  refine lv_iconst (v := 1) hx hb dX10_copy_50 (by decide) ?_
  obtain ⟨v51, f_finding_51, hc51, hf⟩ := cb2_some hf
  refine kcMV (q0 := 0) (ci := 10) (As := [.int 1]) (rest := []) (st1 := [.int v51]) (wf := (w_ND_copy ct a_this a_texts a_names a_pieces a_song a_fitting a_deal a_guesses a_wise a_spy a_sheets a_sheets0 a_sheets1 a_sheets2 a_sheets3 a_sheets0_items a_sheets1_items a_sheets2_items a_sheets3_items f_stale f_finding_51 f_sheets0_form f_sheets0_size f_sheets0_items f_sheets1_form f_sheets1_size f_sheets1_items f_sheets2_form f_sheets2_size f_sheets2_items f_sheets3_form f_sheets3_size f_sheets3_items)) C (c_ND_found l D ct a_this a_texts a_names a_pieces a_song a_fitting a_deal a_guesses a_wise a_spy a_sheets f_stale f_finding 1 v51 f_finding_51 _ hc51) ⟨rfl, rfl⟩ yn_yX10_found tw_558 tw_10 tw_556 ⟨Nat.le_of_ble_eq_true rfl, Nat.le_of_ble_eq_true rfl⟩ ⟨Nat.zero_le _, Nat.zero_le _⟩ hP hD hS hA [0] [1, 2, 3, 4, 5, 6, 7, 8, 9] [9, 0, 1, 2, 3, 4, 5, 6, 7, 8] rfl rfl rfl rfl rfl (by decide) rfl rfl rfl rfl rfl rfl hl.1 rfl rfl (Nat.le_of_ble_eq_true rfl) dX10_copy_51 rfl (fun H locs hP hD hS => ?_)
  obtain ⟨e1, e2, e3, e4, e5, e6⟩ := ti6 hf
  subst e1; subst e2; subst e3; subst e4; subst e5; subst e6
  exact kretM C hP hD hS dX10_copy_54
set_option maxHeartbeats 4000000 in
set_option maxRecDepth 100000 in
theorem t_ND_copy_b49v5 {p : Program} {l : Launch} {e : Env} {s : State} {m : MethodId} {args : Array Value} {below : List Frame} {meth : Method} {c : Code} {D : va_G} {ct : Nat → ClassId} (C : CX p s m args meth c RX10 cX10_copy 8 (some .int) D ct) {A : Nat → Prop} (hA : ∀ q : Nat, s.heap.size ≤ q → A q) (a_this a_texts a_names a_pieces a_song a_fitting a_deal a_guesses a_wise a_spy a_sheets a_sheets0 a_sheets1 a_sheets2 a_sheets3 a_sheets0_items a_sheets1_items a_sheets2_items a_sheets3_items : Nat) (f_stale : Int32) (f_sheets0_form : Int32) (f_sheets0_size : Int32) (f_sheets1_form : Int32) (f_sheets1_size : Int32) (f_sheets2_form : Int32) (f_sheets2_size : Int32) (f_sheets3_form : Int32) (f_sheets3_size : Int32) (x1 : Int32) (x2 : Int32) (x3 : Int32) (x4 : Int32) (x5 : Int32) (r : Int32) (r_finding : Int32) (r_sheets0_items : Nat → Int32) (r_sheets1_items : Nat → Int32) (r_sheets2_items : Nat → Int32) (r_sheets3_items : Nat → Int32) (hs_1 : x1 = 2) (hs_3 : x3 = 2) : ∀ (f_finding : Int32) (f_sheets0_items : Nat → Int32) (f_sheets1_items : Nat → Int32) (f_sheets2_items : Nat → Int32) (f_sheets3_items : Nat → Int32), ND_copy_b49v5 f_sheets0_form f_sheets0_size f_sheets1_form f_sheets1_size f_sheets2_form f_sheets2_size f_sheets3_form f_sheets3_size x1 x2 x3 x4 x5 f_finding f_sheets0_items f_sheets1_items f_sheets2_items f_sheets3_items = some (r, r_finding, r_sheets0_items, r_sheets1_items, r_sheets2_items, r_sheets3_items) → ∀ (H : Heap) (locs : List Loc), va_P D vwCl (w_ND_copy ct a_this a_texts a_names a_pieces a_song a_fitting a_deal a_guesses a_wise a_spy a_sheets a_sheets0 a_sheets1 a_sheets2 a_sheets3 a_sheets0_items a_sheets1_items a_sheets2_items a_sheets3_items f_stale f_finding f_sheets0_form f_sheets0_size f_sheets0_items f_sheets1_form f_sheets1_size f_sheets1_items f_sheets2_form f_sheets2_size f_sheets2_items f_sheets3_form f_sheets3_size f_sheets3_items) H → va_D A (w_ND_copy ct a_this a_texts a_names a_pieces a_song a_fitting a_deal a_guesses a_wise a_spy a_sheets a_sheets0 a_sheets1 a_sheets2 a_sheets3 a_sheets0_items a_sheets1_items a_sheets2_items a_sheets3_items f_stale f_finding f_sheets0_form f_sheets0_size f_sheets0_items f_sheets1_form f_sheets1_size f_sheets1_items f_sheets2_form f_sheets2_size f_sheets2_items f_sheets3_form f_sheets3_size f_sheets3_items) → va_S A s.heap H locs → ∀ ls : Array Slot, lv_has ls 8 [(0, .ref a_this)] → W p l e RM_ND_copy s m args below meth c H locs 0 0 (MQ below (QM D (some (.int r)) (w_ND_copy ct a_this a_texts a_names a_pieces a_song a_fitting a_deal a_guesses a_wise a_spy a_sheets a_sheets0 a_sheets1 a_sheets2 a_sheets3 a_sheets0_items a_sheets1_items a_sheets2_items a_sheets3_items f_stale r_finding f_sheets0_form f_sheets0_size r_sheets0_items f_sheets1_form f_sheets1_size r_sheets1_items f_sheets2_form f_sheets2_size r_sheets2_items f_sheets3_form f_sheets3_size r_sheets3_items) A) args s 0 0 A) (F0 m 49 ls []) := by
  obtain ⟨hx, hb, hr, hml, hown, hts, hlk, hK, hN⟩ := id C
  intro f_finding f_sheets0_items f_sheets1_items f_sheets2_items f_sheets3_items hf H locs hP hD hS ls hl
  unfold ND_copy_b49v5 at hf
  refine lv_aload_n hx hb dX10_copy_49 rfl (lv_at hl 0 rfl) ?_
  refine lv_iconst (v := 1) hx hb dX10_copy_50 (by decide) ?_
  obtain ⟨v51, f_finding_51, hc51, hf⟩ := cb2_some hf
  refine kcMV (q0 := 0) (ci := 10) (As := [.int 1]) (rest := []) (st1 := [.int v51]) (wf := (w_ND_copy ct a_this a_texts a_names a_pieces a_song a_fitting a_deal a_guesses a_wise a_spy a_sheets a_sheets0 a_sheets1 a_sheets2 a_sheets3 a_sheets0_items a_sheets1_items a_sheets2_items a_sheets3_items f_stale f_finding_51 f_sheets0_form f_sheets0_size f_sheets0_items f_sheets1_form f_sheets1_size f_sheets1_items f_sheets2_form f_sheets2_size f_sheets2_items f_sheets3_form f_sheets3_size f_sheets3_items)) C (c_ND_found l D ct a_this a_texts a_names a_pieces a_song a_fitting a_deal a_guesses a_wise a_spy a_sheets f_stale f_finding 1 v51 f_finding_51 _ hc51) ⟨rfl, rfl⟩ yn_yX10_found tw_558 tw_10 tw_556 ⟨Nat.le_of_ble_eq_true rfl, Nat.le_of_ble_eq_true rfl⟩ ⟨Nat.zero_le _, Nat.zero_le _⟩ hP hD hS hA [0] [1, 2, 3, 4, 5, 6, 7, 8, 9] [9, 0, 1, 2, 3, 4, 5, 6, 7, 8] rfl rfl rfl rfl rfl (by decide) rfl rfl rfl rfl rfl rfl hl.1 rfl rfl (Nat.le_of_ble_eq_true rfl) dX10_copy_51 rfl (fun H locs hP hD hS => ?_)
  obtain ⟨e1, e2, e3, e4, e5, e6⟩ := ti6 hf
  subst e1; subst e2; subst e3; subst e4; subst e5; subst e6
  exact kretM C hP hD hS dX10_copy_54
set_option maxHeartbeats 4000000 in
set_option maxRecDepth 100000 in
theorem t_ND_copy_b49v6 {p : Program} {l : Launch} {e : Env} {s : State} {m : MethodId} {args : Array Value} {below : List Frame} {meth : Method} {c : Code} {D : va_G} {ct : Nat → ClassId} (C : CX p s m args meth c RX10 cX10_copy 8 (some .int) D ct) {A : Nat → Prop} (hA : ∀ q : Nat, s.heap.size ≤ q → A q) (a_this a_texts a_names a_pieces a_song a_fitting a_deal a_guesses a_wise a_spy a_sheets a_sheets0 a_sheets1 a_sheets2 a_sheets3 a_sheets0_items a_sheets1_items a_sheets2_items a_sheets3_items : Nat) (f_stale : Int32) (f_sheets0_form : Int32) (f_sheets0_size : Int32) (f_sheets1_form : Int32) (f_sheets1_size : Int32) (f_sheets2_form : Int32) (f_sheets2_size : Int32) (f_sheets3_form : Int32) (f_sheets3_size : Int32) (x1 : Int32) (x2 : Int32) (x3 : Int32) (x4 : Int32) (x5 : Int32) (r : Int32) (r_finding : Int32) (r_sheets0_items : Nat → Int32) (r_sheets1_items : Nat → Int32) (r_sheets2_items : Nat → Int32) (r_sheets3_items : Nat → Int32) (hs_1 : x1 = 2) (hs_3 : x3 = 1) : ∀ (f_finding : Int32) (f_sheets0_items : Nat → Int32) (f_sheets1_items : Nat → Int32) (f_sheets2_items : Nat → Int32) (f_sheets3_items : Nat → Int32), ND_copy_b49v6 f_sheets0_form f_sheets0_size f_sheets1_form f_sheets1_size f_sheets2_form f_sheets2_size f_sheets3_form f_sheets3_size x1 x2 x3 x4 x5 f_finding f_sheets0_items f_sheets1_items f_sheets2_items f_sheets3_items = some (r, r_finding, r_sheets0_items, r_sheets1_items, r_sheets2_items, r_sheets3_items) → ∀ (H : Heap) (locs : List Loc), va_P D vwCl (w_ND_copy ct a_this a_texts a_names a_pieces a_song a_fitting a_deal a_guesses a_wise a_spy a_sheets a_sheets0 a_sheets1 a_sheets2 a_sheets3 a_sheets0_items a_sheets1_items a_sheets2_items a_sheets3_items f_stale f_finding f_sheets0_form f_sheets0_size f_sheets0_items f_sheets1_form f_sheets1_size f_sheets1_items f_sheets2_form f_sheets2_size f_sheets2_items f_sheets3_form f_sheets3_size f_sheets3_items) H → va_D A (w_ND_copy ct a_this a_texts a_names a_pieces a_song a_fitting a_deal a_guesses a_wise a_spy a_sheets a_sheets0 a_sheets1 a_sheets2 a_sheets3 a_sheets0_items a_sheets1_items a_sheets2_items a_sheets3_items f_stale f_finding f_sheets0_form f_sheets0_size f_sheets0_items f_sheets1_form f_sheets1_size f_sheets1_items f_sheets2_form f_sheets2_size f_sheets2_items f_sheets3_form f_sheets3_size f_sheets3_items) → va_S A s.heap H locs → ∀ ls : Array Slot, lv_has ls 8 [(0, .ref a_this)] → W p l e RM_ND_copy s m args below meth c H locs 0 0 (MQ below (QM D (some (.int r)) (w_ND_copy ct a_this a_texts a_names a_pieces a_song a_fitting a_deal a_guesses a_wise a_spy a_sheets a_sheets0 a_sheets1 a_sheets2 a_sheets3 a_sheets0_items a_sheets1_items a_sheets2_items a_sheets3_items f_stale r_finding f_sheets0_form f_sheets0_size r_sheets0_items f_sheets1_form f_sheets1_size r_sheets1_items f_sheets2_form f_sheets2_size r_sheets2_items f_sheets3_form f_sheets3_size r_sheets3_items) A) args s 0 0 A) (F0 m 49 ls []) := by
  obtain ⟨hx, hb, hr, hml, hown, hts, hlk, hK, hN⟩ := id C
  intro f_finding f_sheets0_items f_sheets1_items f_sheets2_items f_sheets3_items hf H locs hP hD hS ls hl
  unfold ND_copy_b49v6 at hf
  refine lv_aload_n hx hb dX10_copy_49 rfl (lv_at hl 0 rfl) ?_
  refine lv_iconst (v := 1) hx hb dX10_copy_50 (by decide) ?_
  obtain ⟨v51, f_finding_51, hc51, hf⟩ := cb2_some hf
  refine kcMV (q0 := 0) (ci := 10) (As := [.int 1]) (rest := []) (st1 := [.int v51]) (wf := (w_ND_copy ct a_this a_texts a_names a_pieces a_song a_fitting a_deal a_guesses a_wise a_spy a_sheets a_sheets0 a_sheets1 a_sheets2 a_sheets3 a_sheets0_items a_sheets1_items a_sheets2_items a_sheets3_items f_stale f_finding_51 f_sheets0_form f_sheets0_size f_sheets0_items f_sheets1_form f_sheets1_size f_sheets1_items f_sheets2_form f_sheets2_size f_sheets2_items f_sheets3_form f_sheets3_size f_sheets3_items)) C (c_ND_found l D ct a_this a_texts a_names a_pieces a_song a_fitting a_deal a_guesses a_wise a_spy a_sheets f_stale f_finding 1 v51 f_finding_51 _ hc51) ⟨rfl, rfl⟩ yn_yX10_found tw_558 tw_10 tw_556 ⟨Nat.le_of_ble_eq_true rfl, Nat.le_of_ble_eq_true rfl⟩ ⟨Nat.zero_le _, Nat.zero_le _⟩ hP hD hS hA [0] [1, 2, 3, 4, 5, 6, 7, 8, 9] [9, 0, 1, 2, 3, 4, 5, 6, 7, 8] rfl rfl rfl rfl rfl (by decide) rfl rfl rfl rfl rfl rfl hl.1 rfl rfl (Nat.le_of_ble_eq_true rfl) dX10_copy_51 rfl (fun H locs hP hD hS => ?_)
  obtain ⟨e1, e2, e3, e4, e5, e6⟩ := ti6 hf
  subst e1; subst e2; subst e3; subst e4; subst e5; subst e6
  exact kretM C hP hD hS dX10_copy_54
set_option maxHeartbeats 4000000 in
set_option maxRecDepth 100000 in
theorem t_ND_copy_b49v7 {p : Program} {l : Launch} {e : Env} {s : State} {m : MethodId} {args : Array Value} {below : List Frame} {meth : Method} {c : Code} {D : va_G} {ct : Nat → ClassId} (C : CX p s m args meth c RX10 cX10_copy 8 (some .int) D ct) {A : Nat → Prop} (hA : ∀ q : Nat, s.heap.size ≤ q → A q) (a_this a_texts a_names a_pieces a_song a_fitting a_deal a_guesses a_wise a_spy a_sheets a_sheets0 a_sheets1 a_sheets2 a_sheets3 a_sheets0_items a_sheets1_items a_sheets2_items a_sheets3_items : Nat) (f_stale : Int32) (f_sheets0_form : Int32) (f_sheets0_size : Int32) (f_sheets1_form : Int32) (f_sheets1_size : Int32) (f_sheets2_form : Int32) (f_sheets2_size : Int32) (f_sheets3_form : Int32) (f_sheets3_size : Int32) (x1 : Int32) (x2 : Int32) (x3 : Int32) (x4 : Int32) (x5 : Int32) (r : Int32) (r_finding : Int32) (r_sheets0_items : Nat → Int32) (r_sheets1_items : Nat → Int32) (r_sheets2_items : Nat → Int32) (r_sheets3_items : Nat → Int32) (hs_1 : x1 = 2) (hs_3 : x3 = 0) : ∀ (f_finding : Int32) (f_sheets0_items : Nat → Int32) (f_sheets1_items : Nat → Int32) (f_sheets2_items : Nat → Int32) (f_sheets3_items : Nat → Int32), ND_copy_b49v7 f_sheets0_form f_sheets0_size f_sheets1_form f_sheets1_size f_sheets2_form f_sheets2_size f_sheets3_form f_sheets3_size x1 x2 x3 x4 x5 f_finding f_sheets0_items f_sheets1_items f_sheets2_items f_sheets3_items = some (r, r_finding, r_sheets0_items, r_sheets1_items, r_sheets2_items, r_sheets3_items) → ∀ (H : Heap) (locs : List Loc), va_P D vwCl (w_ND_copy ct a_this a_texts a_names a_pieces a_song a_fitting a_deal a_guesses a_wise a_spy a_sheets a_sheets0 a_sheets1 a_sheets2 a_sheets3 a_sheets0_items a_sheets1_items a_sheets2_items a_sheets3_items f_stale f_finding f_sheets0_form f_sheets0_size f_sheets0_items f_sheets1_form f_sheets1_size f_sheets1_items f_sheets2_form f_sheets2_size f_sheets2_items f_sheets3_form f_sheets3_size f_sheets3_items) H → va_D A (w_ND_copy ct a_this a_texts a_names a_pieces a_song a_fitting a_deal a_guesses a_wise a_spy a_sheets a_sheets0 a_sheets1 a_sheets2 a_sheets3 a_sheets0_items a_sheets1_items a_sheets2_items a_sheets3_items f_stale f_finding f_sheets0_form f_sheets0_size f_sheets0_items f_sheets1_form f_sheets1_size f_sheets1_items f_sheets2_form f_sheets2_size f_sheets2_items f_sheets3_form f_sheets3_size f_sheets3_items) → va_S A s.heap H locs → ∀ ls : Array Slot, lv_has ls 8 [(0, .ref a_this)] → W p l e RM_ND_copy s m args below meth c H locs 0 0 (MQ below (QM D (some (.int r)) (w_ND_copy ct a_this a_texts a_names a_pieces a_song a_fitting a_deal a_guesses a_wise a_spy a_sheets a_sheets0 a_sheets1 a_sheets2 a_sheets3 a_sheets0_items a_sheets1_items a_sheets2_items a_sheets3_items f_stale r_finding f_sheets0_form f_sheets0_size r_sheets0_items f_sheets1_form f_sheets1_size r_sheets1_items f_sheets2_form f_sheets2_size r_sheets2_items f_sheets3_form f_sheets3_size r_sheets3_items) A) args s 0 0 A) (F0 m 49 ls []) := by
  obtain ⟨hx, hb, hr, hml, hown, hts, hlk, hK, hN⟩ := id C
  intro f_finding f_sheets0_items f_sheets1_items f_sheets2_items f_sheets3_items hf H locs hP hD hS ls hl
  unfold ND_copy_b49v7 at hf
  refine lv_aload_n hx hb dX10_copy_49 rfl (lv_at hl 0 rfl) ?_
  refine lv_iconst (v := 1) hx hb dX10_copy_50 (by decide) ?_
  obtain ⟨v51, f_finding_51, hc51, hf⟩ := cb2_some hf
  refine kcMV (q0 := 0) (ci := 10) (As := [.int 1]) (rest := []) (st1 := [.int v51]) (wf := (w_ND_copy ct a_this a_texts a_names a_pieces a_song a_fitting a_deal a_guesses a_wise a_spy a_sheets a_sheets0 a_sheets1 a_sheets2 a_sheets3 a_sheets0_items a_sheets1_items a_sheets2_items a_sheets3_items f_stale f_finding_51 f_sheets0_form f_sheets0_size f_sheets0_items f_sheets1_form f_sheets1_size f_sheets1_items f_sheets2_form f_sheets2_size f_sheets2_items f_sheets3_form f_sheets3_size f_sheets3_items)) C (c_ND_found l D ct a_this a_texts a_names a_pieces a_song a_fitting a_deal a_guesses a_wise a_spy a_sheets f_stale f_finding 1 v51 f_finding_51 _ hc51) ⟨rfl, rfl⟩ yn_yX10_found tw_558 tw_10 tw_556 ⟨Nat.le_of_ble_eq_true rfl, Nat.le_of_ble_eq_true rfl⟩ ⟨Nat.zero_le _, Nat.zero_le _⟩ hP hD hS hA [0] [1, 2, 3, 4, 5, 6, 7, 8, 9] [9, 0, 1, 2, 3, 4, 5, 6, 7, 8] rfl rfl rfl rfl rfl (by decide) rfl rfl rfl rfl rfl rfl hl.1 rfl rfl (Nat.le_of_ble_eq_true rfl) dX10_copy_51 rfl (fun H locs hP hD hS => ?_)
  obtain ⟨e1, e2, e3, e4, e5, e6⟩ := ti6 hf
  subst e1; subst e2; subst e3; subst e4; subst e5; subst e6
  exact kretM C hP hD hS dX10_copy_54
set_option maxHeartbeats 4000000 in
set_option maxRecDepth 100000 in
theorem t_ND_copy_b49v8 {p : Program} {l : Launch} {e : Env} {s : State} {m : MethodId} {args : Array Value} {below : List Frame} {meth : Method} {c : Code} {D : va_G} {ct : Nat → ClassId} (C : CX p s m args meth c RX10 cX10_copy 8 (some .int) D ct) {A : Nat → Prop} (hA : ∀ q : Nat, s.heap.size ≤ q → A q) (a_this a_texts a_names a_pieces a_song a_fitting a_deal a_guesses a_wise a_spy a_sheets a_sheets0 a_sheets1 a_sheets2 a_sheets3 a_sheets0_items a_sheets1_items a_sheets2_items a_sheets3_items : Nat) (f_stale : Int32) (f_sheets0_form : Int32) (f_sheets0_size : Int32) (f_sheets1_form : Int32) (f_sheets1_size : Int32) (f_sheets2_form : Int32) (f_sheets2_size : Int32) (f_sheets3_form : Int32) (f_sheets3_size : Int32) (x1 : Int32) (x2 : Int32) (x3 : Int32) (x4 : Int32) (x5 : Int32) (r : Int32) (r_finding : Int32) (r_sheets0_items : Nat → Int32) (r_sheets1_items : Nat → Int32) (r_sheets2_items : Nat → Int32) (r_sheets3_items : Nat → Int32) (hs_1 : x1 = 1) (hs_3 : x3 = 3) : ∀ (f_finding : Int32) (f_sheets0_items : Nat → Int32) (f_sheets1_items : Nat → Int32) (f_sheets2_items : Nat → Int32) (f_sheets3_items : Nat → Int32), ND_copy_b49v8 f_sheets0_form f_sheets0_size f_sheets1_form f_sheets1_size f_sheets2_form f_sheets2_size f_sheets3_form f_sheets3_size x1 x2 x3 x4 x5 f_finding f_sheets0_items f_sheets1_items f_sheets2_items f_sheets3_items = some (r, r_finding, r_sheets0_items, r_sheets1_items, r_sheets2_items, r_sheets3_items) → ∀ (H : Heap) (locs : List Loc), va_P D vwCl (w_ND_copy ct a_this a_texts a_names a_pieces a_song a_fitting a_deal a_guesses a_wise a_spy a_sheets a_sheets0 a_sheets1 a_sheets2 a_sheets3 a_sheets0_items a_sheets1_items a_sheets2_items a_sheets3_items f_stale f_finding f_sheets0_form f_sheets0_size f_sheets0_items f_sheets1_form f_sheets1_size f_sheets1_items f_sheets2_form f_sheets2_size f_sheets2_items f_sheets3_form f_sheets3_size f_sheets3_items) H → va_D A (w_ND_copy ct a_this a_texts a_names a_pieces a_song a_fitting a_deal a_guesses a_wise a_spy a_sheets a_sheets0 a_sheets1 a_sheets2 a_sheets3 a_sheets0_items a_sheets1_items a_sheets2_items a_sheets3_items f_stale f_finding f_sheets0_form f_sheets0_size f_sheets0_items f_sheets1_form f_sheets1_size f_sheets1_items f_sheets2_form f_sheets2_size f_sheets2_items f_sheets3_form f_sheets3_size f_sheets3_items) → va_S A s.heap H locs → ∀ ls : Array Slot, lv_has ls 8 [(0, .ref a_this)] → W p l e RM_ND_copy s m args below meth c H locs 0 0 (MQ below (QM D (some (.int r)) (w_ND_copy ct a_this a_texts a_names a_pieces a_song a_fitting a_deal a_guesses a_wise a_spy a_sheets a_sheets0 a_sheets1 a_sheets2 a_sheets3 a_sheets0_items a_sheets1_items a_sheets2_items a_sheets3_items f_stale r_finding f_sheets0_form f_sheets0_size r_sheets0_items f_sheets1_form f_sheets1_size r_sheets1_items f_sheets2_form f_sheets2_size r_sheets2_items f_sheets3_form f_sheets3_size r_sheets3_items) A) args s 0 0 A) (F0 m 49 ls []) := by
  obtain ⟨hx, hb, hr, hml, hown, hts, hlk, hK, hN⟩ := id C
  intro f_finding f_sheets0_items f_sheets1_items f_sheets2_items f_sheets3_items hf H locs hP hD hS ls hl
  unfold ND_copy_b49v8 at hf
  refine lv_aload_n hx hb dX10_copy_49 rfl (lv_at hl 0 rfl) ?_
  refine lv_iconst (v := 1) hx hb dX10_copy_50 (by decide) ?_
  obtain ⟨v51, f_finding_51, hc51, hf⟩ := cb2_some hf
  refine kcMV (q0 := 0) (ci := 10) (As := [.int 1]) (rest := []) (st1 := [.int v51]) (wf := (w_ND_copy ct a_this a_texts a_names a_pieces a_song a_fitting a_deal a_guesses a_wise a_spy a_sheets a_sheets0 a_sheets1 a_sheets2 a_sheets3 a_sheets0_items a_sheets1_items a_sheets2_items a_sheets3_items f_stale f_finding_51 f_sheets0_form f_sheets0_size f_sheets0_items f_sheets1_form f_sheets1_size f_sheets1_items f_sheets2_form f_sheets2_size f_sheets2_items f_sheets3_form f_sheets3_size f_sheets3_items)) C (c_ND_found l D ct a_this a_texts a_names a_pieces a_song a_fitting a_deal a_guesses a_wise a_spy a_sheets f_stale f_finding 1 v51 f_finding_51 _ hc51) ⟨rfl, rfl⟩ yn_yX10_found tw_558 tw_10 tw_556 ⟨Nat.le_of_ble_eq_true rfl, Nat.le_of_ble_eq_true rfl⟩ ⟨Nat.zero_le _, Nat.zero_le _⟩ hP hD hS hA [0] [1, 2, 3, 4, 5, 6, 7, 8, 9] [9, 0, 1, 2, 3, 4, 5, 6, 7, 8] rfl rfl rfl rfl rfl (by decide) rfl rfl rfl rfl rfl rfl hl.1 rfl rfl (Nat.le_of_ble_eq_true rfl) dX10_copy_51 rfl (fun H locs hP hD hS => ?_)
  obtain ⟨e1, e2, e3, e4, e5, e6⟩ := ti6 hf
  subst e1; subst e2; subst e3; subst e4; subst e5; subst e6
  exact kretM C hP hD hS dX10_copy_54
set_option maxHeartbeats 4000000 in
set_option maxRecDepth 100000 in
theorem t_ND_copy_b49v9 {p : Program} {l : Launch} {e : Env} {s : State} {m : MethodId} {args : Array Value} {below : List Frame} {meth : Method} {c : Code} {D : va_G} {ct : Nat → ClassId} (C : CX p s m args meth c RX10 cX10_copy 8 (some .int) D ct) {A : Nat → Prop} (hA : ∀ q : Nat, s.heap.size ≤ q → A q) (a_this a_texts a_names a_pieces a_song a_fitting a_deal a_guesses a_wise a_spy a_sheets a_sheets0 a_sheets1 a_sheets2 a_sheets3 a_sheets0_items a_sheets1_items a_sheets2_items a_sheets3_items : Nat) (f_stale : Int32) (f_sheets0_form : Int32) (f_sheets0_size : Int32) (f_sheets1_form : Int32) (f_sheets1_size : Int32) (f_sheets2_form : Int32) (f_sheets2_size : Int32) (f_sheets3_form : Int32) (f_sheets3_size : Int32) (x1 : Int32) (x2 : Int32) (x3 : Int32) (x4 : Int32) (x5 : Int32) (r : Int32) (r_finding : Int32) (r_sheets0_items : Nat → Int32) (r_sheets1_items : Nat → Int32) (r_sheets2_items : Nat → Int32) (r_sheets3_items : Nat → Int32) (hs_1 : x1 = 1) (hs_3 : x3 = 2) : ∀ (f_finding : Int32) (f_sheets0_items : Nat → Int32) (f_sheets1_items : Nat → Int32) (f_sheets2_items : Nat → Int32) (f_sheets3_items : Nat → Int32), ND_copy_b49v9 f_sheets0_form f_sheets0_size f_sheets1_form f_sheets1_size f_sheets2_form f_sheets2_size f_sheets3_form f_sheets3_size x1 x2 x3 x4 x5 f_finding f_sheets0_items f_sheets1_items f_sheets2_items f_sheets3_items = some (r, r_finding, r_sheets0_items, r_sheets1_items, r_sheets2_items, r_sheets3_items) → ∀ (H : Heap) (locs : List Loc), va_P D vwCl (w_ND_copy ct a_this a_texts a_names a_pieces a_song a_fitting a_deal a_guesses a_wise a_spy a_sheets a_sheets0 a_sheets1 a_sheets2 a_sheets3 a_sheets0_items a_sheets1_items a_sheets2_items a_sheets3_items f_stale f_finding f_sheets0_form f_sheets0_size f_sheets0_items f_sheets1_form f_sheets1_size f_sheets1_items f_sheets2_form f_sheets2_size f_sheets2_items f_sheets3_form f_sheets3_size f_sheets3_items) H → va_D A (w_ND_copy ct a_this a_texts a_names a_pieces a_song a_fitting a_deal a_guesses a_wise a_spy a_sheets a_sheets0 a_sheets1 a_sheets2 a_sheets3 a_sheets0_items a_sheets1_items a_sheets2_items a_sheets3_items f_stale f_finding f_sheets0_form f_sheets0_size f_sheets0_items f_sheets1_form f_sheets1_size f_sheets1_items f_sheets2_form f_sheets2_size f_sheets2_items f_sheets3_form f_sheets3_size f_sheets3_items) → va_S A s.heap H locs → ∀ ls : Array Slot, lv_has ls 8 [(0, .ref a_this)] → W p l e RM_ND_copy s m args below meth c H locs 0 0 (MQ below (QM D (some (.int r)) (w_ND_copy ct a_this a_texts a_names a_pieces a_song a_fitting a_deal a_guesses a_wise a_spy a_sheets a_sheets0 a_sheets1 a_sheets2 a_sheets3 a_sheets0_items a_sheets1_items a_sheets2_items a_sheets3_items f_stale r_finding f_sheets0_form f_sheets0_size r_sheets0_items f_sheets1_form f_sheets1_size r_sheets1_items f_sheets2_form f_sheets2_size r_sheets2_items f_sheets3_form f_sheets3_size r_sheets3_items) A) args s 0 0 A) (F0 m 49 ls []) := by
  obtain ⟨hx, hb, hr, hml, hown, hts, hlk, hK, hN⟩ := id C
  intro f_finding f_sheets0_items f_sheets1_items f_sheets2_items f_sheets3_items hf H locs hP hD hS ls hl
  unfold ND_copy_b49v9 at hf
  refine lv_aload_n hx hb dX10_copy_49 rfl (lv_at hl 0 rfl) ?_
  refine lv_iconst (v := 1) hx hb dX10_copy_50 (by decide) ?_
  obtain ⟨v51, f_finding_51, hc51, hf⟩ := cb2_some hf
  refine kcMV (q0 := 0) (ci := 10) (As := [.int 1]) (rest := []) (st1 := [.int v51]) (wf := (w_ND_copy ct a_this a_texts a_names a_pieces a_song a_fitting a_deal a_guesses a_wise a_spy a_sheets a_sheets0 a_sheets1 a_sheets2 a_sheets3 a_sheets0_items a_sheets1_items a_sheets2_items a_sheets3_items f_stale f_finding_51 f_sheets0_form f_sheets0_size f_sheets0_items f_sheets1_form f_sheets1_size f_sheets1_items f_sheets2_form f_sheets2_size f_sheets2_items f_sheets3_form f_sheets3_size f_sheets3_items)) C (c_ND_found l D ct a_this a_texts a_names a_pieces a_song a_fitting a_deal a_guesses a_wise a_spy a_sheets f_stale f_finding 1 v51 f_finding_51 _ hc51) ⟨rfl, rfl⟩ yn_yX10_found tw_558 tw_10 tw_556 ⟨Nat.le_of_ble_eq_true rfl, Nat.le_of_ble_eq_true rfl⟩ ⟨Nat.zero_le _, Nat.zero_le _⟩ hP hD hS hA [0] [1, 2, 3, 4, 5, 6, 7, 8, 9] [9, 0, 1, 2, 3, 4, 5, 6, 7, 8] rfl rfl rfl rfl rfl (by decide) rfl rfl rfl rfl rfl rfl hl.1 rfl rfl (Nat.le_of_ble_eq_true rfl) dX10_copy_51 rfl (fun H locs hP hD hS => ?_)
  obtain ⟨e1, e2, e3, e4, e5, e6⟩ := ti6 hf
  subst e1; subst e2; subst e3; subst e4; subst e5; subst e6
  exact kretM C hP hD hS dX10_copy_54
set_option maxHeartbeats 4000000 in
set_option maxRecDepth 100000 in
theorem t_ND_copy_b49v10 {p : Program} {l : Launch} {e : Env} {s : State} {m : MethodId} {args : Array Value} {below : List Frame} {meth : Method} {c : Code} {D : va_G} {ct : Nat → ClassId} (C : CX p s m args meth c RX10 cX10_copy 8 (some .int) D ct) {A : Nat → Prop} (hA : ∀ q : Nat, s.heap.size ≤ q → A q) (a_this a_texts a_names a_pieces a_song a_fitting a_deal a_guesses a_wise a_spy a_sheets a_sheets0 a_sheets1 a_sheets2 a_sheets3 a_sheets0_items a_sheets1_items a_sheets2_items a_sheets3_items : Nat) (f_stale : Int32) (f_sheets0_form : Int32) (f_sheets0_size : Int32) (f_sheets1_form : Int32) (f_sheets1_size : Int32) (f_sheets2_form : Int32) (f_sheets2_size : Int32) (f_sheets3_form : Int32) (f_sheets3_size : Int32) (x1 : Int32) (x2 : Int32) (x3 : Int32) (x4 : Int32) (x5 : Int32) (r : Int32) (r_finding : Int32) (r_sheets0_items : Nat → Int32) (r_sheets1_items : Nat → Int32) (r_sheets2_items : Nat → Int32) (r_sheets3_items : Nat → Int32) (hs_1 : x1 = 1) (hs_3 : x3 = 1) : ∀ (f_finding : Int32) (f_sheets0_items : Nat → Int32) (f_sheets1_items : Nat → Int32) (f_sheets2_items : Nat → Int32) (f_sheets3_items : Nat → Int32), ND_copy_b49v10 f_sheets0_form f_sheets0_size f_sheets1_form f_sheets1_size f_sheets2_form f_sheets2_size f_sheets3_form f_sheets3_size x1 x2 x3 x4 x5 f_finding f_sheets0_items f_sheets1_items f_sheets2_items f_sheets3_items = some (r, r_finding, r_sheets0_items, r_sheets1_items, r_sheets2_items, r_sheets3_items) → ∀ (H : Heap) (locs : List Loc), va_P D vwCl (w_ND_copy ct a_this a_texts a_names a_pieces a_song a_fitting a_deal a_guesses a_wise a_spy a_sheets a_sheets0 a_sheets1 a_sheets2 a_sheets3 a_sheets0_items a_sheets1_items a_sheets2_items a_sheets3_items f_stale f_finding f_sheets0_form f_sheets0_size f_sheets0_items f_sheets1_form f_sheets1_size f_sheets1_items f_sheets2_form f_sheets2_size f_sheets2_items f_sheets3_form f_sheets3_size f_sheets3_items) H → va_D A (w_ND_copy ct a_this a_texts a_names a_pieces a_song a_fitting a_deal a_guesses a_wise a_spy a_sheets a_sheets0 a_sheets1 a_sheets2 a_sheets3 a_sheets0_items a_sheets1_items a_sheets2_items a_sheets3_items f_stale f_finding f_sheets0_form f_sheets0_size f_sheets0_items f_sheets1_form f_sheets1_size f_sheets1_items f_sheets2_form f_sheets2_size f_sheets2_items f_sheets3_form f_sheets3_size f_sheets3_items) → va_S A s.heap H locs → ∀ ls : Array Slot, lv_has ls 8 [(0, .ref a_this)] → W p l e RM_ND_copy s m args below meth c H locs 0 0 (MQ below (QM D (some (.int r)) (w_ND_copy ct a_this a_texts a_names a_pieces a_song a_fitting a_deal a_guesses a_wise a_spy a_sheets a_sheets0 a_sheets1 a_sheets2 a_sheets3 a_sheets0_items a_sheets1_items a_sheets2_items a_sheets3_items f_stale r_finding f_sheets0_form f_sheets0_size r_sheets0_items f_sheets1_form f_sheets1_size r_sheets1_items f_sheets2_form f_sheets2_size r_sheets2_items f_sheets3_form f_sheets3_size r_sheets3_items) A) args s 0 0 A) (F0 m 49 ls []) := by
  obtain ⟨hx, hb, hr, hml, hown, hts, hlk, hK, hN⟩ := id C
  intro f_finding f_sheets0_items f_sheets1_items f_sheets2_items f_sheets3_items hf H locs hP hD hS ls hl
  unfold ND_copy_b49v10 at hf
  refine lv_aload_n hx hb dX10_copy_49 rfl (lv_at hl 0 rfl) ?_
  refine lv_iconst (v := 1) hx hb dX10_copy_50 (by decide) ?_
  obtain ⟨v51, f_finding_51, hc51, hf⟩ := cb2_some hf
  refine kcMV (q0 := 0) (ci := 10) (As := [.int 1]) (rest := []) (st1 := [.int v51]) (wf := (w_ND_copy ct a_this a_texts a_names a_pieces a_song a_fitting a_deal a_guesses a_wise a_spy a_sheets a_sheets0 a_sheets1 a_sheets2 a_sheets3 a_sheets0_items a_sheets1_items a_sheets2_items a_sheets3_items f_stale f_finding_51 f_sheets0_form f_sheets0_size f_sheets0_items f_sheets1_form f_sheets1_size f_sheets1_items f_sheets2_form f_sheets2_size f_sheets2_items f_sheets3_form f_sheets3_size f_sheets3_items)) C (c_ND_found l D ct a_this a_texts a_names a_pieces a_song a_fitting a_deal a_guesses a_wise a_spy a_sheets f_stale f_finding 1 v51 f_finding_51 _ hc51) ⟨rfl, rfl⟩ yn_yX10_found tw_558 tw_10 tw_556 ⟨Nat.le_of_ble_eq_true rfl, Nat.le_of_ble_eq_true rfl⟩ ⟨Nat.zero_le _, Nat.zero_le _⟩ hP hD hS hA [0] [1, 2, 3, 4, 5, 6, 7, 8, 9] [9, 0, 1, 2, 3, 4, 5, 6, 7, 8] rfl rfl rfl rfl rfl (by decide) rfl rfl rfl rfl rfl rfl hl.1 rfl rfl (Nat.le_of_ble_eq_true rfl) dX10_copy_51 rfl (fun H locs hP hD hS => ?_)
  obtain ⟨e1, e2, e3, e4, e5, e6⟩ := ti6 hf
  subst e1; subst e2; subst e3; subst e4; subst e5; subst e6
  exact kretM C hP hD hS dX10_copy_54
set_option maxHeartbeats 4000000 in
set_option maxRecDepth 100000 in
theorem t_ND_copy_b49v11 {p : Program} {l : Launch} {e : Env} {s : State} {m : MethodId} {args : Array Value} {below : List Frame} {meth : Method} {c : Code} {D : va_G} {ct : Nat → ClassId} (C : CX p s m args meth c RX10 cX10_copy 8 (some .int) D ct) {A : Nat → Prop} (hA : ∀ q : Nat, s.heap.size ≤ q → A q) (a_this a_texts a_names a_pieces a_song a_fitting a_deal a_guesses a_wise a_spy a_sheets a_sheets0 a_sheets1 a_sheets2 a_sheets3 a_sheets0_items a_sheets1_items a_sheets2_items a_sheets3_items : Nat) (f_stale : Int32) (f_sheets0_form : Int32) (f_sheets0_size : Int32) (f_sheets1_form : Int32) (f_sheets1_size : Int32) (f_sheets2_form : Int32) (f_sheets2_size : Int32) (f_sheets3_form : Int32) (f_sheets3_size : Int32) (x1 : Int32) (x2 : Int32) (x3 : Int32) (x4 : Int32) (x5 : Int32) (r : Int32) (r_finding : Int32) (r_sheets0_items : Nat → Int32) (r_sheets1_items : Nat → Int32) (r_sheets2_items : Nat → Int32) (r_sheets3_items : Nat → Int32) (hs_1 : x1 = 1) (hs_3 : x3 = 0) : ∀ (f_finding : Int32) (f_sheets0_items : Nat → Int32) (f_sheets1_items : Nat → Int32) (f_sheets2_items : Nat → Int32) (f_sheets3_items : Nat → Int32), ND_copy_b49v11 f_sheets0_form f_sheets0_size f_sheets1_form f_sheets1_size f_sheets2_form f_sheets2_size f_sheets3_form f_sheets3_size x1 x2 x3 x4 x5 f_finding f_sheets0_items f_sheets1_items f_sheets2_items f_sheets3_items = some (r, r_finding, r_sheets0_items, r_sheets1_items, r_sheets2_items, r_sheets3_items) → ∀ (H : Heap) (locs : List Loc), va_P D vwCl (w_ND_copy ct a_this a_texts a_names a_pieces a_song a_fitting a_deal a_guesses a_wise a_spy a_sheets a_sheets0 a_sheets1 a_sheets2 a_sheets3 a_sheets0_items a_sheets1_items a_sheets2_items a_sheets3_items f_stale f_finding f_sheets0_form f_sheets0_size f_sheets0_items f_sheets1_form f_sheets1_size f_sheets1_items f_sheets2_form f_sheets2_size f_sheets2_items f_sheets3_form f_sheets3_size f_sheets3_items) H → va_D A (w_ND_copy ct a_this a_texts a_names a_pieces a_song a_fitting a_deal a_guesses a_wise a_spy a_sheets a_sheets0 a_sheets1 a_sheets2 a_sheets3 a_sheets0_items a_sheets1_items a_sheets2_items a_sheets3_items f_stale f_finding f_sheets0_form f_sheets0_size f_sheets0_items f_sheets1_form f_sheets1_size f_sheets1_items f_sheets2_form f_sheets2_size f_sheets2_items f_sheets3_form f_sheets3_size f_sheets3_items) → va_S A s.heap H locs → ∀ ls : Array Slot, lv_has ls 8 [(0, .ref a_this)] → W p l e RM_ND_copy s m args below meth c H locs 0 0 (MQ below (QM D (some (.int r)) (w_ND_copy ct a_this a_texts a_names a_pieces a_song a_fitting a_deal a_guesses a_wise a_spy a_sheets a_sheets0 a_sheets1 a_sheets2 a_sheets3 a_sheets0_items a_sheets1_items a_sheets2_items a_sheets3_items f_stale r_finding f_sheets0_form f_sheets0_size r_sheets0_items f_sheets1_form f_sheets1_size r_sheets1_items f_sheets2_form f_sheets2_size r_sheets2_items f_sheets3_form f_sheets3_size r_sheets3_items) A) args s 0 0 A) (F0 m 49 ls []) := by
  obtain ⟨hx, hb, hr, hml, hown, hts, hlk, hK, hN⟩ := id C
  intro f_finding f_sheets0_items f_sheets1_items f_sheets2_items f_sheets3_items hf H locs hP hD hS ls hl
  unfold ND_copy_b49v11 at hf
  refine lv_aload_n hx hb dX10_copy_49 rfl (lv_at hl 0 rfl) ?_
  refine lv_iconst (v := 1) hx hb dX10_copy_50 (by decide) ?_
  obtain ⟨v51, f_finding_51, hc51, hf⟩ := cb2_some hf
  refine kcMV (q0 := 0) (ci := 10) (As := [.int 1]) (rest := []) (st1 := [.int v51]) (wf := (w_ND_copy ct a_this a_texts a_names a_pieces a_song a_fitting a_deal a_guesses a_wise a_spy a_sheets a_sheets0 a_sheets1 a_sheets2 a_sheets3 a_sheets0_items a_sheets1_items a_sheets2_items a_sheets3_items f_stale f_finding_51 f_sheets0_form f_sheets0_size f_sheets0_items f_sheets1_form f_sheets1_size f_sheets1_items f_sheets2_form f_sheets2_size f_sheets2_items f_sheets3_form f_sheets3_size f_sheets3_items)) C (c_ND_found l D ct a_this a_texts a_names a_pieces a_song a_fitting a_deal a_guesses a_wise a_spy a_sheets f_stale f_finding 1 v51 f_finding_51 _ hc51) ⟨rfl, rfl⟩ yn_yX10_found tw_558 tw_10 tw_556 ⟨Nat.le_of_ble_eq_true rfl, Nat.le_of_ble_eq_true rfl⟩ ⟨Nat.zero_le _, Nat.zero_le _⟩ hP hD hS hA [0] [1, 2, 3, 4, 5, 6, 7, 8, 9] [9, 0, 1, 2, 3, 4, 5, 6, 7, 8] rfl rfl rfl rfl rfl (by decide) rfl rfl rfl rfl rfl rfl hl.1 rfl rfl (Nat.le_of_ble_eq_true rfl) dX10_copy_51 rfl (fun H locs hP hD hS => ?_)
  obtain ⟨e1, e2, e3, e4, e5, e6⟩ := ti6 hf
  subst e1; subst e2; subst e3; subst e4; subst e5; subst e6
  exact kretM C hP hD hS dX10_copy_54
set_option maxHeartbeats 4000000 in
set_option maxRecDepth 100000 in
theorem t_ND_copy_b49v12 {p : Program} {l : Launch} {e : Env} {s : State} {m : MethodId} {args : Array Value} {below : List Frame} {meth : Method} {c : Code} {D : va_G} {ct : Nat → ClassId} (C : CX p s m args meth c RX10 cX10_copy 8 (some .int) D ct) {A : Nat → Prop} (hA : ∀ q : Nat, s.heap.size ≤ q → A q) (a_this a_texts a_names a_pieces a_song a_fitting a_deal a_guesses a_wise a_spy a_sheets a_sheets0 a_sheets1 a_sheets2 a_sheets3 a_sheets0_items a_sheets1_items a_sheets2_items a_sheets3_items : Nat) (f_stale : Int32) (f_sheets0_form : Int32) (f_sheets0_size : Int32) (f_sheets1_form : Int32) (f_sheets1_size : Int32) (f_sheets2_form : Int32) (f_sheets2_size : Int32) (f_sheets3_form : Int32) (f_sheets3_size : Int32) (x1 : Int32) (x2 : Int32) (x3 : Int32) (x4 : Int32) (x5 : Int32) (r : Int32) (r_finding : Int32) (r_sheets0_items : Nat → Int32) (r_sheets1_items : Nat → Int32) (r_sheets2_items : Nat → Int32) (r_sheets3_items : Nat → Int32) (hs_1 : x1 = 0) (hs_3 : x3 = 3) : ∀ (f_finding : Int32) (f_sheets0_items : Nat → Int32) (f_sheets1_items : Nat → Int32) (f_sheets2_items : Nat → Int32) (f_sheets3_items : Nat → Int32), ND_copy_b49v12 f_sheets0_form f_sheets0_size f_sheets1_form f_sheets1_size f_sheets2_form f_sheets2_size f_sheets3_form f_sheets3_size x1 x2 x3 x4 x5 f_finding f_sheets0_items f_sheets1_items f_sheets2_items f_sheets3_items = some (r, r_finding, r_sheets0_items, r_sheets1_items, r_sheets2_items, r_sheets3_items) → ∀ (H : Heap) (locs : List Loc), va_P D vwCl (w_ND_copy ct a_this a_texts a_names a_pieces a_song a_fitting a_deal a_guesses a_wise a_spy a_sheets a_sheets0 a_sheets1 a_sheets2 a_sheets3 a_sheets0_items a_sheets1_items a_sheets2_items a_sheets3_items f_stale f_finding f_sheets0_form f_sheets0_size f_sheets0_items f_sheets1_form f_sheets1_size f_sheets1_items f_sheets2_form f_sheets2_size f_sheets2_items f_sheets3_form f_sheets3_size f_sheets3_items) H → va_D A (w_ND_copy ct a_this a_texts a_names a_pieces a_song a_fitting a_deal a_guesses a_wise a_spy a_sheets a_sheets0 a_sheets1 a_sheets2 a_sheets3 a_sheets0_items a_sheets1_items a_sheets2_items a_sheets3_items f_stale f_finding f_sheets0_form f_sheets0_size f_sheets0_items f_sheets1_form f_sheets1_size f_sheets1_items f_sheets2_form f_sheets2_size f_sheets2_items f_sheets3_form f_sheets3_size f_sheets3_items) → va_S A s.heap H locs → ∀ ls : Array Slot, lv_has ls 8 [(0, .ref a_this)] → W p l e RM_ND_copy s m args below meth c H locs 0 0 (MQ below (QM D (some (.int r)) (w_ND_copy ct a_this a_texts a_names a_pieces a_song a_fitting a_deal a_guesses a_wise a_spy a_sheets a_sheets0 a_sheets1 a_sheets2 a_sheets3 a_sheets0_items a_sheets1_items a_sheets2_items a_sheets3_items f_stale r_finding f_sheets0_form f_sheets0_size r_sheets0_items f_sheets1_form f_sheets1_size r_sheets1_items f_sheets2_form f_sheets2_size r_sheets2_items f_sheets3_form f_sheets3_size r_sheets3_items) A) args s 0 0 A) (F0 m 49 ls []) := by
  obtain ⟨hx, hb, hr, hml, hown, hts, hlk, hK, hN⟩ := id C
  intro f_finding f_sheets0_items f_sheets1_items f_sheets2_items f_sheets3_items hf H locs hP hD hS ls hl
  unfold ND_copy_b49v12 at hf
  refine lv_aload_n hx hb dX10_copy_49 rfl (lv_at hl 0 rfl) ?_
  refine lv_iconst (v := 1) hx hb dX10_copy_50 (by decide) ?_
  obtain ⟨v51, f_finding_51, hc51, hf⟩ := cb2_some hf
  refine kcMV (q0 := 0) (ci := 10) (As := [.int 1]) (rest := []) (st1 := [.int v51]) (wf := (w_ND_copy ct a_this a_texts a_names a_pieces a_song a_fitting a_deal a_guesses a_wise a_spy a_sheets a_sheets0 a_sheets1 a_sheets2 a_sheets3 a_sheets0_items a_sheets1_items a_sheets2_items a_sheets3_items f_stale f_finding_51 f_sheets0_form f_sheets0_size f_sheets0_items f_sheets1_form f_sheets1_size f_sheets1_items f_sheets2_form f_sheets2_size f_sheets2_items f_sheets3_form f_sheets3_size f_sheets3_items)) C (c_ND_found l D ct a_this a_texts a_names a_pieces a_song a_fitting a_deal a_guesses a_wise a_spy a_sheets f_stale f_finding 1 v51 f_finding_51 _ hc51) ⟨rfl, rfl⟩ yn_yX10_found tw_558 tw_10 tw_556 ⟨Nat.le_of_ble_eq_true rfl, Nat.le_of_ble_eq_true rfl⟩ ⟨Nat.zero_le _, Nat.zero_le _⟩ hP hD hS hA [0] [1, 2, 3, 4, 5, 6, 7, 8, 9] [9, 0, 1, 2, 3, 4, 5, 6, 7, 8] rfl rfl rfl rfl rfl (by decide) rfl rfl rfl rfl rfl rfl hl.1 rfl rfl (Nat.le_of_ble_eq_true rfl) dX10_copy_51 rfl (fun H locs hP hD hS => ?_)
  obtain ⟨e1, e2, e3, e4, e5, e6⟩ := ti6 hf
  subst e1; subst e2; subst e3; subst e4; subst e5; subst e6
  exact kretM C hP hD hS dX10_copy_54
set_option maxHeartbeats 4000000 in
set_option maxRecDepth 100000 in
theorem t_ND_copy_b49v13 {p : Program} {l : Launch} {e : Env} {s : State} {m : MethodId} {args : Array Value} {below : List Frame} {meth : Method} {c : Code} {D : va_G} {ct : Nat → ClassId} (C : CX p s m args meth c RX10 cX10_copy 8 (some .int) D ct) {A : Nat → Prop} (hA : ∀ q : Nat, s.heap.size ≤ q → A q) (a_this a_texts a_names a_pieces a_song a_fitting a_deal a_guesses a_wise a_spy a_sheets a_sheets0 a_sheets1 a_sheets2 a_sheets3 a_sheets0_items a_sheets1_items a_sheets2_items a_sheets3_items : Nat) (f_stale : Int32) (f_sheets0_form : Int32) (f_sheets0_size : Int32) (f_sheets1_form : Int32) (f_sheets1_size : Int32) (f_sheets2_form : Int32) (f_sheets2_size : Int32) (f_sheets3_form : Int32) (f_sheets3_size : Int32) (x1 : Int32) (x2 : Int32) (x3 : Int32) (x4 : Int32) (x5 : Int32) (r : Int32) (r_finding : Int32) (r_sheets0_items : Nat → Int32) (r_sheets1_items : Nat → Int32) (r_sheets2_items : Nat → Int32) (r_sheets3_items : Nat → Int32) (hs_1 : x1 = 0) (hs_3 : x3 = 2) : ∀ (f_finding : Int32) (f_sheets0_items : Nat → Int32) (f_sheets1_items : Nat → Int32) (f_sheets2_items : Nat → Int32) (f_sheets3_items : Nat → Int32), ND_copy_b49v13 f_sheets0_form f_sheets0_size f_sheets1_form f_sheets1_size f_sheets2_form f_sheets2_size f_sheets3_form f_sheets3_size x1 x2 x3 x4 x5 f_finding f_sheets0_items f_sheets1_items f_sheets2_items f_sheets3_items = some (r, r_finding, r_sheets0_items, r_sheets1_items, r_sheets2_items, r_sheets3_items) → ∀ (H : Heap) (locs : List Loc), va_P D vwCl (w_ND_copy ct a_this a_texts a_names a_pieces a_song a_fitting a_deal a_guesses a_wise a_spy a_sheets a_sheets0 a_sheets1 a_sheets2 a_sheets3 a_sheets0_items a_sheets1_items a_sheets2_items a_sheets3_items f_stale f_finding f_sheets0_form f_sheets0_size f_sheets0_items f_sheets1_form f_sheets1_size f_sheets1_items f_sheets2_form f_sheets2_size f_sheets2_items f_sheets3_form f_sheets3_size f_sheets3_items) H → va_D A (w_ND_copy ct a_this a_texts a_names a_pieces a_song a_fitting a_deal a_guesses a_wise a_spy a_sheets a_sheets0 a_sheets1 a_sheets2 a_sheets3 a_sheets0_items a_sheets1_items a_sheets2_items a_sheets3_items f_stale f_finding f_sheets0_form f_sheets0_size f_sheets0_items f_sheets1_form f_sheets1_size f_sheets1_items f_sheets2_form f_sheets2_size f_sheets2_items f_sheets3_form f_sheets3_size f_sheets3_items) → va_S A s.heap H locs → ∀ ls : Array Slot, lv_has ls 8 [(0, .ref a_this)] → W p l e RM_ND_copy s m args below meth c H locs 0 0 (MQ below (QM D (some (.int r)) (w_ND_copy ct a_this a_texts a_names a_pieces a_song a_fitting a_deal a_guesses a_wise a_spy a_sheets a_sheets0 a_sheets1 a_sheets2 a_sheets3 a_sheets0_items a_sheets1_items a_sheets2_items a_sheets3_items f_stale r_finding f_sheets0_form f_sheets0_size r_sheets0_items f_sheets1_form f_sheets1_size r_sheets1_items f_sheets2_form f_sheets2_size r_sheets2_items f_sheets3_form f_sheets3_size r_sheets3_items) A) args s 0 0 A) (F0 m 49 ls []) := by
  obtain ⟨hx, hb, hr, hml, hown, hts, hlk, hK, hN⟩ := id C
  intro f_finding f_sheets0_items f_sheets1_items f_sheets2_items f_sheets3_items hf H locs hP hD hS ls hl
  unfold ND_copy_b49v13 at hf
  refine lv_aload_n hx hb dX10_copy_49 rfl (lv_at hl 0 rfl) ?_
  refine lv_iconst (v := 1) hx hb dX10_copy_50 (by decide) ?_
  obtain ⟨v51, f_finding_51, hc51, hf⟩ := cb2_some hf
  refine kcMV (q0 := 0) (ci := 10) (As := [.int 1]) (rest := []) (st1 := [.int v51]) (wf := (w_ND_copy ct a_this a_texts a_names a_pieces a_song a_fitting a_deal a_guesses a_wise a_spy a_sheets a_sheets0 a_sheets1 a_sheets2 a_sheets3 a_sheets0_items a_sheets1_items a_sheets2_items a_sheets3_items f_stale f_finding_51 f_sheets0_form f_sheets0_size f_sheets0_items f_sheets1_form f_sheets1_size f_sheets1_items f_sheets2_form f_sheets2_size f_sheets2_items f_sheets3_form f_sheets3_size f_sheets3_items)) C (c_ND_found l D ct a_this a_texts a_names a_pieces a_song a_fitting a_deal a_guesses a_wise a_spy a_sheets f_stale f_finding 1 v51 f_finding_51 _ hc51) ⟨rfl, rfl⟩ yn_yX10_found tw_558 tw_10 tw_556 ⟨Nat.le_of_ble_eq_true rfl, Nat.le_of_ble_eq_true rfl⟩ ⟨Nat.zero_le _, Nat.zero_le _⟩ hP hD hS hA [0] [1, 2, 3, 4, 5, 6, 7, 8, 9] [9, 0, 1, 2, 3, 4, 5, 6, 7, 8] rfl rfl rfl rfl rfl (by decide) rfl rfl rfl rfl rfl rfl hl.1 rfl rfl (Nat.le_of_ble_eq_true rfl) dX10_copy_51 rfl (fun H locs hP hD hS => ?_)
  obtain ⟨e1, e2, e3, e4, e5, e6⟩ := ti6 hf
  subst e1; subst e2; subst e3; subst e4; subst e5; subst e6
  exact kretM C hP hD hS dX10_copy_54
set_option maxHeartbeats 4000000 in
set_option maxRecDepth 100000 in
theorem t_ND_copy_b49v14 {p : Program} {l : Launch} {e : Env} {s : State} {m : MethodId} {args : Array Value} {below : List Frame} {meth : Method} {c : Code} {D : va_G} {ct : Nat → ClassId} (C : CX p s m args meth c RX10 cX10_copy 8 (some .int) D ct) {A : Nat → Prop} (hA : ∀ q : Nat, s.heap.size ≤ q → A q) (a_this a_texts a_names a_pieces a_song a_fitting a_deal a_guesses a_wise a_spy a_sheets a_sheets0 a_sheets1 a_sheets2 a_sheets3 a_sheets0_items a_sheets1_items a_sheets2_items a_sheets3_items : Nat) (f_stale : Int32) (f_sheets0_form : Int32) (f_sheets0_size : Int32) (f_sheets1_form : Int32) (f_sheets1_size : Int32) (f_sheets2_form : Int32) (f_sheets2_size : Int32) (f_sheets3_form : Int32) (f_sheets3_size : Int32) (x1 : Int32) (x2 : Int32) (x3 : Int32) (x4 : Int32) (x5 : Int32) (r : Int32) (r_finding : Int32) (r_sheets0_items : Nat → Int32) (r_sheets1_items : Nat → Int32) (r_sheets2_items : Nat → Int32) (r_sheets3_items : Nat → Int32) (hs_1 : x1 = 0) (hs_3 : x3 = 1) : ∀ (f_finding : Int32) (f_sheets0_items : Nat → Int32) (f_sheets1_items : Nat → Int32) (f_sheets2_items : Nat → Int32) (f_sheets3_items : Nat → Int32), ND_copy_b49v14 f_sheets0_form f_sheets0_size f_sheets1_form f_sheets1_size f_sheets2_form f_sheets2_size f_sheets3_form f_sheets3_size x1 x2 x3 x4 x5 f_finding f_sheets0_items f_sheets1_items f_sheets2_items f_sheets3_items = some (r, r_finding, r_sheets0_items, r_sheets1_items, r_sheets2_items, r_sheets3_items) → ∀ (H : Heap) (locs : List Loc), va_P D vwCl (w_ND_copy ct a_this a_texts a_names a_pieces a_song a_fitting a_deal a_guesses a_wise a_spy a_sheets a_sheets0 a_sheets1 a_sheets2 a_sheets3 a_sheets0_items a_sheets1_items a_sheets2_items a_sheets3_items f_stale f_finding f_sheets0_form f_sheets0_size f_sheets0_items f_sheets1_form f_sheets1_size f_sheets1_items f_sheets2_form f_sheets2_size f_sheets2_items f_sheets3_form f_sheets3_size f_sheets3_items) H → va_D A (w_ND_copy ct a_this a_texts a_names a_pieces a_song a_fitting a_deal a_guesses a_wise a_spy a_sheets a_sheets0 a_sheets1 a_sheets2 a_sheets3 a_sheets0_items a_sheets1_items a_sheets2_items a_sheets3_items f_stale f_finding f_sheets0_form f_sheets0_size f_sheets0_items f_sheets1_form f_sheets1_size f_sheets1_items f_sheets2_form f_sheets2_size f_sheets2_items f_sheets3_form f_sheets3_size f_sheets3_items) → va_S A s.heap H locs → ∀ ls : Array Slot, lv_has ls 8 [(0, .ref a_this)] → W p l e RM_ND_copy s m args below meth c H locs 0 0 (MQ below (QM D (some (.int r)) (w_ND_copy ct a_this a_texts a_names a_pieces a_song a_fitting a_deal a_guesses a_wise a_spy a_sheets a_sheets0 a_sheets1 a_sheets2 a_sheets3 a_sheets0_items a_sheets1_items a_sheets2_items a_sheets3_items f_stale r_finding f_sheets0_form f_sheets0_size r_sheets0_items f_sheets1_form f_sheets1_size r_sheets1_items f_sheets2_form f_sheets2_size r_sheets2_items f_sheets3_form f_sheets3_size r_sheets3_items) A) args s 0 0 A) (F0 m 49 ls []) := by
  obtain ⟨hx, hb, hr, hml, hown, hts, hlk, hK, hN⟩ := id C
  intro f_finding f_sheets0_items f_sheets1_items f_sheets2_items f_sheets3_items hf H locs hP hD hS ls hl
  unfold ND_copy_b49v14 at hf
  refine lv_aload_n hx hb dX10_copy_49 rfl (lv_at hl 0 rfl) ?_
  refine lv_iconst (v := 1) hx hb dX10_copy_50 (by decide) ?_
  obtain ⟨v51, f_finding_51, hc51, hf⟩ := cb2_some hf
  refine kcMV (q0 := 0) (ci := 10) (As := [.int 1]) (rest := []) (st1 := [.int v51]) (wf := (w_ND_copy ct a_this a_texts a_names a_pieces a_song a_fitting a_deal a_guesses a_wise a_spy a_sheets a_sheets0 a_sheets1 a_sheets2 a_sheets3 a_sheets0_items a_sheets1_items a_sheets2_items a_sheets3_items f_stale f_finding_51 f_sheets0_form f_sheets0_size f_sheets0_items f_sheets1_form f_sheets1_size f_sheets1_items f_sheets2_form f_sheets2_size f_sheets2_items f_sheets3_form f_sheets3_size f_sheets3_items)) C (c_ND_found l D ct a_this a_texts a_names a_pieces a_song a_fitting a_deal a_guesses a_wise a_spy a_sheets f_stale f_finding 1 v51 f_finding_51 _ hc51) ⟨rfl, rfl⟩ yn_yX10_found tw_558 tw_10 tw_556 ⟨Nat.le_of_ble_eq_true rfl, Nat.le_of_ble_eq_true rfl⟩ ⟨Nat.zero_le _, Nat.zero_le _⟩ hP hD hS hA [0] [1, 2, 3, 4, 5, 6, 7, 8, 9] [9, 0, 1, 2, 3, 4, 5, 6, 7, 8] rfl rfl rfl rfl rfl (by decide) rfl rfl rfl rfl rfl rfl hl.1 rfl rfl (Nat.le_of_ble_eq_true rfl) dX10_copy_51 rfl (fun H locs hP hD hS => ?_)
  obtain ⟨e1, e2, e3, e4, e5, e6⟩ := ti6 hf
  subst e1; subst e2; subst e3; subst e4; subst e5; subst e6
  exact kretM C hP hD hS dX10_copy_54
set_option maxHeartbeats 4000000 in
set_option maxRecDepth 100000 in
theorem t_ND_copy_b49v15 {p : Program} {l : Launch} {e : Env} {s : State} {m : MethodId} {args : Array Value} {below : List Frame} {meth : Method} {c : Code} {D : va_G} {ct : Nat → ClassId} (C : CX p s m args meth c RX10 cX10_copy 8 (some .int) D ct) {A : Nat → Prop} (hA : ∀ q : Nat, s.heap.size ≤ q → A q) (a_this a_texts a_names a_pieces a_song a_fitting a_deal a_guesses a_wise a_spy a_sheets a_sheets0 a_sheets1 a_sheets2 a_sheets3 a_sheets0_items a_sheets1_items a_sheets2_items a_sheets3_items : Nat) (f_stale : Int32) (f_sheets0_form : Int32) (f_sheets0_size : Int32) (f_sheets1_form : Int32) (f_sheets1_size : Int32) (f_sheets2_form : Int32) (f_sheets2_size : Int32) (f_sheets3_form : Int32) (f_sheets3_size : Int32) (x1 : Int32) (x2 : Int32) (x3 : Int32) (x4 : Int32) (x5 : Int32) (r : Int32) (r_finding : Int32) (r_sheets0_items : Nat → Int32) (r_sheets1_items : Nat → Int32) (r_sheets2_items : Nat → Int32) (r_sheets3_items : Nat → Int32) (hs_1 : x1 = 0) (hs_3 : x3 = 0) : ∀ (f_finding : Int32) (f_sheets0_items : Nat → Int32) (f_sheets1_items : Nat → Int32) (f_sheets2_items : Nat → Int32) (f_sheets3_items : Nat → Int32), ND_copy_b49v15 f_sheets0_form f_sheets0_size f_sheets1_form f_sheets1_size f_sheets2_form f_sheets2_size f_sheets3_form f_sheets3_size x1 x2 x3 x4 x5 f_finding f_sheets0_items f_sheets1_items f_sheets2_items f_sheets3_items = some (r, r_finding, r_sheets0_items, r_sheets1_items, r_sheets2_items, r_sheets3_items) → ∀ (H : Heap) (locs : List Loc), va_P D vwCl (w_ND_copy ct a_this a_texts a_names a_pieces a_song a_fitting a_deal a_guesses a_wise a_spy a_sheets a_sheets0 a_sheets1 a_sheets2 a_sheets3 a_sheets0_items a_sheets1_items a_sheets2_items a_sheets3_items f_stale f_finding f_sheets0_form f_sheets0_size f_sheets0_items f_sheets1_form f_sheets1_size f_sheets1_items f_sheets2_form f_sheets2_size f_sheets2_items f_sheets3_form f_sheets3_size f_sheets3_items) H → va_D A (w_ND_copy ct a_this a_texts a_names a_pieces a_song a_fitting a_deal a_guesses a_wise a_spy a_sheets a_sheets0 a_sheets1 a_sheets2 a_sheets3 a_sheets0_items a_sheets1_items a_sheets2_items a_sheets3_items f_stale f_finding f_sheets0_form f_sheets0_size f_sheets0_items f_sheets1_form f_sheets1_size f_sheets1_items f_sheets2_form f_sheets2_size f_sheets2_items f_sheets3_form f_sheets3_size f_sheets3_items) → va_S A s.heap H locs → ∀ ls : Array Slot, lv_has ls 8 [(0, .ref a_this)] → W p l e RM_ND_copy s m args below meth c H locs 0 0 (MQ below (QM D (some (.int r)) (w_ND_copy ct a_this a_texts a_names a_pieces a_song a_fitting a_deal a_guesses a_wise a_spy a_sheets a_sheets0 a_sheets1 a_sheets2 a_sheets3 a_sheets0_items a_sheets1_items a_sheets2_items a_sheets3_items f_stale r_finding f_sheets0_form f_sheets0_size r_sheets0_items f_sheets1_form f_sheets1_size r_sheets1_items f_sheets2_form f_sheets2_size r_sheets2_items f_sheets3_form f_sheets3_size r_sheets3_items) A) args s 0 0 A) (F0 m 49 ls []) := by
  obtain ⟨hx, hb, hr, hml, hown, hts, hlk, hK, hN⟩ := id C
  intro f_finding f_sheets0_items f_sheets1_items f_sheets2_items f_sheets3_items hf H locs hP hD hS ls hl
  unfold ND_copy_b49v15 at hf
  refine lv_aload_n hx hb dX10_copy_49 rfl (lv_at hl 0 rfl) ?_
  refine lv_iconst (v := 1) hx hb dX10_copy_50 (by decide) ?_
  obtain ⟨v51, f_finding_51, hc51, hf⟩ := cb2_some hf
  refine kcMV (q0 := 0) (ci := 10) (As := [.int 1]) (rest := []) (st1 := [.int v51]) (wf := (w_ND_copy ct a_this a_texts a_names a_pieces a_song a_fitting a_deal a_guesses a_wise a_spy a_sheets a_sheets0 a_sheets1 a_sheets2 a_sheets3 a_sheets0_items a_sheets1_items a_sheets2_items a_sheets3_items f_stale f_finding_51 f_sheets0_form f_sheets0_size f_sheets0_items f_sheets1_form f_sheets1_size f_sheets1_items f_sheets2_form f_sheets2_size f_sheets2_items f_sheets3_form f_sheets3_size f_sheets3_items)) C (c_ND_found l D ct a_this a_texts a_names a_pieces a_song a_fitting a_deal a_guesses a_wise a_spy a_sheets f_stale f_finding 1 v51 f_finding_51 _ hc51) ⟨rfl, rfl⟩ yn_yX10_found tw_558 tw_10 tw_556 ⟨Nat.le_of_ble_eq_true rfl, Nat.le_of_ble_eq_true rfl⟩ ⟨Nat.zero_le _, Nat.zero_le _⟩ hP hD hS hA [0] [1, 2, 3, 4, 5, 6, 7, 8, 9] [9, 0, 1, 2, 3, 4, 5, 6, 7, 8] rfl rfl rfl rfl rfl (by decide) rfl rfl rfl rfl rfl rfl hl.1 rfl rfl (Nat.le_of_ble_eq_true rfl) dX10_copy_51 rfl (fun H locs hP hD hS => ?_)
  obtain ⟨e1, e2, e3, e4, e5, e6⟩ := ti6 hf
  subst e1; subst e2; subst e3; subst e4; subst e5; subst e6
  exact kretM C hP hD hS dX10_copy_54
set_option maxHeartbeats 4000000 in
set_option maxRecDepth 100000 in
theorem c_ND_copy (l : Launch) (D : va_G) (ct : Nat → ClassId) (a_this a_texts a_names a_pieces a_song a_fitting a_deal a_guesses a_wise a_spy a_sheets a_sheets0 a_sheets1 a_sheets2 a_sheets3 a_sheets0_items a_sheets1_items a_sheets2_items a_sheets3_items : Nat) (f_stale : Int32) (f_sheets0_form : Int32) (f_sheets0_size : Int32) (f_sheets1_form : Int32) (f_sheets1_size : Int32) (f_sheets2_form : Int32) (f_sheets2_size : Int32) (f_sheets3_form : Int32) (f_sheets3_size : Int32) (f_finding : Int32) (f_sheets0_items : Nat → Int32) (f_sheets1_items : Nat → Int32) (f_sheets2_items : Nat → Int32) (f_sheets3_items : Nat → Int32) (x1 : Int32) (x2 : Int32) (x3 : Int32) (x4 : Int32) (x5 : Int32) (r : Int32) (r_finding : Int32) (r_sheets0_items : Nat → Int32) (r_sheets1_items : Nat → Int32) (r_sheets2_items : Nat → Int32) (r_sheets3_items : Nat → Int32) (sz : Nat) (hf : ND_copy f_sheets0_form f_sheets0_size f_sheets1_form f_sheets1_size f_sheets2_form f_sheets2_size f_sheets3_form f_sheets3_size f_finding f_sheets0_items f_sheets1_items f_sheets2_items f_sheets3_items x1 x2 x3 x4 x5 = some (r, r_finding, r_sheets0_items, r_sheets1_items, r_sheets2_items, r_sheets3_items)) : Met l yX10_copy (WS yX10_copy cX10_copy 8 (some .int)) RM_ND_copy (va_Pc [.ref a_this, .int x1, .int x2, .int x3, .int x4, .int x5] (PM D ct sz (w_ND_copy ct a_this a_texts a_names a_pieces a_song a_fitting a_deal a_guesses a_wise a_spy a_sheets a_sheets0 a_sheets1 a_sheets2 a_sheets3 a_sheets0_items a_sheets1_items a_sheets2_items a_sheets3_items f_stale f_finding f_sheets0_form f_sheets0_size f_sheets0_items f_sheets1_form f_sheets1_size f_sheets1_items f_sheets2_form f_sheets2_size f_sheets2_items f_sheets3_form f_sheets3_size f_sheets3_items))) (QM D (some (.int r)) (w_ND_copy ct a_this a_texts a_names a_pieces a_song a_fitting a_deal a_guesses a_wise a_spy a_sheets a_sheets0 a_sheets1 a_sheets2 a_sheets3 a_sheets0_items a_sheets1_items a_sheets2_items a_sheets3_items f_stale r_finding f_sheets0_form f_sheets0_size r_sheets0_items f_sheets1_form f_sheets1_size r_sheets1_items f_sheets2_form f_sheets2_size r_sheets2_items f_sheets3_form f_sheets3_size r_sheets3_items) (va_A (w_ND_copy ct a_this a_texts a_names a_pieces a_song a_fitting a_deal a_guesses a_wise a_spy a_sheets a_sheets0 a_sheets1 a_sheets2 a_sheets3 a_sheets0_items a_sheets1_items a_sheets2_items a_sheets3_items f_stale f_finding f_sheets0_form f_sheets0_size f_sheets0_items f_sheets1_form f_sheets1_size f_sheets1_items f_sheets2_form f_sheets2_size f_sheets2_items f_sheets3_form f_sheets3_size f_sheets3_items) sz)) 0 0 (va_A (w_ND_copy ct a_this a_texts a_names a_pieces a_song a_fitting a_deal a_guesses a_wise a_spy a_sheets a_sheets0 a_sheets1 a_sheets2 a_sheets3 a_sheets0_items a_sheets1_items a_sheets2_items a_sheets3_items f_stale f_finding f_sheets0_form f_sheets0_size f_sheets0_items f_sheets1_form f_sheets1_size f_sheets1_items f_sheets2_form f_sheets2_size f_sheets2_items f_sheets3_form f_sheets3_size f_sheets3_items) sz) := by
  refine kMetM yn_yX10_copy rfl (Nat.le_of_ble_eq_true rfl) ?_
  intro p e s m args below meth c A C hA hP hD ls hl
  have hl : lv_has ls 8 [(0, .ref a_this), (1, .int x1), (2, .int x2), (3, .int x3), (4, .int x4), (5, .int x5)] := hl
  have hS : va_S A s.heap s.heap [] := va_S.rf
  obtain ⟨hx, hb, hr, hml, hown, hts, hlk, hK, hN⟩ := id C
  unfold ND_copy at hf
  refine lv_iload_n hx hb dX10_copy_0 rfl (lv_at hl 1 rfl) ?_
  obtain ⟨v1, hc1, hf⟩ := cb1_some hf
  refine kcRS (As := [.int x1]) (rest := []) (st1 := [.int v1]) C (c_ND_isSheet l D ct x1 v1 hc1) ⟨rfl, rfl⟩ yn_yX10_isSheet tw_550 tw_549 ⟨Nat.le_of_ble_eq_true rfl, Nat.le_of_ble_eq_true rfl⟩ ⟨Nat.zero_le _, Nat.zero_le _⟩ hP [] rfl hl.1 rfl rfl (Nat.le_of_ble_eq_true rfl) dX10_copy_1 rfl ?_
  refine lv_if_eq (tgt := 14) hx hb dX10_copy_4 (by decide) (fun hc => ?_) (fun hc => ?_)
  · have hf := kpos hc hf
    refine lv_bipush (v := (-2)) hx hb dX10_copy_14 (by decide) ?_
    obtain ⟨e1, e2, e3, e4, e5, e6⟩ := ti6 hf
    subst e1; subst e2; subst e3; subst e4; subst e5; subst e6
    exact kretM C hP hD hS dX10_copy_16
  · have hf := kneg hc hf
    refine lv_iload_n hx hb dX10_copy_7 rfl (lv_at hl 3 rfl) ?_
    obtain ⟨v8, hc8, hf⟩ := cb1_some hf
    refine kcRS (As := [.int x3]) (rest := []) (st1 := [.int v8]) C (c_ND_isSheet l D ct x3 v8 hc8) ⟨rfl, rfl⟩ yn_yX10_isSheet tw_550 tw_549 ⟨Nat.le_of_ble_eq_true rfl, Nat.le_of_ble_eq_true rfl⟩ ⟨Nat.zero_le _, Nat.zero_le _⟩ hP [] rfl hl.1 rfl rfl (Nat.le_of_ble_eq_true rfl) dX10_copy_8 rfl ?_
    refine lv_if_ne (tgt := 17) hx hb dX10_copy_11 (by decide) (fun hc => ?_) (fun hc => ?_)
    · have hf := kneg hc hf
      refine lv_aload_n hx hb dX10_copy_17 rfl (lv_at hl 0 rfl) ?_
      refine va_get (ci := 10) (v := .ref a_sheets) (C := RX10) (T := TX10) (N := 12) hx hb hts inX10 hown hK hP 0 rfl rfl 9 (by decide) (hts _ tw_292) (fun _ h9 => h9) rfl dX10_copy_18 ?_
      refine lv_iload_n hx hb dX10_copy_21 rfl (lv_at hl 1 rfl) ?_
      by_cases hs_1 : x1 = 0
      · have hf := kpos hs_1 hf
        refine kaald hx hb hK hP 1 4 rfl rfl (k := 0) (by rw [hs_1]; rfl) rfl (by decide) dX10_copy_22 ?_
        refine lv_astore (lv' := [(6, .ref a_sheets0), (0, .ref a_this), (1, .int x1), (2, .int x2), (3, .int x3), (4, .int x4), (5, .int x5)]) hx hb dX10_copy_23 hl (by decide) rfl (fun ls hl => ?_)
        refine lv_aload_n hx hb dX10_copy_25 rfl (lv_at hl 1 rfl) ?_
        refine va_get (ci := 10) (v := .ref a_sheets) (C := RX10) (T := TX10) (N := 12) hx hb hts inX10 hown hK hP 0 rfl rfl 9 (by decide) (hts _ tw_292) (fun _ h9 => h9) rfl dX10_copy_26 ?_
        refine lv_iload_n hx hb dX10_copy_29 rfl (lv_at hl 4 rfl) ?_
        by_cases hs_3 : x3 = 0
        · have hf := kpos hs_3 hf
          refine kaald hx hb hK hP 1 4 rfl rfl (k := 0) (by rw [hs_3]; rfl) rfl (by decide) dX10_copy_30 ?_
          refine lv_astore (lv' := [(7, .ref a_sheets0), (6, .ref a_sheets0), (0, .ref a_this), (1, .int x1), (2, .int x2), (3, .int x3), (4, .int x4), (5, .int x5)]) hx hb dX10_copy_31 hl (by decide) rfl (fun ls hl => ?_)
          refine lv_aload hx hb dX10_copy_33 (lv_at hl 1 rfl) ?_
          obtain ⟨v35, hc35, hf⟩ := cb1_some hf
          refine kcRV (q0 := 2) (ci := 5) (As := []) (rest := []) (st1 := [.int v35]) C (c_Sh_isLost l D ct a_sheets0 a_sheets0_items f_sheets0_form f_sheets0_size v35 hc35) ⟨rfl, rfl⟩ yn_yX5_isLost tw_553 tw_554 tw_552 ⟨Nat.le_of_ble_eq_true rfl, Nat.le_of_ble_eq_true rfl⟩ ⟨Nat.zero_le _, Nat.zero_le _⟩ hP [2] rfl rfl rfl rfl hl.1 rfl rfl (Nat.le_of_ble_eq_true rfl) dX10_copy_35 rfl ?_
          refine lv_if_ne (tgt := 49) hx hb dX10_copy_38 (by decide) (fun hc => ?_) (fun hc => ?_)
          · have hf := kneg hc hf
            exact t_ND_copy_b49v15 C hA a_this a_texts a_names a_pieces a_song a_fitting a_deal a_guesses a_wise a_spy a_sheets a_sheets0 a_sheets1 a_sheets2 a_sheets3 a_sheets0_items a_sheets1_items a_sheets2_items a_sheets3_items f_stale f_sheets0_form f_sheets0_size f_sheets1_form f_sheets1_size f_sheets2_form f_sheets2_size f_sheets3_form f_sheets3_size x1 x2 x3 x4 x5 r r_finding r_sheets0_items r_sheets1_items r_sheets2_items r_sheets3_items hs_1 hs_3 f_finding f_sheets0_items f_sheets1_items f_sheets2_items f_sheets3_items hf _ _ hP hD hS _ (lv_sub hl [2] rfl)
          · have hf := kpos hc hf
            refine lv_aload hx hb dX10_copy_41 (lv_at hl 0 rfl) ?_
            obtain ⟨v43, hc43, hf⟩ := cb1_some hf
            refine kcRV (q0 := 2) (ci := 5) (As := []) (rest := []) (st1 := [.int v43]) C (c_Sh_isLost l D ct a_sheets0 a_sheets0_items f_sheets0_form f_sheets0_size v43 hc43) ⟨rfl, rfl⟩ yn_yX5_isLost tw_553 tw_554 tw_552 ⟨Nat.le_of_ble_eq_true rfl, Nat.le_of_ble_eq_true rfl⟩ ⟨Nat.zero_le _, Nat.zero_le _⟩ hP [2] rfl rfl rfl rfl hl.1 rfl rfl (Nat.le_of_ble_eq_true rfl) dX10_copy_43 rfl ?_
            refine lv_if_eq (tgt := 55) hx hb dX10_copy_46 (by decide) (fun hc => ?_) (fun hc => ?_)
            · have hf := kpos hc hf
              refine lv_aload hx hb dX10_copy_55 (lv_at hl 1 rfl) ?_
              obtain ⟨v57, hc57, hf⟩ := cb1_some hf
              refine kcRV (q0 := 2) (ci := 5) (As := []) (rest := []) (st1 := [.int v57]) C (c_Sh_form l D ct a_sheets0 a_sheets0_items f_sheets0_size f_sheets0_form v57 hc57) ⟨rfl, rfl⟩ yn_yX5_form tw_853 tw_854 tw_852 ⟨Nat.le_of_ble_eq_true rfl, Nat.le_of_ble_eq_true rfl⟩ ⟨Nat.zero_le _, Nat.zero_le _⟩ hP [2] rfl rfl rfl rfl hl.1 rfl rfl (Nat.le_of_ble_eq_true rfl) dX10_copy_57 rfl ?_
              refine lv_aload hx hb dX10_copy_60 (lv_at hl 0 rfl) ?_
              obtain ⟨v62, hc62, hf⟩ := cb1_some hf
              refine kcRV (q0 := 2) (ci := 5) (As := []) (rest := [.int v57]) (st1 := [.int v62, .int v57]) C (c_Sh_form l D ct a_sheets0 a_sheets0_items f_sheets0_size f_sheets0_form v62 hc62) ⟨rfl, rfl⟩ yn_yX5_form tw_853 tw_854 tw_852 ⟨Nat.le_of_ble_eq_true rfl, Nat.le_of_ble_eq_true rfl⟩ ⟨Nat.zero_le _, Nat.zero_le _⟩ hP [2] rfl rfl rfl rfl hl.1 rfl rfl (Nat.le_of_ble_eq_true rfl) dX10_copy_62 rfl ?_
              refine lv_icmp_eq (tgt := 74) hx hb dX10_copy_65 (by decide) (fun hc => ?_) (fun hc => ?_)
              · have hf := kpos hc hf
                refine lv_aload hx hb dX10_copy_74 (lv_at hl 1 rfl) ?_
                refine lv_iload_n hx hb dX10_copy_76 rfl (lv_at hl 4 rfl) ?_
                refine lv_iload hx hb dX10_copy_77 (lv_at hl 7 rfl) ?_
                obtain ⟨v79, hc79, hf⟩ := cb1_some hf
                refine kcRV (q0 := 2) (ci := 5) (As := [.int x2, .int x5]) (rest := []) (st1 := [.int v79]) C (c_Sh_holds l D ct a_sheets0 a_sheets0_items f_sheets0_form f_sheets0_size x2 x5 v79 hc79) ⟨rfl, rfl⟩ yn_yX5_holds tw_857 tw_858 tw_856 ⟨Nat.le_of_ble_eq_true rfl, Nat.le_of_ble_eq_true rfl⟩ ⟨Nat.zero_le _, Nat.zero_le _⟩ hP [2] rfl rfl rfl rfl hl.1 rfl rfl (Nat.le_of_ble_eq_true rfl) dX10_copy_79 rfl ?_
                refine lv_if_eq (tgt := 97) hx hb dX10_copy_82 (by decide) (fun hc => ?_) (fun hc => ?_)
                · have hf := kpos hc hf
                  exact t_ND_copy_b97v15 C hA a_this a_texts a_names a_pieces a_song a_fitting a_deal a_guesses a_wise a_spy a_sheets a_sheets0 a_sheets1 a_sheets2 a_sheets3 a_sheets0_items a_sheets1_items a_sheets2_items a_sheets3_items f_stale f_sheets0_form f_sheets0_size f_sheets1_form f_sheets1_size f_sheets2_form f_sheets2_size f_sheets3_form f_sheets3_size x1 x2 x3 x4 x5 r r_finding r_sheets0_items r_sheets1_items r_sheets2_items r_sheets3_items hs_1 hs_3 f_finding f_sheets0_items f_sheets1_items f_sheets2_items f_sheets3_items hf _ _ hP hD hS _ (lv_sub hl [2] rfl)
                · have hf := kneg hc hf
                  refine lv_aload hx hb dX10_copy_85 (lv_at hl 0 rfl) ?_
                  refine lv_iload hx hb dX10_copy_87 (lv_at hl 6 rfl) ?_
                  refine lv_iload hx hb dX10_copy_89 (lv_at hl 7 rfl) ?_
                  obtain ⟨v91, hc91, hf⟩ := cb1_some hf
                  refine kcRV (q0 := 2) (ci := 5) (As := [.int x4, .int x5]) (rest := []) (st1 := [.int v91]) C (c_Sh_holds l D ct a_sheets0 a_sheets0_items f_sheets0_form f_sheets0_size x4 x5 v91 hc91) ⟨rfl, rfl⟩ yn_yX5_holds tw_857 tw_858 tw_856 ⟨Nat.le_of_ble_eq_true rfl, Nat.le_of_ble_eq_true rfl⟩ ⟨Nat.zero_le _, Nat.zero_le _⟩ hP [2] rfl rfl rfl rfl hl.1 rfl rfl (Nat.le_of_ble_eq_true rfl) dX10_copy_91 rfl ?_
                  refine lv_if_ne (tgt := 103) hx hb dX10_copy_94 (by decide) (fun hc => ?_) (fun hc => ?_)
                  · have hf := kneg hc hf
                    refine lv_aload hx hb dX10_copy_103 (lv_at hl 0 rfl) ?_
                    refine lv_aload hx hb dX10_copy_105 (lv_at hl 1 rfl) ?_
                    refine lv_iload_n hx hb dX10_copy_107 rfl (lv_at hl 4 rfl) ?_
                    refine lv_iload hx hb dX10_copy_108 (lv_at hl 6 rfl) ?_
                    refine lv_iload hx hb dX10_copy_110 (lv_at hl 7 rfl) ?_
                    obtain ⟨f_sheets0_items_112, hc112, hf⟩ := cb1_some hf
                    refine kcMV (q0 := 2) (ci := 5) (As := [.ref a_sheets0, .int x2, .int x4, .int x5]) (rest := []) (st1 := []) (wf := (w_ND_copy ct a_this a_texts a_names a_pieces a_song a_fitting a_deal a_guesses a_wise a_spy a_sheets a_sheets0 a_sheets1 a_sheets2 a_sheets3 a_sheets0_items a_sheets1_items a_sheets2_items a_sheets3_items f_stale f_finding f_sheets0_form f_sheets0_size f_sheets0_items_112 f_sheets1_form f_sheets1_size f_sheets1_items f_sheets2_form f_sheets2_size f_sheets2_items f_sheets3_form f_sheets3_size f_sheets3_items)) C (c_Sh_take_same l D ct a_sheets0 a_sheets0_items f_sheets0_form f_sheets0_size f_sheets0_items x2 x4 x5 f_sheets0_items_112 _ hc112) ⟨rfl, rfl⟩ yn_yX5_take tw_878 tw_879 tw_877 ⟨Nat.le_of_ble_eq_true rfl, Nat.le_of_ble_eq_true rfl⟩ ⟨Nat.zero_le _, Nat.zero_le _⟩ hP hD hS hA [2, 3] [0, 1, 4, 5, 6, 7, 8, 9] [0, 1, 8, 9, 2, 3, 4, 5, 6, 7] rfl rfl rfl rfl rfl (by decide) rfl rfl rfl rfl rfl rfl hl.1 rfl rfl (Nat.le_of_ble_eq_true rfl) dX10_copy_112 rfl (fun H locs hP hD hS => ?_)
                    refine lv_iconst (v := 1) hx hb dX10_copy_115 (by decide) ?_
                    obtain ⟨e1, e2, e3, e4, e5, e6⟩ := ti6 hf
                    subst e1; subst e2; subst e3; subst e4; subst e5; subst e6
                    exact kretM C hP hD hS dX10_copy_116
                  · have hf := kpos hc hf
                    exact t_ND_copy_b97v15 C hA a_this a_texts a_names a_pieces a_song a_fitting a_deal a_guesses a_wise a_spy a_sheets a_sheets0 a_sheets1 a_sheets2 a_sheets3 a_sheets0_items a_sheets1_items a_sheets2_items a_sheets3_items f_stale f_sheets0_form f_sheets0_size f_sheets1_form f_sheets1_size f_sheets2_form f_sheets2_size f_sheets3_form f_sheets3_size x1 x2 x3 x4 x5 r r_finding r_sheets0_items r_sheets1_items r_sheets2_items r_sheets3_items hs_1 hs_3 f_finding f_sheets0_items f_sheets1_items f_sheets2_items f_sheets3_items hf _ _ hP hD hS _ (lv_sub hl [2] rfl)
              · have hf := kneg hc hf
                refine lv_aload_n hx hb dX10_copy_68 rfl (lv_at hl 2 rfl) ?_
                refine lv_iconst (v := 4) hx hb dX10_copy_69 (by decide) ?_
                obtain ⟨v70, f_finding_70, hc70, hf⟩ := cb2_some hf
                refine kcMV (q0 := 0) (ci := 10) (As := [.int 4]) (rest := []) (st1 := [.int v70]) (wf := (w_ND_copy ct a_this a_texts a_names a_pieces a_song a_fitting a_deal a_guesses a_wise a_spy a_sheets a_sheets0 a_sheets1 a_sheets2 a_sheets3 a_sheets0_items a_sheets1_items a_sheets2_items a_sheets3_items f_stale f_finding_70 f_sheets0_form f_sheets0_size f_sheets0_items f_sheets1_form f_sheets1_size f_sheets1_items f_sheets2_form f_sheets2_size f_sheets2_items f_sheets3_form f_sheets3_size f_sheets3_items)) C (c_ND_found l D ct a_this a_texts a_names a_pieces a_song a_fitting a_deal a_guesses a_wise a_spy a_sheets f_stale f_finding 4 v70 f_finding_70 _ hc70) ⟨rfl, rfl⟩ yn_yX10_found tw_558 tw_10 tw_556 ⟨Nat.le_of_ble_eq_true rfl, Nat.le_of_ble_eq_true rfl⟩ ⟨Nat.zero_le _, Nat.zero_le _⟩ hP hD hS hA [0] [1, 2, 3, 4, 5, 6, 7, 8, 9] [9, 0, 1, 2, 3, 4, 5, 6, 7, 8] rfl rfl rfl rfl rfl (by decide) rfl rfl rfl rfl rfl rfl hl.1 rfl rfl (Nat.le_of_ble_eq_true rfl) dX10_copy_70 rfl (fun H locs hP hD hS => ?_)
                obtain ⟨e1, e2, e3, e4, e5, e6⟩ := ti6 hf
                subst e1; subst e2; subst e3; subst e4; subst e5; subst e6
                exact kretM C hP hD hS dX10_copy_73
            · have hf := kneg hc hf
              exact t_ND_copy_b49v15 C hA a_this a_texts a_names a_pieces a_song a_fitting a_deal a_guesses a_wise a_spy a_sheets a_sheets0 a_sheets1 a_sheets2 a_sheets3 a_sheets0_items a_sheets1_items a_sheets2_items a_sheets3_items f_stale f_sheets0_form f_sheets0_size f_sheets1_form f_sheets1_size f_sheets2_form f_sheets2_size f_sheets3_form f_sheets3_size x1 x2 x3 x4 x5 r r_finding r_sheets0_items r_sheets1_items r_sheets2_items r_sheets3_items hs_1 hs_3 f_finding f_sheets0_items f_sheets1_items f_sheets2_items f_sheets3_items hf _ _ hP hD hS _ (lv_sub hl [2] rfl)
        · have hf := kneg hs_3 hf
          by_cases hs_3 : x3 = 1
          · have hf := kpos hs_3 hf
            refine kaald hx hb hK hP 1 4 rfl rfl (k := 1) (by rw [hs_3]; rfl) rfl (by decide) dX10_copy_30 ?_
            refine lv_astore (lv' := [(7, .ref a_sheets1), (6, .ref a_sheets0), (0, .ref a_this), (1, .int x1), (2, .int x2), (3, .int x3), (4, .int x4), (5, .int x5)]) hx hb dX10_copy_31 hl (by decide) rfl (fun ls hl => ?_)
            refine lv_aload hx hb dX10_copy_33 (lv_at hl 1 rfl) ?_
            obtain ⟨v35, hc35, hf⟩ := cb1_some hf
            refine kcRV (q0 := 2) (ci := 5) (As := []) (rest := []) (st1 := [.int v35]) C (c_Sh_isLost l D ct a_sheets0 a_sheets0_items f_sheets0_form f_sheets0_size v35 hc35) ⟨rfl, rfl⟩ yn_yX5_isLost tw_553 tw_554 tw_552 ⟨Nat.le_of_ble_eq_true rfl, Nat.le_of_ble_eq_true rfl⟩ ⟨Nat.zero_le _, Nat.zero_le _⟩ hP [2] rfl rfl rfl rfl hl.1 rfl rfl (Nat.le_of_ble_eq_true rfl) dX10_copy_35 rfl ?_
            refine lv_if_ne (tgt := 49) hx hb dX10_copy_38 (by decide) (fun hc => ?_) (fun hc => ?_)
            · have hf := kneg hc hf
              exact t_ND_copy_b49v14 C hA a_this a_texts a_names a_pieces a_song a_fitting a_deal a_guesses a_wise a_spy a_sheets a_sheets0 a_sheets1 a_sheets2 a_sheets3 a_sheets0_items a_sheets1_items a_sheets2_items a_sheets3_items f_stale f_sheets0_form f_sheets0_size f_sheets1_form f_sheets1_size f_sheets2_form f_sheets2_size f_sheets3_form f_sheets3_size x1 x2 x3 x4 x5 r r_finding r_sheets0_items r_sheets1_items r_sheets2_items r_sheets3_items hs_1 hs_3 f_finding f_sheets0_items f_sheets1_items f_sheets2_items f_sheets3_items hf _ _ hP hD hS _ (lv_sub hl [2] rfl)
            · have hf := kpos hc hf
              refine lv_aload hx hb dX10_copy_41 (lv_at hl 0 rfl) ?_
              obtain ⟨v43, hc43, hf⟩ := cb1_some hf
              refine kcRV (q0 := 4) (ci := 5) (As := []) (rest := []) (st1 := [.int v43]) C (c_Sh_isLost l D ct a_sheets1 a_sheets1_items f_sheets1_form f_sheets1_size v43 hc43) ⟨rfl, rfl⟩ yn_yX5_isLost tw_553 tw_554 tw_552 ⟨Nat.le_of_ble_eq_true rfl, Nat.le_of_ble_eq_true rfl⟩ ⟨Nat.zero_le _, Nat.zero_le _⟩ hP [4] rfl rfl rfl rfl hl.1 rfl rfl (Nat.le_of_ble_eq_true rfl) dX10_copy_43 rfl ?_
              refine lv_if_eq (tgt := 55) hx hb dX10_copy_46 (by decide) (fun hc => ?_) (fun hc => ?_)
              · have hf := kpos hc hf
                refine lv_aload hx hb dX10_copy_55 (lv_at hl 1 rfl) ?_
                obtain ⟨v57, hc57, hf⟩ := cb1_some hf
                refine kcRV (q0 := 2) (ci := 5) (As := []) (rest := []) (st1 := [.int v57]) C (c_Sh_form l D ct a_sheets0 a_sheets0_items f_sheets0_size f_sheets0_form v57 hc57) ⟨rfl, rfl⟩ yn_yX5_form tw_853 tw_854 tw_852 ⟨Nat.le_of_ble_eq_true rfl, Nat.le_of_ble_eq_true rfl⟩ ⟨Nat.zero_le _, Nat.zero_le _⟩ hP [2] rfl rfl rfl rfl hl.1 rfl rfl (Nat.le_of_ble_eq_true rfl) dX10_copy_57 rfl ?_
                refine lv_aload hx hb dX10_copy_60 (lv_at hl 0 rfl) ?_
                obtain ⟨v62, hc62, hf⟩ := cb1_some hf
                refine kcRV (q0 := 4) (ci := 5) (As := []) (rest := [.int v57]) (st1 := [.int v62, .int v57]) C (c_Sh_form l D ct a_sheets1 a_sheets1_items f_sheets1_size f_sheets1_form v62 hc62) ⟨rfl, rfl⟩ yn_yX5_form tw_853 tw_854 tw_852 ⟨Nat.le_of_ble_eq_true rfl, Nat.le_of_ble_eq_true rfl⟩ ⟨Nat.zero_le _, Nat.zero_le _⟩ hP [4] rfl rfl rfl rfl hl.1 rfl rfl (Nat.le_of_ble_eq_true rfl) dX10_copy_62 rfl ?_
                refine lv_icmp_eq (tgt := 74) hx hb dX10_copy_65 (by decide) (fun hc => ?_) (fun hc => ?_)
                · have hf := kpos hc hf
                  refine lv_aload hx hb dX10_copy_74 (lv_at hl 1 rfl) ?_
                  refine lv_iload_n hx hb dX10_copy_76 rfl (lv_at hl 4 rfl) ?_
                  refine lv_iload hx hb dX10_copy_77 (lv_at hl 7 rfl) ?_
                  obtain ⟨v79, hc79, hf⟩ := cb1_some hf
                  refine kcRV (q0 := 2) (ci := 5) (As := [.int x2, .int x5]) (rest := []) (st1 := [.int v79]) C (c_Sh_holds l D ct a_sheets0 a_sheets0_items f_sheets0_form f_sheets0_size x2 x5 v79 hc79) ⟨rfl, rfl⟩ yn_yX5_holds tw_857 tw_858 tw_856 ⟨Nat.le_of_ble_eq_true rfl, Nat.le_of_ble_eq_true rfl⟩ ⟨Nat.zero_le _, Nat.zero_le _⟩ hP [2] rfl rfl rfl rfl hl.1 rfl rfl (Nat.le_of_ble_eq_true rfl) dX10_copy_79 rfl ?_
                  refine lv_if_eq (tgt := 97) hx hb dX10_copy_82 (by decide) (fun hc => ?_) (fun hc => ?_)
                  · have hf := kpos hc hf
                    exact t_ND_copy_b97v14 C hA a_this a_texts a_names a_pieces a_song a_fitting a_deal a_guesses a_wise a_spy a_sheets a_sheets0 a_sheets1 a_sheets2 a_sheets3 a_sheets0_items a_sheets1_items a_sheets2_items a_sheets3_items f_stale f_sheets0_form f_sheets0_size f_sheets1_form f_sheets1_size f_sheets2_form f_sheets2_size f_sheets3_form f_sheets3_size x1 x2 x3 x4 x5 r r_finding r_sheets0_items r_sheets1_items r_sheets2_items r_sheets3_items hs_1 hs_3 f_finding f_sheets0_items f_sheets1_items f_sheets2_items f_sheets3_items hf _ _ hP hD hS _ (lv_sub hl [2] rfl)
                  · have hf := kneg hc hf
                    refine lv_aload hx hb dX10_copy_85 (lv_at hl 0 rfl) ?_
                    refine lv_iload hx hb dX10_copy_87 (lv_at hl 6 rfl) ?_
                    refine lv_iload hx hb dX10_copy_89 (lv_at hl 7 rfl) ?_
                    obtain ⟨v91, hc91, hf⟩ := cb1_some hf
                    refine kcRV (q0 := 4) (ci := 5) (As := [.int x4, .int x5]) (rest := []) (st1 := [.int v91]) C (c_Sh_holds l D ct a_sheets1 a_sheets1_items f_sheets1_form f_sheets1_size x4 x5 v91 hc91) ⟨rfl, rfl⟩ yn_yX5_holds tw_857 tw_858 tw_856 ⟨Nat.le_of_ble_eq_true rfl, Nat.le_of_ble_eq_true rfl⟩ ⟨Nat.zero_le _, Nat.zero_le _⟩ hP [4] rfl rfl rfl rfl hl.1 rfl rfl (Nat.le_of_ble_eq_true rfl) dX10_copy_91 rfl ?_
                    refine lv_if_ne (tgt := 103) hx hb dX10_copy_94 (by decide) (fun hc => ?_) (fun hc => ?_)
                    · have hf := kneg hc hf
                      refine lv_aload hx hb dX10_copy_103 (lv_at hl 0 rfl) ?_
                      refine lv_aload hx hb dX10_copy_105 (lv_at hl 1 rfl) ?_
                      refine lv_iload_n hx hb dX10_copy_107 rfl (lv_at hl 4 rfl) ?_
                      refine lv_iload hx hb dX10_copy_108 (lv_at hl 6 rfl) ?_
                      refine lv_iload hx hb dX10_copy_110 (lv_at hl 7 rfl) ?_
                      obtain ⟨f_sheets1_items_112, hc112, hf⟩ := cb1_some hf
                      refine kcMV (q0 := 4) (ci := 5) (As := [.ref a_sheets0, .int x2, .int x4, .int x5]) (rest := []) (st1 := []) (wf := (w_ND_copy ct a_this a_texts a_names a_pieces a_song a_fitting a_deal a_guesses a_wise a_spy a_sheets a_sheets0 a_sheets1 a_sheets2 a_sheets3 a_sheets0_items a_sheets1_items a_sheets2_items a_sheets3_items f_stale f_finding f_sheets0_form f_sheets0_size f_sheets0_items f_sheets1_form f_sheets1_size f_sheets1_items_112 f_sheets2_form f_sheets2_size f_sheets2_items f_sheets3_form f_sheets3_size f_sheets3_items)) C (c_Sh_take l D ct a_sheets1 a_sheets1_items a_sheets0 a_sheets0_items f_sheets1_form f_sheets0_form f_sheets1_size f_sheets0_size f_sheets0_items f_sheets1_items x2 x4 x5 f_sheets1_items_112 _ hc112) ⟨rfl, rfl⟩ yn_yX5_take tw_878 tw_879 tw_877 ⟨Nat.le_of_ble_eq_true rfl, Nat.le_of_ble_eq_true rfl⟩ ⟨Nat.zero_le _, Nat.zero_le _⟩ hP hD hS hA [4, 5, 2, 3] [0, 1, 6, 7, 8, 9] [0, 1, 8, 9, 6, 7, 2, 3, 4, 5] rfl rfl rfl rfl rfl (by decide) rfl rfl rfl rfl rfl rfl hl.1 rfl rfl (Nat.le_of_ble_eq_true rfl) dX10_copy_112 rfl (fun H locs hP hD hS => ?_)
                      refine lv_iconst (v := 1) hx hb dX10_copy_115 (by decide) ?_
                      obtain ⟨e1, e2, e3, e4, e5, e6⟩ := ti6 hf
                      subst e1; subst e2; subst e3; subst e4; subst e5; subst e6
                      exact kretM C hP hD hS dX10_copy_116
                    · have hf := kpos hc hf
                      exact t_ND_copy_b97v14 C hA a_this a_texts a_names a_pieces a_song a_fitting a_deal a_guesses a_wise a_spy a_sheets a_sheets0 a_sheets1 a_sheets2 a_sheets3 a_sheets0_items a_sheets1_items a_sheets2_items a_sheets3_items f_stale f_sheets0_form f_sheets0_size f_sheets1_form f_sheets1_size f_sheets2_form f_sheets2_size f_sheets3_form f_sheets3_size x1 x2 x3 x4 x5 r r_finding r_sheets0_items r_sheets1_items r_sheets2_items r_sheets3_items hs_1 hs_3 f_finding f_sheets0_items f_sheets1_items f_sheets2_items f_sheets3_items hf _ _ hP hD hS _ (lv_sub hl [2] rfl)
                · have hf := kneg hc hf
                  refine lv_aload_n hx hb dX10_copy_68 rfl (lv_at hl 2 rfl) ?_
                  refine lv_iconst (v := 4) hx hb dX10_copy_69 (by decide) ?_
                  obtain ⟨v70, f_finding_70, hc70, hf⟩ := cb2_some hf
                  refine kcMV (q0 := 0) (ci := 10) (As := [.int 4]) (rest := []) (st1 := [.int v70]) (wf := (w_ND_copy ct a_this a_texts a_names a_pieces a_song a_fitting a_deal a_guesses a_wise a_spy a_sheets a_sheets0 a_sheets1 a_sheets2 a_sheets3 a_sheets0_items a_sheets1_items a_sheets2_items a_sheets3_items f_stale f_finding_70 f_sheets0_form f_sheets0_size f_sheets0_items f_sheets1_form f_sheets1_size f_sheets1_items f_sheets2_form f_sheets2_size f_sheets2_items f_sheets3_form f_sheets3_size f_sheets3_items)) C (c_ND_found l D ct a_this a_texts a_names a_pieces a_song a_fitting a_deal a_guesses a_wise a_spy a_sheets f_stale f_finding 4 v70 f_finding_70 _ hc70) ⟨rfl, rfl⟩ yn_yX10_found tw_558 tw_10 tw_556 ⟨Nat.le_of_ble_eq_true rfl, Nat.le_of_ble_eq_true rfl⟩ ⟨Nat.zero_le _, Nat.zero_le _⟩ hP hD hS hA [0] [1, 2, 3, 4, 5, 6, 7, 8, 9] [9, 0, 1, 2, 3, 4, 5, 6, 7, 8] rfl rfl rfl rfl rfl (by decide) rfl rfl rfl rfl rfl rfl hl.1 rfl rfl (Nat.le_of_ble_eq_true rfl) dX10_copy_70 rfl (fun H locs hP hD hS => ?_)
                  obtain ⟨e1, e2, e3, e4, e5, e6⟩ := ti6 hf
                  subst e1; subst e2; subst e3; subst e4; subst e5; subst e6
                  exact kretM C hP hD hS dX10_copy_73
              · have hf := kneg hc hf
                exact t_ND_copy_b49v14 C hA a_this a_texts a_names a_pieces a_song a_fitting a_deal a_guesses a_wise a_spy a_sheets a_sheets0 a_sheets1 a_sheets2 a_sheets3 a_sheets0_items a_sheets1_items a_sheets2_items a_sheets3_items f_stale f_sheets0_form f_sheets0_size f_sheets1_form f_sheets1_size f_sheets2_form f_sheets2_size f_sheets3_form f_sheets3_size x1 x2 x3 x4 x5 r r_finding r_sheets0_items r_sheets1_items r_sheets2_items r_sheets3_items hs_1 hs_3 f_finding f_sheets0_items f_sheets1_items f_sheets2_items f_sheets3_items hf _ _ hP hD hS _ (lv_sub hl [2] rfl)
          · have hf := kneg hs_3 hf
            by_cases hs_3 : x3 = 2
            · have hf := kpos hs_3 hf
              refine kaald hx hb hK hP 1 4 rfl rfl (k := 2) (by rw [hs_3]; rfl) rfl (by decide) dX10_copy_30 ?_
              refine lv_astore (lv' := [(7, .ref a_sheets2), (6, .ref a_sheets0), (0, .ref a_this), (1, .int x1), (2, .int x2), (3, .int x3), (4, .int x4), (5, .int x5)]) hx hb dX10_copy_31 hl (by decide) rfl (fun ls hl => ?_)
              refine lv_aload hx hb dX10_copy_33 (lv_at hl 1 rfl) ?_
              obtain ⟨v35, hc35, hf⟩ := cb1_some hf
              refine kcRV (q0 := 2) (ci := 5) (As := []) (rest := []) (st1 := [.int v35]) C (c_Sh_isLost l D ct a_sheets0 a_sheets0_items f_sheets0_form f_sheets0_size v35 hc35) ⟨rfl, rfl⟩ yn_yX5_isLost tw_553 tw_554 tw_552 ⟨Nat.le_of_ble_eq_true rfl, Nat.le_of_ble_eq_true rfl⟩ ⟨Nat.zero_le _, Nat.zero_le _⟩ hP [2] rfl rfl rfl rfl hl.1 rfl rfl (Nat.le_of_ble_eq_true rfl) dX10_copy_35 rfl ?_
              refine lv_if_ne (tgt := 49) hx hb dX10_copy_38 (by decide) (fun hc => ?_) (fun hc => ?_)
              · have hf := kneg hc hf
                exact t_ND_copy_b49v13 C hA a_this a_texts a_names a_pieces a_song a_fitting a_deal a_guesses a_wise a_spy a_sheets a_sheets0 a_sheets1 a_sheets2 a_sheets3 a_sheets0_items a_sheets1_items a_sheets2_items a_sheets3_items f_stale f_sheets0_form f_sheets0_size f_sheets1_form f_sheets1_size f_sheets2_form f_sheets2_size f_sheets3_form f_sheets3_size x1 x2 x3 x4 x5 r r_finding r_sheets0_items r_sheets1_items r_sheets2_items r_sheets3_items hs_1 hs_3 f_finding f_sheets0_items f_sheets1_items f_sheets2_items f_sheets3_items hf _ _ hP hD hS _ (lv_sub hl [2] rfl)
              · have hf := kpos hc hf
                refine lv_aload hx hb dX10_copy_41 (lv_at hl 0 rfl) ?_
                obtain ⟨v43, hc43, hf⟩ := cb1_some hf
                refine kcRV (q0 := 6) (ci := 5) (As := []) (rest := []) (st1 := [.int v43]) C (c_Sh_isLost l D ct a_sheets2 a_sheets2_items f_sheets2_form f_sheets2_size v43 hc43) ⟨rfl, rfl⟩ yn_yX5_isLost tw_553 tw_554 tw_552 ⟨Nat.le_of_ble_eq_true rfl, Nat.le_of_ble_eq_true rfl⟩ ⟨Nat.zero_le _, Nat.zero_le _⟩ hP [6] rfl rfl rfl rfl hl.1 rfl rfl (Nat.le_of_ble_eq_true rfl) dX10_copy_43 rfl ?_
                refine lv_if_eq (tgt := 55) hx hb dX10_copy_46 (by decide) (fun hc => ?_) (fun hc => ?_)
                · have hf := kpos hc hf
                  refine lv_aload hx hb dX10_copy_55 (lv_at hl 1 rfl) ?_
                  obtain ⟨v57, hc57, hf⟩ := cb1_some hf
                  refine kcRV (q0 := 2) (ci := 5) (As := []) (rest := []) (st1 := [.int v57]) C (c_Sh_form l D ct a_sheets0 a_sheets0_items f_sheets0_size f_sheets0_form v57 hc57) ⟨rfl, rfl⟩ yn_yX5_form tw_853 tw_854 tw_852 ⟨Nat.le_of_ble_eq_true rfl, Nat.le_of_ble_eq_true rfl⟩ ⟨Nat.zero_le _, Nat.zero_le _⟩ hP [2] rfl rfl rfl rfl hl.1 rfl rfl (Nat.le_of_ble_eq_true rfl) dX10_copy_57 rfl ?_
                  refine lv_aload hx hb dX10_copy_60 (lv_at hl 0 rfl) ?_
                  obtain ⟨v62, hc62, hf⟩ := cb1_some hf
                  refine kcRV (q0 := 6) (ci := 5) (As := []) (rest := [.int v57]) (st1 := [.int v62, .int v57]) C (c_Sh_form l D ct a_sheets2 a_sheets2_items f_sheets2_size f_sheets2_form v62 hc62) ⟨rfl, rfl⟩ yn_yX5_form tw_853 tw_854 tw_852 ⟨Nat.le_of_ble_eq_true rfl, Nat.le_of_ble_eq_true rfl⟩ ⟨Nat.zero_le _, Nat.zero_le _⟩ hP [6] rfl rfl rfl rfl hl.1 rfl rfl (Nat.le_of_ble_eq_true rfl) dX10_copy_62 rfl ?_
                  refine lv_icmp_eq (tgt := 74) hx hb dX10_copy_65 (by decide) (fun hc => ?_) (fun hc => ?_)
                  · have hf := kpos hc hf
                    refine lv_aload hx hb dX10_copy_74 (lv_at hl 1 rfl) ?_
                    refine lv_iload_n hx hb dX10_copy_76 rfl (lv_at hl 4 rfl) ?_
                    refine lv_iload hx hb dX10_copy_77 (lv_at hl 7 rfl) ?_
                    obtain ⟨v79, hc79, hf⟩ := cb1_some hf
                    refine kcRV (q0 := 2) (ci := 5) (As := [.int x2, .int x5]) (rest := []) (st1 := [.int v79]) C (c_Sh_holds l D ct a_sheets0 a_sheets0_items f_sheets0_form f_sheets0_size x2 x5 v79 hc79) ⟨rfl, rfl⟩ yn_yX5_holds tw_857 tw_858 tw_856 ⟨Nat.le_of_ble_eq_true rfl, Nat.le_of_ble_eq_true rfl⟩ ⟨Nat.zero_le _, Nat.zero_le _⟩ hP [2] rfl rfl rfl rfl hl.1 rfl rfl (Nat.le_of_ble_eq_true rfl) dX10_copy_79 rfl ?_
                    refine lv_if_eq (tgt := 97) hx hb dX10_copy_82 (by decide) (fun hc => ?_) (fun hc => ?_)
                    · have hf := kpos hc hf
                      exact t_ND_copy_b97v13 C hA a_this a_texts a_names a_pieces a_song a_fitting a_deal a_guesses a_wise a_spy a_sheets a_sheets0 a_sheets1 a_sheets2 a_sheets3 a_sheets0_items a_sheets1_items a_sheets2_items a_sheets3_items f_stale f_sheets0_form f_sheets0_size f_sheets1_form f_sheets1_size f_sheets2_form f_sheets2_size f_sheets3_form f_sheets3_size x1 x2 x3 x4 x5 r r_finding r_sheets0_items r_sheets1_items r_sheets2_items r_sheets3_items hs_1 hs_3 f_finding f_sheets0_items f_sheets1_items f_sheets2_items f_sheets3_items hf _ _ hP hD hS _ (lv_sub hl [2] rfl)
                    · have hf := kneg hc hf
                      refine lv_aload hx hb dX10_copy_85 (lv_at hl 0 rfl) ?_
                      refine lv_iload hx hb dX10_copy_87 (lv_at hl 6 rfl) ?_
                      refine lv_iload hx hb dX10_copy_89 (lv_at hl 7 rfl) ?_
                      obtain ⟨v91, hc91, hf⟩ := cb1_some hf
                      refine kcRV (q0 := 6) (ci := 5) (As := [.int x4, .int x5]) (rest := []) (st1 := [.int v91]) C (c_Sh_holds l D ct a_sheets2 a_sheets2_items f_sheets2_form f_sheets2_size x4 x5 v91 hc91) ⟨rfl, rfl⟩ yn_yX5_holds tw_857 tw_858 tw_856 ⟨Nat.le_of_ble_eq_true rfl, Nat.le_of_ble_eq_true rfl⟩ ⟨Nat.zero_le _, Nat.zero_le _⟩ hP [6] rfl rfl rfl rfl hl.1 rfl rfl (Nat.le_of_ble_eq_true rfl) dX10_copy_91 rfl ?_
                      refine lv_if_ne (tgt := 103) hx hb dX10_copy_94 (by decide) (fun hc => ?_) (fun hc => ?_)
                      · have hf := kneg hc hf
                        refine lv_aload hx hb dX10_copy_103 (lv_at hl 0 rfl) ?_
                        refine lv_aload hx hb dX10_copy_105 (lv_at hl 1 rfl) ?_
                        refine lv_iload_n hx hb dX10_copy_107 rfl (lv_at hl 4 rfl) ?_
                        refine lv_iload hx hb dX10_copy_108 (lv_at hl 6 rfl) ?_
                        refine lv_iload hx hb dX10_copy_110 (lv_at hl 7 rfl) ?_
                        obtain ⟨f_sheets2_items_112, hc112, hf⟩ := cb1_some hf
                        refine kcMV (q0 := 6) (ci := 5) (As := [.ref a_sheets0, .int x2, .int x4, .int x5]) (rest := []) (st1 := []) (wf := (w_ND_copy ct a_this a_texts a_names a_pieces a_song a_fitting a_deal a_guesses a_wise a_spy a_sheets a_sheets0 a_sheets1 a_sheets2 a_sheets3 a_sheets0_items a_sheets1_items a_sheets2_items a_sheets3_items f_stale f_finding f_sheets0_form f_sheets0_size f_sheets0_items f_sheets1_form f_sheets1_size f_sheets1_items f_sheets2_form f_sheets2_size f_sheets2_items_112 f_sheets3_form f_sheets3_size f_sheets3_items)) C (c_Sh_take l D ct a_sheets2 a_sheets2_items a_sheets0 a_sheets0_items f_sheets2_form f_sheets0_form f_sheets2_size f_sheets0_size f_sheets0_items f_sheets2_items x2 x4 x5 f_sheets2_items_112 _ hc112) ⟨rfl, rfl⟩ yn_yX5_take tw_878 tw_879 tw_877 ⟨Nat.le_of_ble_eq_true rfl, Nat.le_of_ble_eq_true rfl⟩ ⟨Nat.zero_le _, Nat.zero_le _⟩ hP hD hS hA [6, 7, 2, 3] [0, 1, 4, 5, 8, 9] [0, 1, 8, 9, 2, 3, 6, 7, 4, 5] rfl rfl rfl rfl rfl (by decide) rfl rfl rfl rfl rfl rfl hl.1 rfl rfl (Nat.le_of_ble_eq_true rfl) dX10_copy_112 rfl (fun H locs hP hD hS => ?_)
                        refine lv_iconst (v := 1) hx hb dX10_copy_115 (by decide) ?_
                        obtain ⟨e1, e2, e3, e4, e5, e6⟩ := ti6 hf
                        subst e1; subst e2; subst e3; subst e4; subst e5; subst e6
                        exact kretM C hP hD hS dX10_copy_116
                      · have hf := kpos hc hf
                        exact t_ND_copy_b97v13 C hA a_this a_texts a_names a_pieces a_song a_fitting a_deal a_guesses a_wise a_spy a_sheets a_sheets0 a_sheets1 a_sheets2 a_sheets3 a_sheets0_items a_sheets1_items a_sheets2_items a_sheets3_items f_stale f_sheets0_form f_sheets0_size f_sheets1_form f_sheets1_size f_sheets2_form f_sheets2_size f_sheets3_form f_sheets3_size x1 x2 x3 x4 x5 r r_finding r_sheets0_items r_sheets1_items r_sheets2_items r_sheets3_items hs_1 hs_3 f_finding f_sheets0_items f_sheets1_items f_sheets2_items f_sheets3_items hf _ _ hP hD hS _ (lv_sub hl [2] rfl)
                  · have hf := kneg hc hf
                    refine lv_aload_n hx hb dX10_copy_68 rfl (lv_at hl 2 rfl) ?_
                    refine lv_iconst (v := 4) hx hb dX10_copy_69 (by decide) ?_
                    obtain ⟨v70, f_finding_70, hc70, hf⟩ := cb2_some hf
                    refine kcMV (q0 := 0) (ci := 10) (As := [.int 4]) (rest := []) (st1 := [.int v70]) (wf := (w_ND_copy ct a_this a_texts a_names a_pieces a_song a_fitting a_deal a_guesses a_wise a_spy a_sheets a_sheets0 a_sheets1 a_sheets2 a_sheets3 a_sheets0_items a_sheets1_items a_sheets2_items a_sheets3_items f_stale f_finding_70 f_sheets0_form f_sheets0_size f_sheets0_items f_sheets1_form f_sheets1_size f_sheets1_items f_sheets2_form f_sheets2_size f_sheets2_items f_sheets3_form f_sheets3_size f_sheets3_items)) C (c_ND_found l D ct a_this a_texts a_names a_pieces a_song a_fitting a_deal a_guesses a_wise a_spy a_sheets f_stale f_finding 4 v70 f_finding_70 _ hc70) ⟨rfl, rfl⟩ yn_yX10_found tw_558 tw_10 tw_556 ⟨Nat.le_of_ble_eq_true rfl, Nat.le_of_ble_eq_true rfl⟩ ⟨Nat.zero_le _, Nat.zero_le _⟩ hP hD hS hA [0] [1, 2, 3, 4, 5, 6, 7, 8, 9] [9, 0, 1, 2, 3, 4, 5, 6, 7, 8] rfl rfl rfl rfl rfl (by decide) rfl rfl rfl rfl rfl rfl hl.1 rfl rfl (Nat.le_of_ble_eq_true rfl) dX10_copy_70 rfl (fun H locs hP hD hS => ?_)
                    obtain ⟨e1, e2, e3, e4, e5, e6⟩ := ti6 hf
                    subst e1; subst e2; subst e3; subst e4; subst e5; subst e6
                    exact kretM C hP hD hS dX10_copy_73
                · have hf := kneg hc hf
                  exact t_ND_copy_b49v13 C hA a_this a_texts a_names a_pieces a_song a_fitting a_deal a_guesses a_wise a_spy a_sheets a_sheets0 a_sheets1 a_sheets2 a_sheets3 a_sheets0_items a_sheets1_items a_sheets2_items a_sheets3_items f_stale f_sheets0_form f_sheets0_size f_sheets1_form f_sheets1_size f_sheets2_form f_sheets2_size f_sheets3_form f_sheets3_size x1 x2 x3 x4 x5 r r_finding r_sheets0_items r_sheets1_items r_sheets2_items r_sheets3_items hs_1 hs_3 f_finding f_sheets0_items f_sheets1_items f_sheets2_items f_sheets3_items hf _ _ hP hD hS _ (lv_sub hl [2] rfl)
            · have hf := kneg hs_3 hf
              by_cases hs_3 : x3 = 3
              · have hf := kpos hs_3 hf
                refine kaald hx hb hK hP 1 4 rfl rfl (k := 3) (by rw [hs_3]; rfl) rfl (by decide) dX10_copy_30 ?_
                refine lv_astore (lv' := [(7, .ref a_sheets3), (6, .ref a_sheets0), (0, .ref a_this), (1, .int x1), (2, .int x2), (3, .int x3), (4, .int x4), (5, .int x5)]) hx hb dX10_copy_31 hl (by decide) rfl (fun ls hl => ?_)
                refine lv_aload hx hb dX10_copy_33 (lv_at hl 1 rfl) ?_
                obtain ⟨v35, hc35, hf⟩ := cb1_some hf
                refine kcRV (q0 := 2) (ci := 5) (As := []) (rest := []) (st1 := [.int v35]) C (c_Sh_isLost l D ct a_sheets0 a_sheets0_items f_sheets0_form f_sheets0_size v35 hc35) ⟨rfl, rfl⟩ yn_yX5_isLost tw_553 tw_554 tw_552 ⟨Nat.le_of_ble_eq_true rfl, Nat.le_of_ble_eq_true rfl⟩ ⟨Nat.zero_le _, Nat.zero_le _⟩ hP [2] rfl rfl rfl rfl hl.1 rfl rfl (Nat.le_of_ble_eq_true rfl) dX10_copy_35 rfl ?_
                refine lv_if_ne (tgt := 49) hx hb dX10_copy_38 (by decide) (fun hc => ?_) (fun hc => ?_)
                · have hf := kneg hc hf
                  exact t_ND_copy_b49v12 C hA a_this a_texts a_names a_pieces a_song a_fitting a_deal a_guesses a_wise a_spy a_sheets a_sheets0 a_sheets1 a_sheets2 a_sheets3 a_sheets0_items a_sheets1_items a_sheets2_items a_sheets3_items f_stale f_sheets0_form f_sheets0_size f_sheets1_form f_sheets1_size f_sheets2_form f_sheets2_size f_sheets3_form f_sheets3_size x1 x2 x3 x4 x5 r r_finding r_sheets0_items r_sheets1_items r_sheets2_items r_sheets3_items hs_1 hs_3 f_finding f_sheets0_items f_sheets1_items f_sheets2_items f_sheets3_items hf _ _ hP hD hS _ (lv_sub hl [2] rfl)
                · have hf := kpos hc hf
                  refine lv_aload hx hb dX10_copy_41 (lv_at hl 0 rfl) ?_
                  obtain ⟨v43, hc43, hf⟩ := cb1_some hf
                  refine kcRV (q0 := 8) (ci := 5) (As := []) (rest := []) (st1 := [.int v43]) C (c_Sh_isLost l D ct a_sheets3 a_sheets3_items f_sheets3_form f_sheets3_size v43 hc43) ⟨rfl, rfl⟩ yn_yX5_isLost tw_553 tw_554 tw_552 ⟨Nat.le_of_ble_eq_true rfl, Nat.le_of_ble_eq_true rfl⟩ ⟨Nat.zero_le _, Nat.zero_le _⟩ hP [8] rfl rfl rfl rfl hl.1 rfl rfl (Nat.le_of_ble_eq_true rfl) dX10_copy_43 rfl ?_
                  refine lv_if_eq (tgt := 55) hx hb dX10_copy_46 (by decide) (fun hc => ?_) (fun hc => ?_)
                  · have hf := kpos hc hf
                    refine lv_aload hx hb dX10_copy_55 (lv_at hl 1 rfl) ?_
                    obtain ⟨v57, hc57, hf⟩ := cb1_some hf
                    refine kcRV (q0 := 2) (ci := 5) (As := []) (rest := []) (st1 := [.int v57]) C (c_Sh_form l D ct a_sheets0 a_sheets0_items f_sheets0_size f_sheets0_form v57 hc57) ⟨rfl, rfl⟩ yn_yX5_form tw_853 tw_854 tw_852 ⟨Nat.le_of_ble_eq_true rfl, Nat.le_of_ble_eq_true rfl⟩ ⟨Nat.zero_le _, Nat.zero_le _⟩ hP [2] rfl rfl rfl rfl hl.1 rfl rfl (Nat.le_of_ble_eq_true rfl) dX10_copy_57 rfl ?_
                    refine lv_aload hx hb dX10_copy_60 (lv_at hl 0 rfl) ?_
                    obtain ⟨v62, hc62, hf⟩ := cb1_some hf
                    refine kcRV (q0 := 8) (ci := 5) (As := []) (rest := [.int v57]) (st1 := [.int v62, .int v57]) C (c_Sh_form l D ct a_sheets3 a_sheets3_items f_sheets3_size f_sheets3_form v62 hc62) ⟨rfl, rfl⟩ yn_yX5_form tw_853 tw_854 tw_852 ⟨Nat.le_of_ble_eq_true rfl, Nat.le_of_ble_eq_true rfl⟩ ⟨Nat.zero_le _, Nat.zero_le _⟩ hP [8] rfl rfl rfl rfl hl.1 rfl rfl (Nat.le_of_ble_eq_true rfl) dX10_copy_62 rfl ?_
                    refine lv_icmp_eq (tgt := 74) hx hb dX10_copy_65 (by decide) (fun hc => ?_) (fun hc => ?_)
                    · have hf := kpos hc hf
                      refine lv_aload hx hb dX10_copy_74 (lv_at hl 1 rfl) ?_
                      refine lv_iload_n hx hb dX10_copy_76 rfl (lv_at hl 4 rfl) ?_
                      refine lv_iload hx hb dX10_copy_77 (lv_at hl 7 rfl) ?_
                      obtain ⟨v79, hc79, hf⟩ := cb1_some hf
                      refine kcRV (q0 := 2) (ci := 5) (As := [.int x2, .int x5]) (rest := []) (st1 := [.int v79]) C (c_Sh_holds l D ct a_sheets0 a_sheets0_items f_sheets0_form f_sheets0_size x2 x5 v79 hc79) ⟨rfl, rfl⟩ yn_yX5_holds tw_857 tw_858 tw_856 ⟨Nat.le_of_ble_eq_true rfl, Nat.le_of_ble_eq_true rfl⟩ ⟨Nat.zero_le _, Nat.zero_le _⟩ hP [2] rfl rfl rfl rfl hl.1 rfl rfl (Nat.le_of_ble_eq_true rfl) dX10_copy_79 rfl ?_
                      refine lv_if_eq (tgt := 97) hx hb dX10_copy_82 (by decide) (fun hc => ?_) (fun hc => ?_)
                      · have hf := kpos hc hf
                        exact t_ND_copy_b97v12 C hA a_this a_texts a_names a_pieces a_song a_fitting a_deal a_guesses a_wise a_spy a_sheets a_sheets0 a_sheets1 a_sheets2 a_sheets3 a_sheets0_items a_sheets1_items a_sheets2_items a_sheets3_items f_stale f_sheets0_form f_sheets0_size f_sheets1_form f_sheets1_size f_sheets2_form f_sheets2_size f_sheets3_form f_sheets3_size x1 x2 x3 x4 x5 r r_finding r_sheets0_items r_sheets1_items r_sheets2_items r_sheets3_items hs_1 hs_3 f_finding f_sheets0_items f_sheets1_items f_sheets2_items f_sheets3_items hf _ _ hP hD hS _ (lv_sub hl [2] rfl)
                      · have hf := kneg hc hf
                        refine lv_aload hx hb dX10_copy_85 (lv_at hl 0 rfl) ?_
                        refine lv_iload hx hb dX10_copy_87 (lv_at hl 6 rfl) ?_
                        refine lv_iload hx hb dX10_copy_89 (lv_at hl 7 rfl) ?_
                        obtain ⟨v91, hc91, hf⟩ := cb1_some hf
                        refine kcRV (q0 := 8) (ci := 5) (As := [.int x4, .int x5]) (rest := []) (st1 := [.int v91]) C (c_Sh_holds l D ct a_sheets3 a_sheets3_items f_sheets3_form f_sheets3_size x4 x5 v91 hc91) ⟨rfl, rfl⟩ yn_yX5_holds tw_857 tw_858 tw_856 ⟨Nat.le_of_ble_eq_true rfl, Nat.le_of_ble_eq_true rfl⟩ ⟨Nat.zero_le _, Nat.zero_le _⟩ hP [8] rfl rfl rfl rfl hl.1 rfl rfl (Nat.le_of_ble_eq_true rfl) dX10_copy_91 rfl ?_
                        refine lv_if_ne (tgt := 103) hx hb dX10_copy_94 (by decide) (fun hc => ?_) (fun hc => ?_)
                        · have hf := kneg hc hf
                          refine lv_aload hx hb dX10_copy_103 (lv_at hl 0 rfl) ?_
                          refine lv_aload hx hb dX10_copy_105 (lv_at hl 1 rfl) ?_
                          refine lv_iload_n hx hb dX10_copy_107 rfl (lv_at hl 4 rfl) ?_
                          refine lv_iload hx hb dX10_copy_108 (lv_at hl 6 rfl) ?_
                          refine lv_iload hx hb dX10_copy_110 (lv_at hl 7 rfl) ?_
                          obtain ⟨f_sheets3_items_112, hc112, hf⟩ := cb1_some hf
                          refine kcMV (q0 := 8) (ci := 5) (As := [.ref a_sheets0, .int x2, .int x4, .int x5]) (rest := []) (st1 := []) (wf := (w_ND_copy ct a_this a_texts a_names a_pieces a_song a_fitting a_deal a_guesses a_wise a_spy a_sheets a_sheets0 a_sheets1 a_sheets2 a_sheets3 a_sheets0_items a_sheets1_items a_sheets2_items a_sheets3_items f_stale f_finding f_sheets0_form f_sheets0_size f_sheets0_items f_sheets1_form f_sheets1_size f_sheets1_items f_sheets2_form f_sheets2_size f_sheets2_items f_sheets3_form f_sheets3_size f_sheets3_items_112)) C (c_Sh_take l D ct a_sheets3 a_sheets3_items a_sheets0 a_sheets0_items f_sheets3_form f_sheets0_form f_sheets3_size f_sheets0_size f_sheets0_items f_sheets3_items x2 x4 x5 f_sheets3_items_112 _ hc112) ⟨rfl, rfl⟩ yn_yX5_take tw_878 tw_879 tw_877 ⟨Nat.le_of_ble_eq_true rfl, Nat.le_of_ble_eq_true rfl⟩ ⟨Nat.zero_le _, Nat.zero_le _⟩ hP hD hS hA [8, 9, 2, 3] [0, 1, 4, 5, 6, 7] [0, 1, 8, 9, 2, 3, 4, 5, 6, 7] rfl rfl rfl rfl rfl (by decide) rfl rfl rfl rfl rfl rfl hl.1 rfl rfl (Nat.le_of_ble_eq_true rfl) dX10_copy_112 rfl (fun H locs hP hD hS => ?_)
                          refine lv_iconst (v := 1) hx hb dX10_copy_115 (by decide) ?_
                          obtain ⟨e1, e2, e3, e4, e5, e6⟩ := ti6 hf
                          subst e1; subst e2; subst e3; subst e4; subst e5; subst e6
                          exact kretM C hP hD hS dX10_copy_116
                        · have hf := kpos hc hf
                          exact t_ND_copy_b97v12 C hA a_this a_texts a_names a_pieces a_song a_fitting a_deal a_guesses a_wise a_spy a_sheets a_sheets0 a_sheets1 a_sheets2 a_sheets3 a_sheets0_items a_sheets1_items a_sheets2_items a_sheets3_items f_stale f_sheets0_form f_sheets0_size f_sheets1_form f_sheets1_size f_sheets2_form f_sheets2_size f_sheets3_form f_sheets3_size x1 x2 x3 x4 x5 r r_finding r_sheets0_items r_sheets1_items r_sheets2_items r_sheets3_items hs_1 hs_3 f_finding f_sheets0_items f_sheets1_items f_sheets2_items f_sheets3_items hf _ _ hP hD hS _ (lv_sub hl [2] rfl)
                    · have hf := kneg hc hf
                      refine lv_aload_n hx hb dX10_copy_68 rfl (lv_at hl 2 rfl) ?_
                      refine lv_iconst (v := 4) hx hb dX10_copy_69 (by decide) ?_
                      obtain ⟨v70, f_finding_70, hc70, hf⟩ := cb2_some hf
                      refine kcMV (q0 := 0) (ci := 10) (As := [.int 4]) (rest := []) (st1 := [.int v70]) (wf := (w_ND_copy ct a_this a_texts a_names a_pieces a_song a_fitting a_deal a_guesses a_wise a_spy a_sheets a_sheets0 a_sheets1 a_sheets2 a_sheets3 a_sheets0_items a_sheets1_items a_sheets2_items a_sheets3_items f_stale f_finding_70 f_sheets0_form f_sheets0_size f_sheets0_items f_sheets1_form f_sheets1_size f_sheets1_items f_sheets2_form f_sheets2_size f_sheets2_items f_sheets3_form f_sheets3_size f_sheets3_items)) C (c_ND_found l D ct a_this a_texts a_names a_pieces a_song a_fitting a_deal a_guesses a_wise a_spy a_sheets f_stale f_finding 4 v70 f_finding_70 _ hc70) ⟨rfl, rfl⟩ yn_yX10_found tw_558 tw_10 tw_556 ⟨Nat.le_of_ble_eq_true rfl, Nat.le_of_ble_eq_true rfl⟩ ⟨Nat.zero_le _, Nat.zero_le _⟩ hP hD hS hA [0] [1, 2, 3, 4, 5, 6, 7, 8, 9] [9, 0, 1, 2, 3, 4, 5, 6, 7, 8] rfl rfl rfl rfl rfl (by decide) rfl rfl rfl rfl rfl rfl hl.1 rfl rfl (Nat.le_of_ble_eq_true rfl) dX10_copy_70 rfl (fun H locs hP hD hS => ?_)
                      obtain ⟨e1, e2, e3, e4, e5, e6⟩ := ti6 hf
                      subst e1; subst e2; subst e3; subst e4; subst e5; subst e6
                      exact kretM C hP hD hS dX10_copy_73
                  · have hf := kneg hc hf
                    exact t_ND_copy_b49v12 C hA a_this a_texts a_names a_pieces a_song a_fitting a_deal a_guesses a_wise a_spy a_sheets a_sheets0 a_sheets1 a_sheets2 a_sheets3 a_sheets0_items a_sheets1_items a_sheets2_items a_sheets3_items f_stale f_sheets0_form f_sheets0_size f_sheets1_form f_sheets1_size f_sheets2_form f_sheets2_size f_sheets3_form f_sheets3_size x1 x2 x3 x4 x5 r r_finding r_sheets0_items r_sheets1_items r_sheets2_items r_sheets3_items hs_1 hs_3 f_finding f_sheets0_items f_sheets1_items f_sheets2_items f_sheets3_items hf _ _ hP hD hS _ (lv_sub hl [2] rfl)
              · have hf := kneg hs_3 hf
                cases hf
      · have hf := kneg hs_1 hf
        by_cases hs_1 : x1 = 1
        · have hf := kpos hs_1 hf
          refine kaald hx hb hK hP 1 4 rfl rfl (k := 1) (by rw [hs_1]; rfl) rfl (by decide) dX10_copy_22 ?_
          refine lv_astore (lv' := [(6, .ref a_sheets1), (0, .ref a_this), (1, .int x1), (2, .int x2), (3, .int x3), (4, .int x4), (5, .int x5)]) hx hb dX10_copy_23 hl (by decide) rfl (fun ls hl => ?_)
          refine lv_aload_n hx hb dX10_copy_25 rfl (lv_at hl 1 rfl) ?_
          refine va_get (ci := 10) (v := .ref a_sheets) (C := RX10) (T := TX10) (N := 12) hx hb hts inX10 hown hK hP 0 rfl rfl 9 (by decide) (hts _ tw_292) (fun _ h9 => h9) rfl dX10_copy_26 ?_
          refine lv_iload_n hx hb dX10_copy_29 rfl (lv_at hl 4 rfl) ?_
          by_cases hs_3 : x3 = 0
          · have hf := kpos hs_3 hf
            refine kaald hx hb hK hP 1 4 rfl rfl (k := 0) (by rw [hs_3]; rfl) rfl (by decide) dX10_copy_30 ?_
            refine lv_astore (lv' := [(7, .ref a_sheets0), (6, .ref a_sheets1), (0, .ref a_this), (1, .int x1), (2, .int x2), (3, .int x3), (4, .int x4), (5, .int x5)]) hx hb dX10_copy_31 hl (by decide) rfl (fun ls hl => ?_)
            refine lv_aload hx hb dX10_copy_33 (lv_at hl 1 rfl) ?_
            obtain ⟨v35, hc35, hf⟩ := cb1_some hf
            refine kcRV (q0 := 4) (ci := 5) (As := []) (rest := []) (st1 := [.int v35]) C (c_Sh_isLost l D ct a_sheets1 a_sheets1_items f_sheets1_form f_sheets1_size v35 hc35) ⟨rfl, rfl⟩ yn_yX5_isLost tw_553 tw_554 tw_552 ⟨Nat.le_of_ble_eq_true rfl, Nat.le_of_ble_eq_true rfl⟩ ⟨Nat.zero_le _, Nat.zero_le _⟩ hP [4] rfl rfl rfl rfl hl.1 rfl rfl (Nat.le_of_ble_eq_true rfl) dX10_copy_35 rfl ?_
            refine lv_if_ne (tgt := 49) hx hb dX10_copy_38 (by decide) (fun hc => ?_) (fun hc => ?_)
            · have hf := kneg hc hf
              exact t_ND_copy_b49v11 C hA a_this a_texts a_names a_pieces a_song a_fitting a_deal a_guesses a_wise a_spy a_sheets a_sheets0 a_sheets1 a_sheets2 a_sheets3 a_sheets0_items a_sheets1_items a_sheets2_items a_sheets3_items f_stale f_sheets0_form f_sheets0_size f_sheets1_form f_sheets1_size f_sheets2_form f_sheets2_size f_sheets3_form f_sheets3_size x1 x2 x3 x4 x5 r r_finding r_sheets0_items r_sheets1_items r_sheets2_items r_sheets3_items hs_1 hs_3 f_finding f_sheets0_items f_sheets1_items f_sheets2_items f_sheets3_items hf _ _ hP hD hS _ (lv_sub hl [2] rfl)
            · have hf := kpos hc hf
              refine lv_aload hx hb dX10_copy_41 (lv_at hl 0 rfl) ?_
              obtain ⟨v43, hc43, hf⟩ := cb1_some hf
              refine kcRV (q0 := 2) (ci := 5) (As := []) (rest := []) (st1 := [.int v43]) C (c_Sh_isLost l D ct a_sheets0 a_sheets0_items f_sheets0_form f_sheets0_size v43 hc43) ⟨rfl, rfl⟩ yn_yX5_isLost tw_553 tw_554 tw_552 ⟨Nat.le_of_ble_eq_true rfl, Nat.le_of_ble_eq_true rfl⟩ ⟨Nat.zero_le _, Nat.zero_le _⟩ hP [2] rfl rfl rfl rfl hl.1 rfl rfl (Nat.le_of_ble_eq_true rfl) dX10_copy_43 rfl ?_
              refine lv_if_eq (tgt := 55) hx hb dX10_copy_46 (by decide) (fun hc => ?_) (fun hc => ?_)
              · have hf := kpos hc hf
                refine lv_aload hx hb dX10_copy_55 (lv_at hl 1 rfl) ?_
                obtain ⟨v57, hc57, hf⟩ := cb1_some hf
                refine kcRV (q0 := 4) (ci := 5) (As := []) (rest := []) (st1 := [.int v57]) C (c_Sh_form l D ct a_sheets1 a_sheets1_items f_sheets1_size f_sheets1_form v57 hc57) ⟨rfl, rfl⟩ yn_yX5_form tw_853 tw_854 tw_852 ⟨Nat.le_of_ble_eq_true rfl, Nat.le_of_ble_eq_true rfl⟩ ⟨Nat.zero_le _, Nat.zero_le _⟩ hP [4] rfl rfl rfl rfl hl.1 rfl rfl (Nat.le_of_ble_eq_true rfl) dX10_copy_57 rfl ?_
                refine lv_aload hx hb dX10_copy_60 (lv_at hl 0 rfl) ?_
                obtain ⟨v62, hc62, hf⟩ := cb1_some hf
                refine kcRV (q0 := 2) (ci := 5) (As := []) (rest := [.int v57]) (st1 := [.int v62, .int v57]) C (c_Sh_form l D ct a_sheets0 a_sheets0_items f_sheets0_size f_sheets0_form v62 hc62) ⟨rfl, rfl⟩ yn_yX5_form tw_853 tw_854 tw_852 ⟨Nat.le_of_ble_eq_true rfl, Nat.le_of_ble_eq_true rfl⟩ ⟨Nat.zero_le _, Nat.zero_le _⟩ hP [2] rfl rfl rfl rfl hl.1 rfl rfl (Nat.le_of_ble_eq_true rfl) dX10_copy_62 rfl ?_
                refine lv_icmp_eq (tgt := 74) hx hb dX10_copy_65 (by decide) (fun hc => ?_) (fun hc => ?_)
                · have hf := kpos hc hf
                  refine lv_aload hx hb dX10_copy_74 (lv_at hl 1 rfl) ?_
                  refine lv_iload_n hx hb dX10_copy_76 rfl (lv_at hl 4 rfl) ?_
                  refine lv_iload hx hb dX10_copy_77 (lv_at hl 7 rfl) ?_
                  obtain ⟨v79, hc79, hf⟩ := cb1_some hf
                  refine kcRV (q0 := 4) (ci := 5) (As := [.int x2, .int x5]) (rest := []) (st1 := [.int v79]) C (c_Sh_holds l D ct a_sheets1 a_sheets1_items f_sheets1_form f_sheets1_size x2 x5 v79 hc79) ⟨rfl, rfl⟩ yn_yX5_holds tw_857 tw_858 tw_856 ⟨Nat.le_of_ble_eq_true rfl, Nat.le_of_ble_eq_true rfl⟩ ⟨Nat.zero_le _, Nat.zero_le _⟩ hP [4] rfl rfl rfl rfl hl.1 rfl rfl (Nat.le_of_ble_eq_true rfl) dX10_copy_79 rfl ?_
                  refine lv_if_eq (tgt := 97) hx hb dX10_copy_82 (by decide) (fun hc => ?_) (fun hc => ?_)
                  · have hf := kpos hc hf
                    exact t_ND_copy_b97v11 C hA a_this a_texts a_names a_pieces a_song a_fitting a_deal a_guesses a_wise a_spy a_sheets a_sheets0 a_sheets1 a_sheets2 a_sheets3 a_sheets0_items a_sheets1_items a_sheets2_items a_sheets3_items f_stale f_sheets0_form f_sheets0_size f_sheets1_form f_sheets1_size f_sheets2_form f_sheets2_size f_sheets3_form f_sheets3_size x1 x2 x3 x4 x5 r r_finding r_sheets0_items r_sheets1_items r_sheets2_items r_sheets3_items hs_1 hs_3 f_finding f_sheets0_items f_sheets1_items f_sheets2_items f_sheets3_items hf _ _ hP hD hS _ (lv_sub hl [2] rfl)
                  · have hf := kneg hc hf
                    refine lv_aload hx hb dX10_copy_85 (lv_at hl 0 rfl) ?_
                    refine lv_iload hx hb dX10_copy_87 (lv_at hl 6 rfl) ?_
                    refine lv_iload hx hb dX10_copy_89 (lv_at hl 7 rfl) ?_
                    obtain ⟨v91, hc91, hf⟩ := cb1_some hf
                    refine kcRV (q0 := 2) (ci := 5) (As := [.int x4, .int x5]) (rest := []) (st1 := [.int v91]) C (c_Sh_holds l D ct a_sheets0 a_sheets0_items f_sheets0_form f_sheets0_size x4 x5 v91 hc91) ⟨rfl, rfl⟩ yn_yX5_holds tw_857 tw_858 tw_856 ⟨Nat.le_of_ble_eq_true rfl, Nat.le_of_ble_eq_true rfl⟩ ⟨Nat.zero_le _, Nat.zero_le _⟩ hP [2] rfl rfl rfl rfl hl.1 rfl rfl (Nat.le_of_ble_eq_true rfl) dX10_copy_91 rfl ?_
                    refine lv_if_ne (tgt := 103) hx hb dX10_copy_94 (by decide) (fun hc => ?_) (fun hc => ?_)
                    · have hf := kneg hc hf
                      refine lv_aload hx hb dX10_copy_103 (lv_at hl 0 rfl) ?_
                      refine lv_aload hx hb dX10_copy_105 (lv_at hl 1 rfl) ?_
                      refine lv_iload_n hx hb dX10_copy_107 rfl (lv_at hl 4 rfl) ?_
                      refine lv_iload hx hb dX10_copy_108 (lv_at hl 6 rfl) ?_
                      refine lv_iload hx hb dX10_copy_110 (lv_at hl 7 rfl) ?_
                      obtain ⟨f_sheets0_items_112, hc112, hf⟩ := cb1_some hf
                      refine kcMV (q0 := 2) (ci := 5) (As := [.ref a_sheets1, .int x2, .int x4, .int x5]) (rest := []) (st1 := []) (wf := (w_ND_copy ct a_this a_texts a_names a_pieces a_song a_fitting a_deal a_guesses a_wise a_spy a_sheets a_sheets0 a_sheets1 a_sheets2 a_sheets3 a_sheets0_items a_sheets1_items a_sheets2_items a_sheets3_items f_stale f_finding f_sheets0_form f_sheets0_size f_sheets0_items_112 f_sheets1_form f_sheets1_size f_sheets1_items f_sheets2_form f_sheets2_size f_sheets2_items f_sheets3_form f_sheets3_size f_sheets3_items)) C (c_Sh_take l D ct a_sheets0 a_sheets0_items a_sheets1 a_sheets1_items f_sheets0_form f_sheets1_form f_sheets0_size f_sheets1_size f_sheets1_items f_sheets0_items x2 x4 x5 f_sheets0_items_112 _ hc112) ⟨rfl, rfl⟩ yn_yX5_take tw_878 tw_879 tw_877 ⟨Nat.le_of_ble_eq_true rfl, Nat.le_of_ble_eq_true rfl⟩ ⟨Nat.zero_le _, Nat.zero_le _⟩ hP hD hS hA [2, 3, 4, 5] [0, 1, 6, 7, 8, 9] [0, 1, 6, 7, 8, 9, 2, 3, 4, 5] rfl rfl rfl rfl rfl (by decide) rfl rfl rfl rfl rfl rfl hl.1 rfl rfl (Nat.le_of_ble_eq_true rfl) dX10_copy_112 rfl (fun H locs hP hD hS => ?_)
                      refine lv_iconst (v := 1) hx hb dX10_copy_115 (by decide) ?_
                      obtain ⟨e1, e2, e3, e4, e5, e6⟩ := ti6 hf
                      subst e1; subst e2; subst e3; subst e4; subst e5; subst e6
                      exact kretM C hP hD hS dX10_copy_116
                    · have hf := kpos hc hf
                      exact t_ND_copy_b97v11 C hA a_this a_texts a_names a_pieces a_song a_fitting a_deal a_guesses a_wise a_spy a_sheets a_sheets0 a_sheets1 a_sheets2 a_sheets3 a_sheets0_items a_sheets1_items a_sheets2_items a_sheets3_items f_stale f_sheets0_form f_sheets0_size f_sheets1_form f_sheets1_size f_sheets2_form f_sheets2_size f_sheets3_form f_sheets3_size x1 x2 x3 x4 x5 r r_finding r_sheets0_items r_sheets1_items r_sheets2_items r_sheets3_items hs_1 hs_3 f_finding f_sheets0_items f_sheets1_items f_sheets2_items f_sheets3_items hf _ _ hP hD hS _ (lv_sub hl [2] rfl)
                · have hf := kneg hc hf
                  refine lv_aload_n hx hb dX10_copy_68 rfl (lv_at hl 2 rfl) ?_
                  refine lv_iconst (v := 4) hx hb dX10_copy_69 (by decide) ?_
                  obtain ⟨v70, f_finding_70, hc70, hf⟩ := cb2_some hf
                  refine kcMV (q0 := 0) (ci := 10) (As := [.int 4]) (rest := []) (st1 := [.int v70]) (wf := (w_ND_copy ct a_this a_texts a_names a_pieces a_song a_fitting a_deal a_guesses a_wise a_spy a_sheets a_sheets0 a_sheets1 a_sheets2 a_sheets3 a_sheets0_items a_sheets1_items a_sheets2_items a_sheets3_items f_stale f_finding_70 f_sheets0_form f_sheets0_size f_sheets0_items f_sheets1_form f_sheets1_size f_sheets1_items f_sheets2_form f_sheets2_size f_sheets2_items f_sheets3_form f_sheets3_size f_sheets3_items)) C (c_ND_found l D ct a_this a_texts a_names a_pieces a_song a_fitting a_deal a_guesses a_wise a_spy a_sheets f_stale f_finding 4 v70 f_finding_70 _ hc70) ⟨rfl, rfl⟩ yn_yX10_found tw_558 tw_10 tw_556 ⟨Nat.le_of_ble_eq_true rfl, Nat.le_of_ble_eq_true rfl⟩ ⟨Nat.zero_le _, Nat.zero_le _⟩ hP hD hS hA [0] [1, 2, 3, 4, 5, 6, 7, 8, 9] [9, 0, 1, 2, 3, 4, 5, 6, 7, 8] rfl rfl rfl rfl rfl (by decide) rfl rfl rfl rfl rfl rfl hl.1 rfl rfl (Nat.le_of_ble_eq_true rfl) dX10_copy_70 rfl (fun H locs hP hD hS => ?_)
                  obtain ⟨e1, e2, e3, e4, e5, e6⟩ := ti6 hf
                  subst e1; subst e2; subst e3; subst e4; subst e5; subst e6
                  exact kretM C hP hD hS dX10_copy_73
              · have hf := kneg hc hf
                exact t_ND_copy_b49v11 C hA a_this a_texts a_names a_pieces a_song a_fitting a_deal a_guesses a_wise a_spy a_sheets a_sheets0 a_sheets1 a_sheets2 a_sheets3 a_sheets0_items a_sheets1_items a_sheets2_items a_sheets3_items f_stale f_sheets0_form f_sheets0_size f_sheets1_form f_sheets1_size f_sheets2_form f_sheets2_size f_sheets3_form f_sheets3_size x1 x2 x3 x4 x5 r r_finding r_sheets0_items r_sheets1_items r_sheets2_items r_sheets3_items hs_1 hs_3 f_finding f_sheets0_items f_sheets1_items f_sheets2_items f_sheets3_items hf _ _ hP hD hS _ (lv_sub hl [2] rfl)
          · have hf := kneg hs_3 hf
            by_cases hs_3 : x3 = 1
            · have hf := kpos hs_3 hf
              refine kaald hx hb hK hP 1 4 rfl rfl (k := 1) (by rw [hs_3]; rfl) rfl (by decide) dX10_copy_30 ?_
              refine lv_astore (lv' := [(7, .ref a_sheets1), (6, .ref a_sheets1), (0, .ref a_this), (1, .int x1), (2, .int x2), (3, .int x3), (4, .int x4), (5, .int x5)]) hx hb dX10_copy_31 hl (by decide) rfl (fun ls hl => ?_)
              refine lv_aload hx hb dX10_copy_33 (lv_at hl 1 rfl) ?_
              obtain ⟨v35, hc35, hf⟩ := cb1_some hf
              refine kcRV (q0 := 4) (ci := 5) (As := []) (rest := []) (st1 := [.int v35]) C (c_Sh_isLost l D ct a_sheets1 a_sheets1_items f_sheets1_form f_sheets1_size v35 hc35) ⟨rfl, rfl⟩ yn_yX5_isLost tw_553 tw_554 tw_552 ⟨Nat.le_of_ble_eq_true rfl, Nat.le_of_ble_eq_true rfl⟩ ⟨Nat.zero_le _, Nat.zero_le _⟩ hP [4] rfl rfl rfl rfl hl.1 rfl rfl (Nat.le_of_ble_eq_true rfl) dX10_copy_35 rfl ?_
              refine lv_if_ne (tgt := 49) hx hb dX10_copy_38 (by decide) (fun hc => ?_) (fun hc => ?_)
              · have hf := kneg hc hf
                exact t_ND_copy_b49v10 C hA a_this a_texts a_names a_pieces a_song a_fitting a_deal a_guesses a_wise a_spy a_sheets a_sheets0 a_sheets1 a_sheets2 a_sheets3 a_sheets0_items a_sheets1_items a_sheets2_items a_sheets3_items f_stale f_sheets0_form f_sheets0_size f_sheets1_form f_sheets1_size f_sheets2_form f_sheets2_size f_sheets3_form f_sheets3_size x1 x2 x3 x4 x5 r r_finding r_sheets0_items r_sheets1_items r_sheets2_items r_sheets3_items hs_1 hs_3 f_finding f_sheets0_items f_sheets1_items f_sheets2_items f_sheets3_items hf _ _ hP hD hS _ (lv_sub hl [2] rfl)
              · have hf := kpos hc hf
                refine lv_aload hx hb dX10_copy_41 (lv_at hl 0 rfl) ?_
                obtain ⟨v43, hc43, hf⟩ := cb1_some hf
                refine kcRV (q0 := 4) (ci := 5) (As := []) (rest := []) (st1 := [.int v43]) C (c_Sh_isLost l D ct a_sheets1 a_sheets1_items f_sheets1_form f_sheets1_size v43 hc43) ⟨rfl, rfl⟩ yn_yX5_isLost tw_553 tw_554 tw_552 ⟨Nat.le_of_ble_eq_true rfl, Nat.le_of_ble_eq_true rfl⟩ ⟨Nat.zero_le _, Nat.zero_le _⟩ hP [4] rfl rfl rfl rfl hl.1 rfl rfl (Nat.le_of_ble_eq_true rfl) dX10_copy_43 rfl ?_
                refine lv_if_eq (tgt := 55) hx hb dX10_copy_46 (by decide) (fun hc => ?_) (fun hc => ?_)
                · have hf := kpos hc hf
                  refine lv_aload hx hb dX10_copy_55 (lv_at hl 1 rfl) ?_
                  obtain ⟨v57, hc57, hf⟩ := cb1_some hf
                  refine kcRV (q0 := 4) (ci := 5) (As := []) (rest := []) (st1 := [.int v57]) C (c_Sh_form l D ct a_sheets1 a_sheets1_items f_sheets1_size f_sheets1_form v57 hc57) ⟨rfl, rfl⟩ yn_yX5_form tw_853 tw_854 tw_852 ⟨Nat.le_of_ble_eq_true rfl, Nat.le_of_ble_eq_true rfl⟩ ⟨Nat.zero_le _, Nat.zero_le _⟩ hP [4] rfl rfl rfl rfl hl.1 rfl rfl (Nat.le_of_ble_eq_true rfl) dX10_copy_57 rfl ?_
                  refine lv_aload hx hb dX10_copy_60 (lv_at hl 0 rfl) ?_
                  obtain ⟨v62, hc62, hf⟩ := cb1_some hf
                  refine kcRV (q0 := 4) (ci := 5) (As := []) (rest := [.int v57]) (st1 := [.int v62, .int v57]) C (c_Sh_form l D ct a_sheets1 a_sheets1_items f_sheets1_size f_sheets1_form v62 hc62) ⟨rfl, rfl⟩ yn_yX5_form tw_853 tw_854 tw_852 ⟨Nat.le_of_ble_eq_true rfl, Nat.le_of_ble_eq_true rfl⟩ ⟨Nat.zero_le _, Nat.zero_le _⟩ hP [4] rfl rfl rfl rfl hl.1 rfl rfl (Nat.le_of_ble_eq_true rfl) dX10_copy_62 rfl ?_
                  refine lv_icmp_eq (tgt := 74) hx hb dX10_copy_65 (by decide) (fun hc => ?_) (fun hc => ?_)
                  · have hf := kpos hc hf
                    refine lv_aload hx hb dX10_copy_74 (lv_at hl 1 rfl) ?_
                    refine lv_iload_n hx hb dX10_copy_76 rfl (lv_at hl 4 rfl) ?_
                    refine lv_iload hx hb dX10_copy_77 (lv_at hl 7 rfl) ?_
                    obtain ⟨v79, hc79, hf⟩ := cb1_some hf
                    refine kcRV (q0 := 4) (ci := 5) (As := [.int x2, .int x5]) (rest := []) (st1 := [.int v79]) C (c_Sh_holds l D ct a_sheets1 a_sheets1_items f_sheets1_form f_sheets1_size x2 x5 v79 hc79) ⟨rfl, rfl⟩ yn_yX5_holds tw_857 tw_858 tw_856 ⟨Nat.le_of_ble_eq_true rfl, Nat.le_of_ble_eq_true rfl⟩ ⟨Nat.zero_le _, Nat.zero_le _⟩ hP [4] rfl rfl rfl rfl hl.1 rfl rfl (Nat.le_of_ble_eq_true rfl) dX10_copy_79 rfl ?_
                    refine lv_if_eq (tgt := 97) hx hb dX10_copy_82 (by decide) (fun hc => ?_) (fun hc => ?_)
                    · have hf := kpos hc hf
                      exact t_ND_copy_b97v10 C hA a_this a_texts a_names a_pieces a_song a_fitting a_deal a_guesses a_wise a_spy a_sheets a_sheets0 a_sheets1 a_sheets2 a_sheets3 a_sheets0_items a_sheets1_items a_sheets2_items a_sheets3_items f_stale f_sheets0_form f_sheets0_size f_sheets1_form f_sheets1_size f_sheets2_form f_sheets2_size f_sheets3_form f_sheets3_size x1 x2 x3 x4 x5 r r_finding r_sheets0_items r_sheets1_items r_sheets2_items r_sheets3_items hs_1 hs_3 f_finding f_sheets0_items f_sheets1_items f_sheets2_items f_sheets3_items hf _ _ hP hD hS _ (lv_sub hl [2] rfl)
                    · have hf := kneg hc hf
                      refine lv_aload hx hb dX10_copy_85 (lv_at hl 0 rfl) ?_
                      refine lv_iload hx hb dX10_copy_87 (lv_at hl 6 rfl) ?_
                      refine lv_iload hx hb dX10_copy_89 (lv_at hl 7 rfl) ?_
                      obtain ⟨v91, hc91, hf⟩ := cb1_some hf
                      refine kcRV (q0 := 4) (ci := 5) (As := [.int x4, .int x5]) (rest := []) (st1 := [.int v91]) C (c_Sh_holds l D ct a_sheets1 a_sheets1_items f_sheets1_form f_sheets1_size x4 x5 v91 hc91) ⟨rfl, rfl⟩ yn_yX5_holds tw_857 tw_858 tw_856 ⟨Nat.le_of_ble_eq_true rfl, Nat.le_of_ble_eq_true rfl⟩ ⟨Nat.zero_le _, Nat.zero_le _⟩ hP [4] rfl rfl rfl rfl hl.1 rfl rfl (Nat.le_of_ble_eq_true rfl) dX10_copy_91 rfl ?_
                      refine lv_if_ne (tgt := 103) hx hb dX10_copy_94 (by decide) (fun hc => ?_) (fun hc => ?_)
                      · have hf := kneg hc hf
                        refine lv_aload hx hb dX10_copy_103 (lv_at hl 0 rfl) ?_
                        refine lv_aload hx hb dX10_copy_105 (lv_at hl 1 rfl) ?_
                        refine lv_iload_n hx hb dX10_copy_107 rfl (lv_at hl 4 rfl) ?_
                        refine lv_iload hx hb dX10_copy_108 (lv_at hl 6 rfl) ?_
                        refine lv_iload hx hb dX10_copy_110 (lv_at hl 7 rfl) ?_
                        obtain ⟨f_sheets1_items_112, hc112, hf⟩ := cb1_some hf
                        refine kcMV (q0 := 4) (ci := 5) (As := [.ref a_sheets1, .int x2, .int x4, .int x5]) (rest := []) (st1 := []) (wf := (w_ND_copy ct a_this a_texts a_names a_pieces a_song a_fitting a_deal a_guesses a_wise a_spy a_sheets a_sheets0 a_sheets1 a_sheets2 a_sheets3 a_sheets0_items a_sheets1_items a_sheets2_items a_sheets3_items f_stale f_finding f_sheets0_form f_sheets0_size f_sheets0_items f_sheets1_form f_sheets1_size f_sheets1_items_112 f_sheets2_form f_sheets2_size f_sheets2_items f_sheets3_form f_sheets3_size f_sheets3_items)) C (c_Sh_take_same l D ct a_sheets1 a_sheets1_items f_sheets1_form f_sheets1_size f_sheets1_items x2 x4 x5 f_sheets1_items_112 _ hc112) ⟨rfl, rfl⟩ yn_yX5_take tw_878 tw_879 tw_877 ⟨Nat.le_of_ble_eq_true rfl, Nat.le_of_ble_eq_true rfl⟩ ⟨Nat.zero_le _, Nat.zero_le _⟩ hP hD hS hA [4, 5] [0, 1, 2, 3, 6, 7, 8, 9] [0, 1, 2, 3, 8, 9, 4, 5, 6, 7] rfl rfl rfl rfl rfl (by decide) rfl rfl rfl rfl rfl rfl hl.1 rfl rfl (Nat.le_of_ble_eq_true rfl) dX10_copy_112 rfl (fun H locs hP hD hS => ?_)
                        refine lv_iconst (v := 1) hx hb dX10_copy_115 (by decide) ?_
                        obtain ⟨e1, e2, e3, e4, e5, e6⟩ := ti6 hf
                        subst e1; subst e2; subst e3; subst e4; subst e5; subst e6
                        exact kretM C hP hD hS dX10_copy_116
                      · have hf := kpos hc hf
                        exact t_ND_copy_b97v10 C hA a_this a_texts a_names a_pieces a_song a_fitting a_deal a_guesses a_wise a_spy a_sheets a_sheets0 a_sheets1 a_sheets2 a_sheets3 a_sheets0_items a_sheets1_items a_sheets2_items a_sheets3_items f_stale f_sheets0_form f_sheets0_size f_sheets1_form f_sheets1_size f_sheets2_form f_sheets2_size f_sheets3_form f_sheets3_size x1 x2 x3 x4 x5 r r_finding r_sheets0_items r_sheets1_items r_sheets2_items r_sheets3_items hs_1 hs_3 f_finding f_sheets0_items f_sheets1_items f_sheets2_items f_sheets3_items hf _ _ hP hD hS _ (lv_sub hl [2] rfl)
                  · have hf := kneg hc hf
                    refine lv_aload_n hx hb dX10_copy_68 rfl (lv_at hl 2 rfl) ?_
                    refine lv_iconst (v := 4) hx hb dX10_copy_69 (by decide) ?_
                    obtain ⟨v70, f_finding_70, hc70, hf⟩ := cb2_some hf
                    refine kcMV (q0 := 0) (ci := 10) (As := [.int 4]) (rest := []) (st1 := [.int v70]) (wf := (w_ND_copy ct a_this a_texts a_names a_pieces a_song a_fitting a_deal a_guesses a_wise a_spy a_sheets a_sheets0 a_sheets1 a_sheets2 a_sheets3 a_sheets0_items a_sheets1_items a_sheets2_items a_sheets3_items f_stale f_finding_70 f_sheets0_form f_sheets0_size f_sheets0_items f_sheets1_form f_sheets1_size f_sheets1_items f_sheets2_form f_sheets2_size f_sheets2_items f_sheets3_form f_sheets3_size f_sheets3_items)) C (c_ND_found l D ct a_this a_texts a_names a_pieces a_song a_fitting a_deal a_guesses a_wise a_spy a_sheets f_stale f_finding 4 v70 f_finding_70 _ hc70) ⟨rfl, rfl⟩ yn_yX10_found tw_558 tw_10 tw_556 ⟨Nat.le_of_ble_eq_true rfl, Nat.le_of_ble_eq_true rfl⟩ ⟨Nat.zero_le _, Nat.zero_le _⟩ hP hD hS hA [0] [1, 2, 3, 4, 5, 6, 7, 8, 9] [9, 0, 1, 2, 3, 4, 5, 6, 7, 8] rfl rfl rfl rfl rfl (by decide) rfl rfl rfl rfl rfl rfl hl.1 rfl rfl (Nat.le_of_ble_eq_true rfl) dX10_copy_70 rfl (fun H locs hP hD hS => ?_)
                    obtain ⟨e1, e2, e3, e4, e5, e6⟩ := ti6 hf
                    subst e1; subst e2; subst e3; subst e4; subst e5; subst e6
                    exact kretM C hP hD hS dX10_copy_73
                · have hf := kneg hc hf
                  exact t_ND_copy_b49v10 C hA a_this a_texts a_names a_pieces a_song a_fitting a_deal a_guesses a_wise a_spy a_sheets a_sheets0 a_sheets1 a_sheets2 a_sheets3 a_sheets0_items a_sheets1_items a_sheets2_items a_sheets3_items f_stale f_sheets0_form f_sheets0_size f_sheets1_form f_sheets1_size f_sheets2_form f_sheets2_size f_sheets3_form f_sheets3_size x1 x2 x3 x4 x5 r r_finding r_sheets0_items r_sheets1_items r_sheets2_items r_sheets3_items hs_1 hs_3 f_finding f_sheets0_items f_sheets1_items f_sheets2_items f_sheets3_items hf _ _ hP hD hS _ (lv_sub hl [2] rfl)
            · have hf := kneg hs_3 hf
              by_cases hs_3 : x3 = 2
              · have hf := kpos hs_3 hf
                refine kaald hx hb hK hP 1 4 rfl rfl (k := 2) (by rw [hs_3]; rfl) rfl (by decide) dX10_copy_30 ?_
                refine lv_astore (lv' := [(7, .ref a_sheets2), (6, .ref a_sheets1), (0, .ref a_this), (1, .int x1), (2, .int x2), (3, .int x3), (4, .int x4), (5, .int x5)]) hx hb dX10_copy_31 hl (by decide) rfl (fun ls hl => ?_)
                refine lv_aload hx hb dX10_copy_33 (lv_at hl 1 rfl) ?_
                obtain ⟨v35, hc35, hf⟩ := cb1_some hf
                refine kcRV (q0 := 4) (ci := 5) (As := []) (rest := []) (st1 := [.int v35]) C (c_Sh_isLost l D ct a_sheets1 a_sheets1_items f_sheets1_form f_sheets1_size v35 hc35) ⟨rfl, rfl⟩ yn_yX5_isLost tw_553 tw_554 tw_552 ⟨Nat.le_of_ble_eq_true rfl, Nat.le_of_ble_eq_true rfl⟩ ⟨Nat.zero_le _, Nat.zero_le _⟩ hP [4] rfl rfl rfl rfl hl.1 rfl rfl (Nat.le_of_ble_eq_true rfl) dX10_copy_35 rfl ?_
                refine lv_if_ne (tgt := 49) hx hb dX10_copy_38 (by decide) (fun hc => ?_) (fun hc => ?_)
                · have hf := kneg hc hf
                  exact t_ND_copy_b49v9 C hA a_this a_texts a_names a_pieces a_song a_fitting a_deal a_guesses a_wise a_spy a_sheets a_sheets0 a_sheets1 a_sheets2 a_sheets3 a_sheets0_items a_sheets1_items a_sheets2_items a_sheets3_items f_stale f_sheets0_form f_sheets0_size f_sheets1_form f_sheets1_size f_sheets2_form f_sheets2_size f_sheets3_form f_sheets3_size x1 x2 x3 x4 x5 r r_finding r_sheets0_items r_sheets1_items r_sheets2_items r_sheets3_items hs_1 hs_3 f_finding f_sheets0_items f_sheets1_items f_sheets2_items f_sheets3_items hf _ _ hP hD hS _ (lv_sub hl [2] rfl)
                · have hf := kpos hc hf
                  refine lv_aload hx hb dX10_copy_41 (lv_at hl 0 rfl) ?_
                  obtain ⟨v43, hc43, hf⟩ := cb1_some hf
                  refine kcRV (q0 := 6) (ci := 5) (As := []) (rest := []) (st1 := [.int v43]) C (c_Sh_isLost l D ct a_sheets2 a_sheets2_items f_sheets2_form f_sheets2_size v43 hc43) ⟨rfl, rfl⟩ yn_yX5_isLost tw_553 tw_554 tw_552 ⟨Nat.le_of_ble_eq_true rfl, Nat.le_of_ble_eq_true rfl⟩ ⟨Nat.zero_le _, Nat.zero_le _⟩ hP [6] rfl rfl rfl rfl hl.1 rfl rfl (Nat.le_of_ble_eq_true rfl) dX10_copy_43 rfl ?_
                  refine lv_if_eq (tgt := 55) hx hb dX10_copy_46 (by decide) (fun hc => ?_) (fun hc => ?_)
                  · have hf := kpos hc hf
                    refine lv_aload hx hb dX10_copy_55 (lv_at hl 1 rfl) ?_
                    obtain ⟨v57, hc57, hf⟩ := cb1_some hf
                    refine kcRV (q0 := 4) (ci := 5) (As := []) (rest := []) (st1 := [.int v57]) C (c_Sh_form l D ct a_sheets1 a_sheets1_items f_sheets1_size f_sheets1_form v57 hc57) ⟨rfl, rfl⟩ yn_yX5_form tw_853 tw_854 tw_852 ⟨Nat.le_of_ble_eq_true rfl, Nat.le_of_ble_eq_true rfl⟩ ⟨Nat.zero_le _, Nat.zero_le _⟩ hP [4] rfl rfl rfl rfl hl.1 rfl rfl (Nat.le_of_ble_eq_true rfl) dX10_copy_57 rfl ?_
                    refine lv_aload hx hb dX10_copy_60 (lv_at hl 0 rfl) ?_
                    obtain ⟨v62, hc62, hf⟩ := cb1_some hf
                    refine kcRV (q0 := 6) (ci := 5) (As := []) (rest := [.int v57]) (st1 := [.int v62, .int v57]) C (c_Sh_form l D ct a_sheets2 a_sheets2_items f_sheets2_size f_sheets2_form v62 hc62) ⟨rfl, rfl⟩ yn_yX5_form tw_853 tw_854 tw_852 ⟨Nat.le_of_ble_eq_true rfl, Nat.le_of_ble_eq_true rfl⟩ ⟨Nat.zero_le _, Nat.zero_le _⟩ hP [6] rfl rfl rfl rfl hl.1 rfl rfl (Nat.le_of_ble_eq_true rfl) dX10_copy_62 rfl ?_
                    refine lv_icmp_eq (tgt := 74) hx hb dX10_copy_65 (by decide) (fun hc => ?_) (fun hc => ?_)
                    · have hf := kpos hc hf
                      refine lv_aload hx hb dX10_copy_74 (lv_at hl 1 rfl) ?_
                      refine lv_iload_n hx hb dX10_copy_76 rfl (lv_at hl 4 rfl) ?_
                      refine lv_iload hx hb dX10_copy_77 (lv_at hl 7 rfl) ?_
                      obtain ⟨v79, hc79, hf⟩ := cb1_some hf
                      refine kcRV (q0 := 4) (ci := 5) (As := [.int x2, .int x5]) (rest := []) (st1 := [.int v79]) C (c_Sh_holds l D ct a_sheets1 a_sheets1_items f_sheets1_form f_sheets1_size x2 x5 v79 hc79) ⟨rfl, rfl⟩ yn_yX5_holds tw_857 tw_858 tw_856 ⟨Nat.le_of_ble_eq_true rfl, Nat.le_of_ble_eq_true rfl⟩ ⟨Nat.zero_le _, Nat.zero_le _⟩ hP [4] rfl rfl rfl rfl hl.1 rfl rfl (Nat.le_of_ble_eq_true rfl) dX10_copy_79 rfl ?_
                      refine lv_if_eq (tgt := 97) hx hb dX10_copy_82 (by decide) (fun hc => ?_) (fun hc => ?_)
                      · have hf := kpos hc hf
                        exact t_ND_copy_b97v9 C hA a_this a_texts a_names a_pieces a_song a_fitting a_deal a_guesses a_wise a_spy a_sheets a_sheets0 a_sheets1 a_sheets2 a_sheets3 a_sheets0_items a_sheets1_items a_sheets2_items a_sheets3_items f_stale f_sheets0_form f_sheets0_size f_sheets1_form f_sheets1_size f_sheets2_form f_sheets2_size f_sheets3_form f_sheets3_size x1 x2 x3 x4 x5 r r_finding r_sheets0_items r_sheets1_items r_sheets2_items r_sheets3_items hs_1 hs_3 f_finding f_sheets0_items f_sheets1_items f_sheets2_items f_sheets3_items hf _ _ hP hD hS _ (lv_sub hl [2] rfl)
                      · have hf := kneg hc hf
                        refine lv_aload hx hb dX10_copy_85 (lv_at hl 0 rfl) ?_
                        refine lv_iload hx hb dX10_copy_87 (lv_at hl 6 rfl) ?_
                        refine lv_iload hx hb dX10_copy_89 (lv_at hl 7 rfl) ?_
                        obtain ⟨v91, hc91, hf⟩ := cb1_some hf
                        refine kcRV (q0 := 6) (ci := 5) (As := [.int x4, .int x5]) (rest := []) (st1 := [.int v91]) C (c_Sh_holds l D ct a_sheets2 a_sheets2_items f_sheets2_form f_sheets2_size x4 x5 v91 hc91) ⟨rfl, rfl⟩ yn_yX5_holds tw_857 tw_858 tw_856 ⟨Nat.le_of_ble_eq_true rfl, Nat.le_of_ble_eq_true rfl⟩ ⟨Nat.zero_le _, Nat.zero_le _⟩ hP [6] rfl rfl rfl rfl hl.1 rfl rfl (Nat.le_of_ble_eq_true rfl) dX10_copy_91 rfl ?_
                        refine lv_if_ne (tgt := 103) hx hb dX10_copy_94 (by decide) (fun hc => ?_) (fun hc => ?_)
                        · have hf := kneg hc hf
                          refine lv_aload hx hb dX10_copy_103 (lv_at hl 0 rfl) ?_
                          refine lv_aload hx hb dX10_copy_105 (lv_at hl 1 rfl) ?_
                          refine lv_iload_n hx hb dX10_copy_107 rfl (lv_at hl 4 rfl) ?_
                          refine lv_iload hx hb dX10_copy_108 (lv_at hl 6 rfl) ?_
                          refine lv_iload hx hb dX10_copy_110 (lv_at hl 7 rfl) ?_
                          obtain ⟨f_sheets2_items_112, hc112, hf⟩ := cb1_some hf
                          refine kcMV (q0 := 6) (ci := 5) (As := [.ref a_sheets1, .int x2, .int x4, .int x5]) (rest := []) (st1 := []) (wf := (w_ND_copy ct a_this a_texts a_names a_pieces a_song a_fitting a_deal a_guesses a_wise a_spy a_sheets a_sheets0 a_sheets1 a_sheets2 a_sheets3 a_sheets0_items a_sheets1_items a_sheets2_items a_sheets3_items f_stale f_finding f_sheets0_form f_sheets0_size f_sheets0_items f_sheets1_form f_sheets1_size f_sheets1_items f_sheets2_form f_sheets2_size f_sheets2_items_112 f_sheets3_form f_sheets3_size f_sheets3_items)) C (c_Sh_take l D ct a_sheets2 a_sheets2_items a_sheets1 a_sheets1_items f_sheets2_form f_sheets1_form f_sheets2_size f_sheets1_size f_sheets1_items f_sheets2_items x2 x4 x5 f_sheets2_items_112 _ hc112) ⟨rfl, rfl⟩ yn_yX5_take tw_878 tw_879 tw_877 ⟨Nat.le_of_ble_eq_true rfl, Nat.le_of_ble_eq_true rfl⟩ ⟨Nat.zero_le _, Nat.zero_le _⟩ hP hD hS hA [6, 7, 4, 5] [0, 1, 2, 3, 8, 9] [0, 1, 2, 3, 8, 9, 6, 7, 4, 5] rfl rfl rfl rfl rfl (by decide) rfl rfl rfl rfl rfl rfl hl.1 rfl rfl (Nat.le_of_ble_eq_true rfl) dX10_copy_112 rfl (fun H locs hP hD hS => ?_)
                          refine lv_iconst (v := 1) hx hb dX10_copy_115 (by decide) ?_
                          obtain ⟨e1, e2, e3, e4, e5, e6⟩ := ti6 hf
                          subst e1; subst e2; subst e3; subst e4; subst e5; subst e6
                          exact kretM C hP hD hS dX10_copy_116
                        · have hf := kpos hc hf
                          exact t_ND_copy_b97v9 C hA a_this a_texts a_names a_pieces a_song a_fitting a_deal a_guesses a_wise a_spy a_sheets a_sheets0 a_sheets1 a_sheets2 a_sheets3 a_sheets0_items a_sheets1_items a_sheets2_items a_sheets3_items f_stale f_sheets0_form f_sheets0_size f_sheets1_form f_sheets1_size f_sheets2_form f_sheets2_size f_sheets3_form f_sheets3_size x1 x2 x3 x4 x5 r r_finding r_sheets0_items r_sheets1_items r_sheets2_items r_sheets3_items hs_1 hs_3 f_finding f_sheets0_items f_sheets1_items f_sheets2_items f_sheets3_items hf _ _ hP hD hS _ (lv_sub hl [2] rfl)
                    · have hf := kneg hc hf
                      refine lv_aload_n hx hb dX10_copy_68 rfl (lv_at hl 2 rfl) ?_
                      refine lv_iconst (v := 4) hx hb dX10_copy_69 (by decide) ?_
                      obtain ⟨v70, f_finding_70, hc70, hf⟩ := cb2_some hf
                      refine kcMV (q0 := 0) (ci := 10) (As := [.int 4]) (rest := []) (st1 := [.int v70]) (wf := (w_ND_copy ct a_this a_texts a_names a_pieces a_song a_fitting a_deal a_guesses a_wise a_spy a_sheets a_sheets0 a_sheets1 a_sheets2 a_sheets3 a_sheets0_items a_sheets1_items a_sheets2_items a_sheets3_items f_stale f_finding_70 f_sheets0_form f_sheets0_size f_sheets0_items f_sheets1_form f_sheets1_size f_sheets1_items f_sheets2_form f_sheets2_size f_sheets2_items f_sheets3_form f_sheets3_size f_sheets3_items)) C (c_ND_found l D ct a_this a_texts a_names a_pieces a_song a_fitting a_deal a_guesses a_wise a_spy a_sheets f_stale f_finding 4 v70 f_finding_70 _ hc70) ⟨rfl, rfl⟩ yn_yX10_found tw_558 tw_10 tw_556 ⟨Nat.le_of_ble_eq_true rfl, Nat.le_of_ble_eq_true rfl⟩ ⟨Nat.zero_le _, Nat.zero_le _⟩ hP hD hS hA [0] [1, 2, 3, 4, 5, 6, 7, 8, 9] [9, 0, 1, 2, 3, 4, 5, 6, 7, 8] rfl rfl rfl rfl rfl (by decide) rfl rfl rfl rfl rfl rfl hl.1 rfl rfl (Nat.le_of_ble_eq_true rfl) dX10_copy_70 rfl (fun H locs hP hD hS => ?_)
                      obtain ⟨e1, e2, e3, e4, e5, e6⟩ := ti6 hf
                      subst e1; subst e2; subst e3; subst e4; subst e5; subst e6
                      exact kretM C hP hD hS dX10_copy_73
                  · have hf := kneg hc hf
                    exact t_ND_copy_b49v9 C hA a_this a_texts a_names a_pieces a_song a_fitting a_deal a_guesses a_wise a_spy a_sheets a_sheets0 a_sheets1 a_sheets2 a_sheets3 a_sheets0_items a_sheets1_items a_sheets2_items a_sheets3_items f_stale f_sheets0_form f_sheets0_size f_sheets1_form f_sheets1_size f_sheets2_form f_sheets2_size f_sheets3_form f_sheets3_size x1 x2 x3 x4 x5 r r_finding r_sheets0_items r_sheets1_items r_sheets2_items r_sheets3_items hs_1 hs_3 f_finding f_sheets0_items f_sheets1_items f_sheets2_items f_sheets3_items hf _ _ hP hD hS _ (lv_sub hl [2] rfl)
              · have hf := kneg hs_3 hf
                by_cases hs_3 : x3 = 3
                · have hf := kpos hs_3 hf
                  refine kaald hx hb hK hP 1 4 rfl rfl (k := 3) (by rw [hs_3]; rfl) rfl (by decide) dX10_copy_30 ?_
                  refine lv_astore (lv' := [(7, .ref a_sheets3), (6, .ref a_sheets1), (0, .ref a_this), (1, .int x1), (2, .int x2), (3, .int x3), (4, .int x4), (5, .int x5)]) hx hb dX10_copy_31 hl (by decide) rfl (fun ls hl => ?_)
                  refine lv_aload hx hb dX10_copy_33 (lv_at hl 1 rfl) ?_
                  obtain ⟨v35, hc35, hf⟩ := cb1_some hf
                  refine kcRV (q0 := 4) (ci := 5) (As := []) (rest := []) (st1 := [.int v35]) C (c_Sh_isLost l D ct a_sheets1 a_sheets1_items f_sheets1_form f_sheets1_size v35 hc35) ⟨rfl, rfl⟩ yn_yX5_isLost tw_553 tw_554 tw_552 ⟨Nat.le_of_ble_eq_true rfl, Nat.le_of_ble_eq_true rfl⟩ ⟨Nat.zero_le _, Nat.zero_le _⟩ hP [4] rfl rfl rfl rfl hl.1 rfl rfl (Nat.le_of_ble_eq_true rfl) dX10_copy_35 rfl ?_
                  refine lv_if_ne (tgt := 49) hx hb dX10_copy_38 (by decide) (fun hc => ?_) (fun hc => ?_)
                  · have hf := kneg hc hf
                    exact t_ND_copy_b49v8 C hA a_this a_texts a_names a_pieces a_song a_fitting a_deal a_guesses a_wise a_spy a_sheets a_sheets0 a_sheets1 a_sheets2 a_sheets3 a_sheets0_items a_sheets1_items a_sheets2_items a_sheets3_items f_stale f_sheets0_form f_sheets0_size f_sheets1_form f_sheets1_size f_sheets2_form f_sheets2_size f_sheets3_form f_sheets3_size x1 x2 x3 x4 x5 r r_finding r_sheets0_items r_sheets1_items r_sheets2_items r_sheets3_items hs_1 hs_3 f_finding f_sheets0_items f_sheets1_items f_sheets2_items f_sheets3_items hf _ _ hP hD hS _ (lv_sub hl [2] rfl)
                  · have hf := kpos hc hf
                    refine lv_aload hx hb dX10_copy_41 (lv_at hl 0 rfl) ?_
                    obtain ⟨v43, hc43, hf⟩ := cb1_some hf
                    refine kcRV (q0 := 8) (ci := 5) (As := []) (rest := []) (st1 := [.int v43]) C (c_Sh_isLost l D ct a_sheets3 a_sheets3_items f_sheets3_form f_sheets3_size v43 hc43) ⟨rfl, rfl⟩ yn_yX5_isLost tw_553 tw_554 tw_552 ⟨Nat.le_of_ble_eq_true rfl, Nat.le_of_ble_eq_true rfl⟩ ⟨Nat.zero_le _, Nat.zero_le _⟩ hP [8] rfl rfl rfl rfl hl.1 rfl rfl (Nat.le_of_ble_eq_true rfl) dX10_copy_43 rfl ?_
                    refine lv_if_eq (tgt := 55) hx hb dX10_copy_46 (by decide) (fun hc => ?_) (fun hc => ?_)
                    · have hf := kpos hc hf
                      refine lv_aload hx hb dX10_copy_55 (lv_at hl 1 rfl) ?_
                      obtain ⟨v57, hc57, hf⟩ := cb1_some hf
                      refine kcRV (q0 := 4) (ci := 5) (As := []) (rest := []) (st1 := [.int v57]) C (c_Sh_form l D ct a_sheets1 a_sheets1_items f_sheets1_size f_sheets1_form v57 hc57) ⟨rfl, rfl⟩ yn_yX5_form tw_853 tw_854 tw_852 ⟨Nat.le_of_ble_eq_true rfl, Nat.le_of_ble_eq_true rfl⟩ ⟨Nat.zero_le _, Nat.zero_le _⟩ hP [4] rfl rfl rfl rfl hl.1 rfl rfl (Nat.le_of_ble_eq_true rfl) dX10_copy_57 rfl ?_
                      refine lv_aload hx hb dX10_copy_60 (lv_at hl 0 rfl) ?_
                      obtain ⟨v62, hc62, hf⟩ := cb1_some hf
                      refine kcRV (q0 := 8) (ci := 5) (As := []) (rest := [.int v57]) (st1 := [.int v62, .int v57]) C (c_Sh_form l D ct a_sheets3 a_sheets3_items f_sheets3_size f_sheets3_form v62 hc62) ⟨rfl, rfl⟩ yn_yX5_form tw_853 tw_854 tw_852 ⟨Nat.le_of_ble_eq_true rfl, Nat.le_of_ble_eq_true rfl⟩ ⟨Nat.zero_le _, Nat.zero_le _⟩ hP [8] rfl rfl rfl rfl hl.1 rfl rfl (Nat.le_of_ble_eq_true rfl) dX10_copy_62 rfl ?_
                      refine lv_icmp_eq (tgt := 74) hx hb dX10_copy_65 (by decide) (fun hc => ?_) (fun hc => ?_)
                      · have hf := kpos hc hf
                        refine lv_aload hx hb dX10_copy_74 (lv_at hl 1 rfl) ?_
                        refine lv_iload_n hx hb dX10_copy_76 rfl (lv_at hl 4 rfl) ?_
                        refine lv_iload hx hb dX10_copy_77 (lv_at hl 7 rfl) ?_
                        obtain ⟨v79, hc79, hf⟩ := cb1_some hf
                        refine kcRV (q0 := 4) (ci := 5) (As := [.int x2, .int x5]) (rest := []) (st1 := [.int v79]) C (c_Sh_holds l D ct a_sheets1 a_sheets1_items f_sheets1_form f_sheets1_size x2 x5 v79 hc79) ⟨rfl, rfl⟩ yn_yX5_holds tw_857 tw_858 tw_856 ⟨Nat.le_of_ble_eq_true rfl, Nat.le_of_ble_eq_true rfl⟩ ⟨Nat.zero_le _, Nat.zero_le _⟩ hP [4] rfl rfl rfl rfl hl.1 rfl rfl (Nat.le_of_ble_eq_true rfl) dX10_copy_79 rfl ?_
                        refine lv_if_eq (tgt := 97) hx hb dX10_copy_82 (by decide) (fun hc => ?_) (fun hc => ?_)
                        · have hf := kpos hc hf
                          exact t_ND_copy_b97v8 C hA a_this a_texts a_names a_pieces a_song a_fitting a_deal a_guesses a_wise a_spy a_sheets a_sheets0 a_sheets1 a_sheets2 a_sheets3 a_sheets0_items a_sheets1_items a_sheets2_items a_sheets3_items f_stale f_sheets0_form f_sheets0_size f_sheets1_form f_sheets1_size f_sheets2_form f_sheets2_size f_sheets3_form f_sheets3_size x1 x2 x3 x4 x5 r r_finding r_sheets0_items r_sheets1_items r_sheets2_items r_sheets3_items hs_1 hs_3 f_finding f_sheets0_items f_sheets1_items f_sheets2_items f_sheets3_items hf _ _ hP hD hS _ (lv_sub hl [2] rfl)
                        · have hf := kneg hc hf
                          refine lv_aload hx hb dX10_copy_85 (lv_at hl 0 rfl) ?_
                          refine lv_iload hx hb dX10_copy_87 (lv_at hl 6 rfl) ?_
                          refine lv_iload hx hb dX10_copy_89 (lv_at hl 7 rfl) ?_
                          obtain ⟨v91, hc91, hf⟩ := cb1_some hf
                          refine kcRV (q0 := 8) (ci := 5) (As := [.int x4, .int x5]) (rest := []) (st1 := [.int v91]) C (c_Sh_holds l D ct a_sheets3 a_sheets3_items f_sheets3_form f_sheets3_size x4 x5 v91 hc91) ⟨rfl, rfl⟩ yn_yX5_holds tw_857 tw_858 tw_856 ⟨Nat.le_of_ble_eq_true rfl, Nat.le_of_ble_eq_true rfl⟩ ⟨Nat.zero_le _, Nat.zero_le _⟩ hP [8] rfl rfl rfl rfl hl.1 rfl rfl (Nat.le_of_ble_eq_true rfl) dX10_copy_91 rfl ?_
                          refine lv_if_ne (tgt := 103) hx hb dX10_copy_94 (by decide) (fun hc => ?_) (fun hc => ?_)
                          · have hf := kneg hc hf
                            refine lv_aload hx hb dX10_copy_103 (lv_at hl 0 rfl) ?_
                            refine lv_aload hx hb dX10_copy_105 (lv_at hl 1 rfl) ?_
                            refine lv_iload_n hx hb dX10_copy_107 rfl (lv_at hl 4 rfl) ?_
                            refine lv_iload hx hb dX10_copy_108 (lv_at hl 6 rfl) ?_
                            refine lv_iload hx hb dX10_copy_110 (lv_at hl 7 rfl) ?_
                            obtain ⟨f_sheets3_items_112, hc112, hf⟩ := cb1_some hf
                            refine kcMV (q0 := 8) (ci := 5) (As := [.ref a_sheets1, .int x2, .int x4, .int x5]) (rest := []) (st1 := []) (wf := (w_ND_copy ct a_this a_texts a_names a_pieces a_song a_fitting a_deal a_guesses a_wise a_spy a_sheets a_sheets0 a_sheets1 a_sheets2 a_sheets3 a_sheets0_items a_sheets1_items a_sheets2_items a_sheets3_items f_stale f_finding f_sheets0_form f_sheets0_size f_sheets0_items f_sheets1_form f_sheets1_size f_sheets1_items f_sheets2_form f_sheets2_size f_sheets2_items f_sheets3_form f_sheets3_size f_sheets3_items_112)) C (c_Sh_take l D ct a_sheets3 a_sheets3_items a_sheets1 a_sheets1_items f_sheets3_form f_sheets1_form f_sheets3_size f_sheets1_size f_sheets1_items f_sheets3_items x2 x4 x5 f_sheets3_items_112 _ hc112) ⟨rfl, rfl⟩ yn_yX5_take tw_878 tw_879 tw_877 ⟨Nat.le_of_ble_eq_true rfl, Nat.le_of_ble_eq_true rfl⟩ ⟨Nat.zero_le _, Nat.zero_le _⟩ hP hD hS hA [8, 9, 4, 5] [0, 1, 2, 3, 6, 7] [0, 1, 2, 3, 8, 9, 4, 5, 6, 7] rfl rfl rfl rfl rfl (by decide) rfl rfl rfl rfl rfl rfl hl.1 rfl rfl (Nat.le_of_ble_eq_true rfl) dX10_copy_112 rfl (fun H locs hP hD hS => ?_)
                            refine lv_iconst (v := 1) hx hb dX10_copy_115 (by decide) ?_
                            obtain ⟨e1, e2, e3, e4, e5, e6⟩ := ti6 hf
                            subst e1; subst e2; subst e3; subst e4; subst e5; subst e6
                            exact kretM C hP hD hS dX10_copy_116
                          · have hf := kpos hc hf
                            exact t_ND_copy_b97v8 C hA a_this a_texts a_names a_pieces a_song a_fitting a_deal a_guesses a_wise a_spy a_sheets a_sheets0 a_sheets1 a_sheets2 a_sheets3 a_sheets0_items a_sheets1_items a_sheets2_items a_sheets3_items f_stale f_sheets0_form f_sheets0_size f_sheets1_form f_sheets1_size f_sheets2_form f_sheets2_size f_sheets3_form f_sheets3_size x1 x2 x3 x4 x5 r r_finding r_sheets0_items r_sheets1_items r_sheets2_items r_sheets3_items hs_1 hs_3 f_finding f_sheets0_items f_sheets1_items f_sheets2_items f_sheets3_items hf _ _ hP hD hS _ (lv_sub hl [2] rfl)
                      · have hf := kneg hc hf
                        refine lv_aload_n hx hb dX10_copy_68 rfl (lv_at hl 2 rfl) ?_
                        refine lv_iconst (v := 4) hx hb dX10_copy_69 (by decide) ?_
                        obtain ⟨v70, f_finding_70, hc70, hf⟩ := cb2_some hf
                        refine kcMV (q0 := 0) (ci := 10) (As := [.int 4]) (rest := []) (st1 := [.int v70]) (wf := (w_ND_copy ct a_this a_texts a_names a_pieces a_song a_fitting a_deal a_guesses a_wise a_spy a_sheets a_sheets0 a_sheets1 a_sheets2 a_sheets3 a_sheets0_items a_sheets1_items a_sheets2_items a_sheets3_items f_stale f_finding_70 f_sheets0_form f_sheets0_size f_sheets0_items f_sheets1_form f_sheets1_size f_sheets1_items f_sheets2_form f_sheets2_size f_sheets2_items f_sheets3_form f_sheets3_size f_sheets3_items)) C (c_ND_found l D ct a_this a_texts a_names a_pieces a_song a_fitting a_deal a_guesses a_wise a_spy a_sheets f_stale f_finding 4 v70 f_finding_70 _ hc70) ⟨rfl, rfl⟩ yn_yX10_found tw_558 tw_10 tw_556 ⟨Nat.le_of_ble_eq_true rfl, Nat.le_of_ble_eq_true rfl⟩ ⟨Nat.zero_le _, Nat.zero_le _⟩ hP hD hS hA [0] [1, 2, 3, 4, 5, 6, 7, 8, 9] [9, 0, 1, 2, 3, 4, 5, 6, 7, 8] rfl rfl rfl rfl rfl (by decide) rfl rfl rfl rfl rfl rfl hl.1 rfl rfl (Nat.le_of_ble_eq_true rfl) dX10_copy_70 rfl (fun H locs hP hD hS => ?_)
                        obtain ⟨e1, e2, e3, e4, e5, e6⟩ := ti6 hf
                        subst e1; subst e2; subst e3; subst e4; subst e5; subst e6
                        exact kretM C hP hD hS dX10_copy_73
                    · have hf := kneg hc hf
                      exact t_ND_copy_b49v8 C hA a_this a_texts a_names a_pieces a_song a_fitting a_deal a_guesses a_wise a_spy a_sheets a_sheets0 a_sheets1 a_sheets2 a_sheets3 a_sheets0_items a_sheets1_items a_sheets2_items a_sheets3_items f_stale f_sheets0_form f_sheets0_size f_sheets1_form f_sheets1_size f_sheets2_form f_sheets2_size f_sheets3_form f_sheets3_size x1 x2 x3 x4 x5 r r_finding r_sheets0_items r_sheets1_items r_sheets2_items r_sheets3_items hs_1 hs_3 f_finding f_sheets0_items f_sheets1_items f_sheets2_items f_sheets3_items hf _ _ hP hD hS _ (lv_sub hl [2] rfl)
                · have hf := kneg hs_3 hf
                  cases hf
        · have hf := kneg hs_1 hf
          by_cases hs_1 : x1 = 2
          · have hf := kpos hs_1 hf
            refine kaald hx hb hK hP 1 4 rfl rfl (k := 2) (by rw [hs_1]; rfl) rfl (by decide) dX10_copy_22 ?_
            refine lv_astore (lv' := [(6, .ref a_sheets2), (0, .ref a_this), (1, .int x1), (2, .int x2), (3, .int x3), (4, .int x4), (5, .int x5)]) hx hb dX10_copy_23 hl (by decide) rfl (fun ls hl => ?_)
            refine lv_aload_n hx hb dX10_copy_25 rfl (lv_at hl 1 rfl) ?_
            refine va_get (ci := 10) (v := .ref a_sheets) (C := RX10) (T := TX10) (N := 12) hx hb hts inX10 hown hK hP 0 rfl rfl 9 (by decide) (hts _ tw_292) (fun _ h9 => h9) rfl dX10_copy_26 ?_
            refine lv_iload_n hx hb dX10_copy_29 rfl (lv_at hl 4 rfl) ?_
            by_cases hs_3 : x3 = 0
            · have hf := kpos hs_3 hf
              refine kaald hx hb hK hP 1 4 rfl rfl (k := 0) (by rw [hs_3]; rfl) rfl (by decide) dX10_copy_30 ?_
              refine lv_astore (lv' := [(7, .ref a_sheets0), (6, .ref a_sheets2), (0, .ref a_this), (1, .int x1), (2, .int x2), (3, .int x3), (4, .int x4), (5, .int x5)]) hx hb dX10_copy_31 hl (by decide) rfl (fun ls hl => ?_)
              refine lv_aload hx hb dX10_copy_33 (lv_at hl 1 rfl) ?_
              obtain ⟨v35, hc35, hf⟩ := cb1_some hf
              refine kcRV (q0 := 6) (ci := 5) (As := []) (rest := []) (st1 := [.int v35]) C (c_Sh_isLost l D ct a_sheets2 a_sheets2_items f_sheets2_form f_sheets2_size v35 hc35) ⟨rfl, rfl⟩ yn_yX5_isLost tw_553 tw_554 tw_552 ⟨Nat.le_of_ble_eq_true rfl, Nat.le_of_ble_eq_true rfl⟩ ⟨Nat.zero_le _, Nat.zero_le _⟩ hP [6] rfl rfl rfl rfl hl.1 rfl rfl (Nat.le_of_ble_eq_true rfl) dX10_copy_35 rfl ?_
              refine lv_if_ne (tgt := 49) hx hb dX10_copy_38 (by decide) (fun hc => ?_) (fun hc => ?_)
              · have hf := kneg hc hf
                exact t_ND_copy_b49v7 C hA a_this a_texts a_names a_pieces a_song a_fitting a_deal a_guesses a_wise a_spy a_sheets a_sheets0 a_sheets1 a_sheets2 a_sheets3 a_sheets0_items a_sheets1_items a_sheets2_items a_sheets3_items f_stale f_sheets0_form f_sheets0_size f_sheets1_form f_sheets1_size f_sheets2_form f_sheets2_size f_sheets3_form f_sheets3_size x1 x2 x3 x4 x5 r r_finding r_sheets0_items r_sheets1_items r_sheets2_items r_sheets3_items hs_1 hs_3 f_finding f_sheets0_items f_sheets1_items f_sheets2_items f_sheets3_items hf _ _ hP hD hS _ (lv_sub hl [2] rfl)
              · have hf := kpos hc hf
                refine lv_aload hx hb dX10_copy_41 (lv_at hl 0 rfl) ?_
                obtain ⟨v43, hc43, hf⟩ := cb1_some hf
                refine kcRV (q0 := 2) (ci := 5) (As := []) (rest := []) (st1 := [.int v43]) C (c_Sh_isLost l D ct a_sheets0 a_sheets0_items f_sheets0_form f_sheets0_size v43 hc43) ⟨rfl, rfl⟩ yn_yX5_isLost tw_553 tw_554 tw_552 ⟨Nat.le_of_ble_eq_true rfl, Nat.le_of_ble_eq_true rfl⟩ ⟨Nat.zero_le _, Nat.zero_le _⟩ hP [2] rfl rfl rfl rfl hl.1 rfl rfl (Nat.le_of_ble_eq_true rfl) dX10_copy_43 rfl ?_
                refine lv_if_eq (tgt := 55) hx hb dX10_copy_46 (by decide) (fun hc => ?_) (fun hc => ?_)
                · have hf := kpos hc hf
                  refine lv_aload hx hb dX10_copy_55 (lv_at hl 1 rfl) ?_
                  obtain ⟨v57, hc57, hf⟩ := cb1_some hf
                  refine kcRV (q0 := 6) (ci := 5) (As := []) (rest := []) (st1 := [.int v57]) C (c_Sh_form l D ct a_sheets2 a_sheets2_items f_sheets2_size f_sheets2_form v57 hc57) ⟨rfl, rfl⟩ yn_yX5_form tw_853 tw_854 tw_852 ⟨Nat.le_of_ble_eq_true rfl, Nat.le_of_ble_eq_true rfl⟩ ⟨Nat.zero_le _, Nat.zero_le _⟩ hP [6] rfl rfl rfl rfl hl.1 rfl rfl (Nat.le_of_ble_eq_true rfl) dX10_copy_57 rfl ?_
                  refine lv_aload hx hb dX10_copy_60 (lv_at hl 0 rfl) ?_
                  obtain ⟨v62, hc62, hf⟩ := cb1_some hf
                  refine kcRV (q0 := 2) (ci := 5) (As := []) (rest := [.int v57]) (st1 := [.int v62, .int v57]) C (c_Sh_form l D ct a_sheets0 a_sheets0_items f_sheets0_size f_sheets0_form v62 hc62) ⟨rfl, rfl⟩ yn_yX5_form tw_853 tw_854 tw_852 ⟨Nat.le_of_ble_eq_true rfl, Nat.le_of_ble_eq_true rfl⟩ ⟨Nat.zero_le _, Nat.zero_le _⟩ hP [2] rfl rfl rfl rfl hl.1 rfl rfl (Nat.le_of_ble_eq_true rfl) dX10_copy_62 rfl ?_
                  refine lv_icmp_eq (tgt := 74) hx hb dX10_copy_65 (by decide) (fun hc => ?_) (fun hc => ?_)
                  · have hf := kpos hc hf
                    refine lv_aload hx hb dX10_copy_74 (lv_at hl 1 rfl) ?_
                    refine lv_iload_n hx hb dX10_copy_76 rfl (lv_at hl 4 rfl) ?_
                    refine lv_iload hx hb dX10_copy_77 (lv_at hl 7 rfl) ?_
                    obtain ⟨v79, hc79, hf⟩ := cb1_some hf
                    refine kcRV (q0 := 6) (ci := 5) (As := [.int x2, .int x5]) (rest := []) (st1 := [.int v79]) C (c_Sh_holds l D ct a_sheets2 a_sheets2_items f_sheets2_form f_sheets2_size x2 x5 v79 hc79) ⟨rfl, rfl⟩ yn_yX5_holds tw_857 tw_858 tw_856 ⟨Nat.le_of_ble_eq_true rfl, Nat.le_of_ble_eq_true rfl⟩ ⟨Nat.zero_le _, Nat.zero_le _⟩ hP [6] rfl rfl rfl rfl hl.1 rfl rfl (Nat.le_of_ble_eq_true rfl) dX10_copy_79 rfl ?_
                    refine lv_if_eq (tgt := 97) hx hb dX10_copy_82 (by decide) (fun hc => ?_) (fun hc => ?_)
                    · have hf := kpos hc hf
                      exact t_ND_copy_b97v7 C hA a_this a_texts a_names a_pieces a_song a_fitting a_deal a_guesses a_wise a_spy a_sheets a_sheets0 a_sheets1 a_sheets2 a_sheets3 a_sheets0_items a_sheets1_items a_sheets2_items a_sheets3_items f_stale f_sheets0_form f_sheets0_size f_sheets1_form f_sheets1_size f_sheets2_form f_sheets2_size f_sheets3_form f_sheets3_size x1 x2 x3 x4 x5 r r_finding r_sheets0_items r_sheets1_items r_sheets2_items r_sheets3_items hs_1 hs_3 f_finding f_sheets0_items f_sheets1_items f_sheets2_items f_sheets3_items hf _ _ hP hD hS _ (lv_sub hl [2] rfl)
                    · have hf := kneg hc hf
                      refine lv_aload hx hb dX10_copy_85 (lv_at hl 0 rfl) ?_
                      refine lv_iload hx hb dX10_copy_87 (lv_at hl 6 rfl) ?_
                      refine lv_iload hx hb dX10_copy_89 (lv_at hl 7 rfl) ?_
                      obtain ⟨v91, hc91, hf⟩ := cb1_some hf
                      refine kcRV (q0 := 2) (ci := 5) (As := [.int x4, .int x5]) (rest := []) (st1 := [.int v91]) C (c_Sh_holds l D ct a_sheets0 a_sheets0_items f_sheets0_form f_sheets0_size x4 x5 v91 hc91) ⟨rfl, rfl⟩ yn_yX5_holds tw_857 tw_858 tw_856 ⟨Nat.le_of_ble_eq_true rfl, Nat.le_of_ble_eq_true rfl⟩ ⟨Nat.zero_le _, Nat.zero_le _⟩ hP [2] rfl rfl rfl rfl hl.1 rfl rfl (Nat.le_of_ble_eq_true rfl) dX10_copy_91 rfl ?_
                      refine lv_if_ne (tgt := 103) hx hb dX10_copy_94 (by decide) (fun hc => ?_) (fun hc => ?_)
                      · have hf := kneg hc hf
                        refine lv_aload hx hb dX10_copy_103 (lv_at hl 0 rfl) ?_
                        refine lv_aload hx hb dX10_copy_105 (lv_at hl 1 rfl) ?_
                        refine lv_iload_n hx hb dX10_copy_107 rfl (lv_at hl 4 rfl) ?_
                        refine lv_iload hx hb dX10_copy_108 (lv_at hl 6 rfl) ?_
                        refine lv_iload hx hb dX10_copy_110 (lv_at hl 7 rfl) ?_
                        obtain ⟨f_sheets0_items_112, hc112, hf⟩ := cb1_some hf
                        refine kcMV (q0 := 2) (ci := 5) (As := [.ref a_sheets2, .int x2, .int x4, .int x5]) (rest := []) (st1 := []) (wf := (w_ND_copy ct a_this a_texts a_names a_pieces a_song a_fitting a_deal a_guesses a_wise a_spy a_sheets a_sheets0 a_sheets1 a_sheets2 a_sheets3 a_sheets0_items a_sheets1_items a_sheets2_items a_sheets3_items f_stale f_finding f_sheets0_form f_sheets0_size f_sheets0_items_112 f_sheets1_form f_sheets1_size f_sheets1_items f_sheets2_form f_sheets2_size f_sheets2_items f_sheets3_form f_sheets3_size f_sheets3_items)) C (c_Sh_take l D ct a_sheets0 a_sheets0_items a_sheets2 a_sheets2_items f_sheets0_form f_sheets2_form f_sheets0_size f_sheets2_size f_sheets2_items f_sheets0_items x2 x4 x5 f_sheets0_items_112 _ hc112) ⟨rfl, rfl⟩ yn_yX5_take tw_878 tw_879 tw_877 ⟨Nat.le_of_ble_eq_true rfl, Nat.le_of_ble_eq_true rfl⟩ ⟨Nat.zero_le _, Nat.zero_le _⟩ hP hD hS hA [2, 3, 6, 7] [0, 1, 4, 5, 8, 9] [0, 1, 6, 7, 2, 3, 8, 9, 4, 5] rfl rfl rfl rfl rfl (by decide) rfl rfl rfl rfl rfl rfl hl.1 rfl rfl (Nat.le_of_ble_eq_true rfl) dX10_copy_112 rfl (fun H locs hP hD hS => ?_)
                        refine lv_iconst (v := 1) hx hb dX10_copy_115 (by decide) ?_
                        obtain ⟨e1, e2, e3, e4, e5, e6⟩ := ti6 hf
                        subst e1; subst e2; subst e3; subst e4; subst e5; subst e6
                        exact kretM C hP hD hS dX10_copy_116
                      · have hf := kpos hc hf
                        exact t_ND_copy_b97v7 C hA a_this a_texts a_names a_pieces a_song a_fitting a_deal a_guesses a_wise a_spy a_sheets a_sheets0 a_sheets1 a_sheets2 a_sheets3 a_sheets0_items a_sheets1_items a_sheets2_items a_sheets3_items f_stale f_sheets0_form f_sheets0_size f_sheets1_form f_sheets1_size f_sheets2_form f_sheets2_size f_sheets3_form f_sheets3_size x1 x2 x3 x4 x5 r r_finding r_sheets0_items r_sheets1_items r_sheets2_items r_sheets3_items hs_1 hs_3 f_finding f_sheets0_items f_sheets1_items f_sheets2_items f_sheets3_items hf _ _ hP hD hS _ (lv_sub hl [2] rfl)
                  · have hf := kneg hc hf
                    refine lv_aload_n hx hb dX10_copy_68 rfl (lv_at hl 2 rfl) ?_
                    refine lv_iconst (v := 4) hx hb dX10_copy_69 (by decide) ?_
                    obtain ⟨v70, f_finding_70, hc70, hf⟩ := cb2_some hf
                    refine kcMV (q0 := 0) (ci := 10) (As := [.int 4]) (rest := []) (st1 := [.int v70]) (wf := (w_ND_copy ct a_this a_texts a_names a_pieces a_song a_fitting a_deal a_guesses a_wise a_spy a_sheets a_sheets0 a_sheets1 a_sheets2 a_sheets3 a_sheets0_items a_sheets1_items a_sheets2_items a_sheets3_items f_stale f_finding_70 f_sheets0_form f_sheets0_size f_sheets0_items f_sheets1_form f_sheets1_size f_sheets1_items f_sheets2_form f_sheets2_size f_sheets2_items f_sheets3_form f_sheets3_size f_sheets3_items)) C (c_ND_found l D ct a_this a_texts a_names a_pieces a_song a_fitting a_deal a_guesses a_wise a_spy a_sheets f_stale f_finding 4 v70 f_finding_70 _ hc70) ⟨rfl, rfl⟩ yn_yX10_found tw_558 tw_10 tw_556 ⟨Nat.le_of_ble_eq_true rfl, Nat.le_of_ble_eq_true rfl⟩ ⟨Nat.zero_le _, Nat.zero_le _⟩ hP hD hS hA [0] [1, 2, 3, 4, 5, 6, 7, 8, 9] [9, 0, 1, 2, 3, 4, 5, 6, 7, 8] rfl rfl rfl rfl rfl (by decide) rfl rfl rfl rfl rfl rfl hl.1 rfl rfl (Nat.le_of_ble_eq_true rfl) dX10_copy_70 rfl (fun H locs hP hD hS => ?_)
                    obtain ⟨e1, e2, e3, e4, e5, e6⟩ := ti6 hf
                    subst e1; subst e2; subst e3; subst e4; subst e5; subst e6
                    exact kretM C hP hD hS dX10_copy_73
                · have hf := kneg hc hf
                  exact t_ND_copy_b49v7 C hA a_this a_texts a_names a_pieces a_song a_fitting a_deal a_guesses a_wise a_spy a_sheets a_sheets0 a_sheets1 a_sheets2 a_sheets3 a_sheets0_items a_sheets1_items a_sheets2_items a_sheets3_items f_stale f_sheets0_form f_sheets0_size f_sheets1_form f_sheets1_size f_sheets2_form f_sheets2_size f_sheets3_form f_sheets3_size x1 x2 x3 x4 x5 r r_finding r_sheets0_items r_sheets1_items r_sheets2_items r_sheets3_items hs_1 hs_3 f_finding f_sheets0_items f_sheets1_items f_sheets2_items f_sheets3_items hf _ _ hP hD hS _ (lv_sub hl [2] rfl)
            · have hf := kneg hs_3 hf
              by_cases hs_3 : x3 = 1
              · have hf := kpos hs_3 hf
                refine kaald hx hb hK hP 1 4 rfl rfl (k := 1) (by rw [hs_3]; rfl) rfl (by decide) dX10_copy_30 ?_
                refine lv_astore (lv' := [(7, .ref a_sheets1), (6, .ref a_sheets2), (0, .ref a_this), (1, .int x1), (2, .int x2), (3, .int x3), (4, .int x4), (5, .int x5)]) hx hb dX10_copy_31 hl (by decide) rfl (fun ls hl => ?_)
                refine lv_aload hx hb dX10_copy_33 (lv_at hl 1 rfl) ?_
                obtain ⟨v35, hc35, hf⟩ := cb1_some hf
                refine kcRV (q0 := 6) (ci := 5) (As := []) (rest := []) (st1 := [.int v35]) C (c_Sh_isLost l D ct a_sheets2 a_sheets2_items f_sheets2_form f_sheets2_size v35 hc35) ⟨rfl, rfl⟩ yn_yX5_isLost tw_553 tw_554 tw_552 ⟨Nat.le_of_ble_eq_true rfl, Nat.le_of_ble_eq_true rfl⟩ ⟨Nat.zero_le _, Nat.zero_le _⟩ hP [6] rfl rfl rfl rfl hl.1 rfl rfl (Nat.le_of_ble_eq_true rfl) dX10_copy_35 rfl ?_
                refine lv_if_ne (tgt := 49) hx hb dX10_copy_38 (by decide) (fun hc => ?_) (fun hc => ?_)
                · have hf := kneg hc hf
                  exact t_ND_copy_b49v6 C hA a_this a_texts a_names a_pieces a_song a_fitting a_deal a_guesses a_wise a_spy a_sheets a_sheets0 a_sheets1 a_sheets2 a_sheets3 a_sheets0_items a_sheets1_items a_sheets2_items a_sheets3_items f_stale f_sheets0_form f_sheets0_size f_sheets1_form f_sheets1_size f_sheets2_form f_sheets2_size f_sheets3_form f_sheets3_size x1 x2 x3 x4 x5 r r_finding r_sheets0_items r_sheets1_items r_sheets2_items r_sheets3_items hs_1 hs_3 f_finding f_sheets0_items f_sheets1_items f_sheets2_items f_sheets3_items hf _ _ hP hD hS _ (lv_sub hl [2] rfl)
                · have hf := kpos hc hf
                  refine lv_aload hx hb dX10_copy_41 (lv_at hl 0 rfl) ?_
                  obtain ⟨v43, hc43, hf⟩ := cb1_some hf
                  refine kcRV (q0 := 4) (ci := 5) (As := []) (rest := []) (st1 := [.int v43]) C (c_Sh_isLost l D ct a_sheets1 a_sheets1_items f_sheets1_form f_sheets1_size v43 hc43) ⟨rfl, rfl⟩ yn_yX5_isLost tw_553 tw_554 tw_552 ⟨Nat.le_of_ble_eq_true rfl, Nat.le_of_ble_eq_true rfl⟩ ⟨Nat.zero_le _, Nat.zero_le _⟩ hP [4] rfl rfl rfl rfl hl.1 rfl rfl (Nat.le_of_ble_eq_true rfl) dX10_copy_43 rfl ?_
                  refine lv_if_eq (tgt := 55) hx hb dX10_copy_46 (by decide) (fun hc => ?_) (fun hc => ?_)
                  · have hf := kpos hc hf
                    refine lv_aload hx hb dX10_copy_55 (lv_at hl 1 rfl) ?_
                    obtain ⟨v57, hc57, hf⟩ := cb1_some hf
                    refine kcRV (q0 := 6) (ci := 5) (As := []) (rest := []) (st1 := [.int v57]) C (c_Sh_form l D ct a_sheets2 a_sheets2_items f_sheets2_size f_sheets2_form v57 hc57) ⟨rfl, rfl⟩ yn_yX5_form tw_853 tw_854 tw_852 ⟨Nat.le_of_ble_eq_true rfl, Nat.le_of_ble_eq_true rfl⟩ ⟨Nat.zero_le _, Nat.zero_le _⟩ hP [6] rfl rfl rfl rfl hl.1 rfl rfl (Nat.le_of_ble_eq_true rfl) dX10_copy_57 rfl ?_
                    refine lv_aload hx hb dX10_copy_60 (lv_at hl 0 rfl) ?_
                    obtain ⟨v62, hc62, hf⟩ := cb1_some hf
                    refine kcRV (q0 := 4) (ci := 5) (As := []) (rest := [.int v57]) (st1 := [.int v62, .int v57]) C (c_Sh_form l D ct a_sheets1 a_sheets1_items f_sheets1_size f_sheets1_form v62 hc62) ⟨rfl, rfl⟩ yn_yX5_form tw_853 tw_854 tw_852 ⟨Nat.le_of_ble_eq_true rfl, Nat.le_of_ble_eq_true rfl⟩ ⟨Nat.zero_le _, Nat.zero_le _⟩ hP [4] rfl rfl rfl rfl hl.1 rfl rfl (Nat.le_of_ble_eq_true rfl) dX10_copy_62 rfl ?_
                    refine lv_icmp_eq (tgt := 74) hx hb dX10_copy_65 (by decide) (fun hc => ?_) (fun hc => ?_)
                    · have hf := kpos hc hf
                      refine lv_aload hx hb dX10_copy_74 (lv_at hl 1 rfl) ?_
                      refine lv_iload_n hx hb dX10_copy_76 rfl (lv_at hl 4 rfl) ?_
                      refine lv_iload hx hb dX10_copy_77 (lv_at hl 7 rfl) ?_
                      obtain ⟨v79, hc79, hf⟩ := cb1_some hf
                      refine kcRV (q0 := 6) (ci := 5) (As := [.int x2, .int x5]) (rest := []) (st1 := [.int v79]) C (c_Sh_holds l D ct a_sheets2 a_sheets2_items f_sheets2_form f_sheets2_size x2 x5 v79 hc79) ⟨rfl, rfl⟩ yn_yX5_holds tw_857 tw_858 tw_856 ⟨Nat.le_of_ble_eq_true rfl, Nat.le_of_ble_eq_true rfl⟩ ⟨Nat.zero_le _, Nat.zero_le _⟩ hP [6] rfl rfl rfl rfl hl.1 rfl rfl (Nat.le_of_ble_eq_true rfl) dX10_copy_79 rfl ?_
                      refine lv_if_eq (tgt := 97) hx hb dX10_copy_82 (by decide) (fun hc => ?_) (fun hc => ?_)
                      · have hf := kpos hc hf
                        exact t_ND_copy_b97v6 C hA a_this a_texts a_names a_pieces a_song a_fitting a_deal a_guesses a_wise a_spy a_sheets a_sheets0 a_sheets1 a_sheets2 a_sheets3 a_sheets0_items a_sheets1_items a_sheets2_items a_sheets3_items f_stale f_sheets0_form f_sheets0_size f_sheets1_form f_sheets1_size f_sheets2_form f_sheets2_size f_sheets3_form f_sheets3_size x1 x2 x3 x4 x5 r r_finding r_sheets0_items r_sheets1_items r_sheets2_items r_sheets3_items hs_1 hs_3 f_finding f_sheets0_items f_sheets1_items f_sheets2_items f_sheets3_items hf _ _ hP hD hS _ (lv_sub hl [2] rfl)
                      · have hf := kneg hc hf
                        refine lv_aload hx hb dX10_copy_85 (lv_at hl 0 rfl) ?_
                        refine lv_iload hx hb dX10_copy_87 (lv_at hl 6 rfl) ?_
                        refine lv_iload hx hb dX10_copy_89 (lv_at hl 7 rfl) ?_
                        obtain ⟨v91, hc91, hf⟩ := cb1_some hf
                        refine kcRV (q0 := 4) (ci := 5) (As := [.int x4, .int x5]) (rest := []) (st1 := [.int v91]) C (c_Sh_holds l D ct a_sheets1 a_sheets1_items f_sheets1_form f_sheets1_size x4 x5 v91 hc91) ⟨rfl, rfl⟩ yn_yX5_holds tw_857 tw_858 tw_856 ⟨Nat.le_of_ble_eq_true rfl, Nat.le_of_ble_eq_true rfl⟩ ⟨Nat.zero_le _, Nat.zero_le _⟩ hP [4] rfl rfl rfl rfl hl.1 rfl rfl (Nat.le_of_ble_eq_true rfl) dX10_copy_91 rfl ?_
                        refine lv_if_ne (tgt := 103) hx hb dX10_copy_94 (by decide) (fun hc => ?_) (fun hc => ?_)
                        · have hf := kneg hc hf
                          refine lv_aload hx hb dX10_copy_103 (lv_at hl 0 rfl) ?_
                          refine lv_aload hx hb dX10_copy_105 (lv_at hl 1 rfl) ?_
                          refine lv_iload_n hx hb dX10_copy_107 rfl (lv_at hl 4 rfl) ?_
                          refine lv_iload hx hb dX10_copy_108 (lv_at hl 6 rfl) ?_
                          refine lv_iload hx hb dX10_copy_110 (lv_at hl 7 rfl) ?_
                          obtain ⟨f_sheets1_items_112, hc112, hf⟩ := cb1_some hf
                          refine kcMV (q0 := 4) (ci := 5) (As := [.ref a_sheets2, .int x2, .int x4, .int x5]) (rest := []) (st1 := []) (wf := (w_ND_copy ct a_this a_texts a_names a_pieces a_song a_fitting a_deal a_guesses a_wise a_spy a_sheets a_sheets0 a_sheets1 a_sheets2 a_sheets3 a_sheets0_items a_sheets1_items a_sheets2_items a_sheets3_items f_stale f_finding f_sheets0_form f_sheets0_size f_sheets0_items f_sheets1_form f_sheets1_size f_sheets1_items_112 f_sheets2_form f_sheets2_size f_sheets2_items f_sheets3_form f_sheets3_size f_sheets3_items)) C (c_Sh_take l D ct a_sheets1 a_sheets1_items a_sheets2 a_sheets2_items f_sheets1_form f_sheets2_form f_sheets1_size f_sheets2_size f_sheets2_items f_sheets1_items x2 x4 x5 f_sheets1_items_112 _ hc112) ⟨rfl, rfl⟩ yn_yX5_take tw_878 tw_879 tw_877 ⟨Nat.le_of_ble_eq_true rfl, Nat.le_of_ble_eq_true rfl⟩ ⟨Nat.zero_le _, Nat.zero_le _⟩ hP hD hS hA [4, 5, 6, 7] [0, 1, 2, 3, 8, 9] [0, 1, 2, 3, 6, 7, 8, 9, 4, 5] rfl rfl rfl rfl rfl (by decide) rfl rfl rfl rfl rfl rfl hl.1 rfl rfl (Nat.le_of_ble_eq_true rfl) dX10_copy_112 rfl (fun H locs hP hD hS => ?_)
                          refine lv_iconst (v := 1) hx hb dX10_copy_115 (by decide) ?_
                          obtain ⟨e1, e2, e3, e4, e5, e6⟩ := ti6 hf
                          subst e1; subst e2; subst e3; subst e4; subst e5; subst e6
                          exact kretM C hP hD hS dX10_copy_116
                        · have hf := kpos hc hf
                          exact t_ND_copy_b97v6 C hA a_this a_texts a_names a_pieces a_song a_fitting a_deal a_guesses a_wise a_spy a_sheets a_sheets0 a_sheets1 a_sheets2 a_sheets3 a_sheets0_items a_sheets1_items a_sheets2_items a_sheets3_items f_stale f_sheets0_form f_sheets0_size f_sheets1_form f_sheets1_size f_sheets2_form f_sheets2_size f_sheets3_form f_sheets3_size x1 x2 x3 x4 x5 r r_finding r_sheets0_items r_sheets1_items r_sheets2_items r_sheets3_items hs_1 hs_3 f_finding f_sheets0_items f_sheets1_items f_sheets2_items f_sheets3_items hf _ _ hP hD hS _ (lv_sub hl [2] rfl)
                    · have hf := kneg hc hf
                      refine lv_aload_n hx hb dX10_copy_68 rfl (lv_at hl 2 rfl) ?_
                      refine lv_iconst (v := 4) hx hb dX10_copy_69 (by decide) ?_
                      obtain ⟨v70, f_finding_70, hc70, hf⟩ := cb2_some hf
                      refine kcMV (q0 := 0) (ci := 10) (As := [.int 4]) (rest := []) (st1 := [.int v70]) (wf := (w_ND_copy ct a_this a_texts a_names a_pieces a_song a_fitting a_deal a_guesses a_wise a_spy a_sheets a_sheets0 a_sheets1 a_sheets2 a_sheets3 a_sheets0_items a_sheets1_items a_sheets2_items a_sheets3_items f_stale f_finding_70 f_sheets0_form f_sheets0_size f_sheets0_items f_sheets1_form f_sheets1_size f_sheets1_items f_sheets2_form f_sheets2_size f_sheets2_items f_sheets3_form f_sheets3_size f_sheets3_items)) C (c_ND_found l D ct a_this a_texts a_names a_pieces a_song a_fitting a_deal a_guesses a_wise a_spy a_sheets f_stale f_finding 4 v70 f_finding_70 _ hc70) ⟨rfl, rfl⟩ yn_yX10_found tw_558 tw_10 tw_556 ⟨Nat.le_of_ble_eq_true rfl, Nat.le_of_ble_eq_true rfl⟩ ⟨Nat.zero_le _, Nat.zero_le _⟩ hP hD hS hA [0] [1, 2, 3, 4, 5, 6, 7, 8, 9] [9, 0, 1, 2, 3, 4, 5, 6, 7, 8] rfl rfl rfl rfl rfl (by decide) rfl rfl rfl rfl rfl rfl hl.1 rfl rfl (Nat.le_of_ble_eq_true rfl) dX10_copy_70 rfl (fun H locs hP hD hS => ?_)
                      obtain ⟨e1, e2, e3, e4, e5, e6⟩ := ti6 hf
                      subst e1; subst e2; subst e3; subst e4; subst e5; subst e6
                      exact kretM C hP hD hS dX10_copy_73
                  · have hf := kneg hc hf
                    exact t_ND_copy_b49v6 C hA a_this a_texts a_names a_pieces a_song a_fitting a_deal a_guesses a_wise a_spy a_sheets a_sheets0 a_sheets1 a_sheets2 a_sheets3 a_sheets0_items a_sheets1_items a_sheets2_items a_sheets3_items f_stale f_sheets0_form f_sheets0_size f_sheets1_form f_sheets1_size f_sheets2_form f_sheets2_size f_sheets3_form f_sheets3_size x1 x2 x3 x4 x5 r r_finding r_sheets0_items r_sheets1_items r_sheets2_items r_sheets3_items hs_1 hs_3 f_finding f_sheets0_items f_sheets1_items f_sheets2_items f_sheets3_items hf _ _ hP hD hS _ (lv_sub hl [2] rfl)
              · have hf := kneg hs_3 hf
                by_cases hs_3 : x3 = 2
                · have hf := kpos hs_3 hf
                  refine kaald hx hb hK hP 1 4 rfl rfl (k := 2) (by rw [hs_3]; rfl) rfl (by decide) dX10_copy_30 ?_
                  refine lv_astore (lv' := [(7, .ref a_sheets2), (6, .ref a_sheets2), (0, .ref a_this), (1, .int x1), (2, .int x2), (3, .int x3), (4, .int x4), (5, .int x5)]) hx hb dX10_copy_31 hl (by decide) rfl (fun ls hl => ?_)
                  refine lv_aload hx hb dX10_copy_33 (lv_at hl 1 rfl) ?_
                  obtain ⟨v35, hc35, hf⟩ := cb1_some hf
                  refine kcRV (q0 := 6) (ci := 5) (As := []) (rest := []) (st1 := [.int v35]) C (c_Sh_isLost l D ct a_sheets2 a_sheets2_items f_sheets2_form f_sheets2_size v35 hc35) ⟨rfl, rfl⟩ yn_yX5_isLost tw_553 tw_554 tw_552 ⟨Nat.le_of_ble_eq_true rfl, Nat.le_of_ble_eq_true rfl⟩ ⟨Nat.zero_le _, Nat.zero_le _⟩ hP [6] rfl rfl rfl rfl hl.1 rfl rfl (Nat.le_of_ble_eq_true rfl) dX10_copy_35 rfl ?_
                  refine lv_if_ne (tgt := 49) hx hb dX10_copy_38 (by decide) (fun hc => ?_) (fun hc => ?_)
                  · have hf := kneg hc hf
                    exact t_ND_copy_b49v5 C hA a_this a_texts a_names a_pieces a_song a_fitting a_deal a_guesses a_wise a_spy a_sheets a_sheets0 a_sheets1 a_sheets2 a_sheets3 a_sheets0_items a_sheets1_items a_sheets2_items a_sheets3_items f_stale f_sheets0_form f_sheets0_size f_sheets1_form f_sheets1_size f_sheets2_form f_sheets2_size f_sheets3_form f_sheets3_size x1 x2 x3 x4 x5 r r_finding r_sheets0_items r_sheets1_items r_sheets2_items r_sheets3_items hs_1 hs_3 f_finding f_sheets0_items f_sheets1_items f_sheets2_items f_sheets3_items hf _ _ hP hD hS _ (lv_sub hl [2] rfl)
                  · have hf := kpos hc hf
                    refine lv_aload hx hb dX10_copy_41 (lv_at hl 0 rfl) ?_
                    obtain ⟨v43, hc43, hf⟩ := cb1_some hf
                    refine kcRV (q0 := 6) (ci := 5) (As := []) (rest := []) (st1 := [.int v43]) C (c_Sh_isLost l D ct a_sheets2 a_sheets2_items f_sheets2_form f_sheets2_size v43 hc43) ⟨rfl, rfl⟩ yn_yX5_isLost tw_553 tw_554 tw_552 ⟨Nat.le_of_ble_eq_true rfl, Nat.le_of_ble_eq_true rfl⟩ ⟨Nat.zero_le _, Nat.zero_le _⟩ hP [6] rfl rfl rfl rfl hl.1 rfl rfl (Nat.le_of_ble_eq_true rfl) dX10_copy_43 rfl ?_
                    refine lv_if_eq (tgt := 55) hx hb dX10_copy_46 (by decide) (fun hc => ?_) (fun hc => ?_)
                    · have hf := kpos hc hf
                      refine lv_aload hx hb dX10_copy_55 (lv_at hl 1 rfl) ?_
                      obtain ⟨v57, hc57, hf⟩ := cb1_some hf
                      refine kcRV (q0 := 6) (ci := 5) (As := []) (rest := []) (st1 := [.int v57]) C (c_Sh_form l D ct a_sheets2 a_sheets2_items f_sheets2_size f_sheets2_form v57 hc57) ⟨rfl, rfl⟩ yn_yX5_form tw_853 tw_854 tw_852 ⟨Nat.le_of_ble_eq_true rfl, Nat.le_of_ble_eq_true rfl⟩ ⟨Nat.zero_le _, Nat.zero_le _⟩ hP [6] rfl rfl rfl rfl hl.1 rfl rfl (Nat.le_of_ble_eq_true rfl) dX10_copy_57 rfl ?_
                      refine lv_aload hx hb dX10_copy_60 (lv_at hl 0 rfl) ?_
                      obtain ⟨v62, hc62, hf⟩ := cb1_some hf
                      refine kcRV (q0 := 6) (ci := 5) (As := []) (rest := [.int v57]) (st1 := [.int v62, .int v57]) C (c_Sh_form l D ct a_sheets2 a_sheets2_items f_sheets2_size f_sheets2_form v62 hc62) ⟨rfl, rfl⟩ yn_yX5_form tw_853 tw_854 tw_852 ⟨Nat.le_of_ble_eq_true rfl, Nat.le_of_ble_eq_true rfl⟩ ⟨Nat.zero_le _, Nat.zero_le _⟩ hP [6] rfl rfl rfl rfl hl.1 rfl rfl (Nat.le_of_ble_eq_true rfl) dX10_copy_62 rfl ?_
                      refine lv_icmp_eq (tgt := 74) hx hb dX10_copy_65 (by decide) (fun hc => ?_) (fun hc => ?_)
                      · have hf := kpos hc hf
                        refine lv_aload hx hb dX10_copy_74 (lv_at hl 1 rfl) ?_
                        refine lv_iload_n hx hb dX10_copy_76 rfl (lv_at hl 4 rfl) ?_
                        refine lv_iload hx hb dX10_copy_77 (lv_at hl 7 rfl) ?_
                        obtain ⟨v79, hc79, hf⟩ := cb1_some hf
                        refine kcRV (q0 := 6) (ci := 5) (As := [.int x2, .int x5]) (rest := []) (st1 := [.int v79]) C (c_Sh_holds l D ct a_sheets2 a_sheets2_items f_sheets2_form f_sheets2_size x2 x5 v79 hc79) ⟨rfl, rfl⟩ yn_yX5_holds tw_857 tw_858 tw_856 ⟨Nat.le_of_ble_eq_true rfl, Nat.le_of_ble_eq_true rfl⟩ ⟨Nat.zero_le _, Nat.zero_le _⟩ hP [6] rfl rfl rfl rfl hl.1 rfl rfl (Nat.le_of_ble_eq_true rfl) dX10_copy_79 rfl ?_
                        refine lv_if_eq (tgt := 97) hx hb dX10_copy_82 (by decide) (fun hc => ?_) (fun hc => ?_)
                        · have hf := kpos hc hf
                          exact t_ND_copy_b97v5 C hA a_this a_texts a_names a_pieces a_song a_fitting a_deal a_guesses a_wise a_spy a_sheets a_sheets0 a_sheets1 a_sheets2 a_sheets3 a_sheets0_items a_sheets1_items a_sheets2_items a_sheets3_items f_stale f_sheets0_form f_sheets0_size f_sheets1_form f_sheets1_size f_sheets2_form f_sheets2_size f_sheets3_form f_sheets3_size x1 x2 x3 x4 x5 r r_finding r_sheets0_items r_sheets1_items r_sheets2_items r_sheets3_items hs_1 hs_3 f_finding f_sheets0_items f_sheets1_items f_sheets2_items f_sheets3_items hf _ _ hP hD hS _ (lv_sub hl [2] rfl)
                        · have hf := kneg hc hf
                          refine lv_aload hx hb dX10_copy_85 (lv_at hl 0 rfl) ?_
                          refine lv_iload hx hb dX10_copy_87 (lv_at hl 6 rfl) ?_
                          refine lv_iload hx hb dX10_copy_89 (lv_at hl 7 rfl) ?_
                          obtain ⟨v91, hc91, hf⟩ := cb1_some hf
                          refine kcRV (q0 := 6) (ci := 5) (As := [.int x4, .int x5]) (rest := []) (st1 := [.int v91]) C (c_Sh_holds l D ct a_sheets2 a_sheets2_items f_sheets2_form f_sheets2_size x4 x5 v91 hc91) ⟨rfl, rfl⟩ yn_yX5_holds tw_857 tw_858 tw_856 ⟨Nat.le_of_ble_eq_true rfl, Nat.le_of_ble_eq_true rfl⟩ ⟨Nat.zero_le _, Nat.zero_le _⟩ hP [6] rfl rfl rfl rfl hl.1 rfl rfl (Nat.le_of_ble_eq_true rfl) dX10_copy_91 rfl ?_
                          refine lv_if_ne (tgt := 103) hx hb dX10_copy_94 (by decide) (fun hc => ?_) (fun hc => ?_)
                          · have hf := kneg hc hf
                            refine lv_aload hx hb dX10_copy_103 (lv_at hl 0 rfl) ?_
                            refine lv_aload hx hb dX10_copy_105 (lv_at hl 1 rfl) ?_
                            refine lv_iload_n hx hb dX10_copy_107 rfl (lv_at hl 4 rfl) ?_
                            refine lv_iload hx hb dX10_copy_108 (lv_at hl 6 rfl) ?_
                            refine lv_iload hx hb dX10_copy_110 (lv_at hl 7 rfl) ?_
                            obtain ⟨f_sheets2_items_112, hc112, hf⟩ := cb1_some hf
                            refine kcMV (q0 := 6) (ci := 5) (As := [.ref a_sheets2, .int x2, .int x4, .int x5]) (rest := []) (st1 := []) (wf := (w_ND_copy ct a_this a_texts a_names a_pieces a_song a_fitting a_deal a_guesses a_wise a_spy a_sheets a_sheets0 a_sheets1 a_sheets2 a_sheets3 a_sheets0_items a_sheets1_items a_sheets2_items a_sheets3_items f_stale f_finding f_sheets0_form f_sheets0_size f_sheets0_items f_sheets1_form f_sheets1_size f_sheets1_items f_sheets2_form f_sheets2_size f_sheets2_items_112 f_sheets3_form f_sheets3_size f_sheets3_items)) C (c_Sh_take_same l D ct a_sheets2 a_sheets2_items f_sheets2_form f_sheets2_size f_sheets2_items x2 x4 x5 f_sheets2_items_112 _ hc112) ⟨rfl, rfl⟩ yn_yX5_take tw_878 tw_879 tw_877 ⟨Nat.le_of_ble_eq_true rfl, Nat.le_of_ble_eq_true rfl⟩ ⟨Nat.zero_le _, Nat.zero_le _⟩ hP hD hS hA [6, 7] [0, 1, 2, 3, 4, 5, 8, 9] [0, 1, 2, 3, 4, 5, 8, 9, 6, 7] rfl rfl rfl rfl rfl (by decide) rfl rfl rfl rfl rfl rfl hl.1 rfl rfl (Nat.le_of_ble_eq_true rfl) dX10_copy_112 rfl (fun H locs hP hD hS => ?_)
                            refine lv_iconst (v := 1) hx hb dX10_copy_115 (by decide) ?_
                            obtain ⟨e1, e2, e3, e4, e5, e6⟩ := ti6 hf
                            subst e1; subst e2; subst e3; subst e4; subst e5; subst e6
                            exact kretM C hP hD hS dX10_copy_116
                          · have hf := kpos hc hf
                            exact t_ND_copy_b97v5 C hA a_this a_texts a_names a_pieces a_song a_fitting a_deal a_guesses a_wise a_spy a_sheets a_sheets0 a_sheets1 a_sheets2 a_sheets3 a_sheets0_items a_sheets1_items a_sheets2_items a_sheets3_items f_stale f_sheets0_form f_sheets0_size f_sheets1_form f_sheets1_size f_sheets2_form f_sheets2_size f_sheets3_form f_sheets3_size x1 x2 x3 x4 x5 r r_finding r_sheets0_items r_sheets1_items r_sheets2_items r_sheets3_items hs_1 hs_3 f_finding f_sheets0_items f_sheets1_items f_sheets2_items f_sheets3_items hf _ _ hP hD hS _ (lv_sub hl [2] rfl)
                      · have hf := kneg hc hf
                        refine lv_aload_n hx hb dX10_copy_68 rfl (lv_at hl 2 rfl) ?_
                        refine lv_iconst (v := 4) hx hb dX10_copy_69 (by decide) ?_
                        obtain ⟨v70, f_finding_70, hc70, hf⟩ := cb2_some hf
                        refine kcMV (q0 := 0) (ci := 10) (As := [.int 4]) (rest := []) (st1 := [.int v70]) (wf := (w_ND_copy ct a_this a_texts a_names a_pieces a_song a_fitting a_deal a_guesses a_wise a_spy a_sheets a_sheets0 a_sheets1 a_sheets2 a_sheets3 a_sheets0_items a_sheets1_items a_sheets2_items a_sheets3_items f_stale f_finding_70 f_sheets0_form f_sheets0_size f_sheets0_items f_sheets1_form f_sheets1_size f_sheets1_items f_sheets2_form f_sheets2_size f_sheets2_items f_sheets3_form f_sheets3_size f_sheets3_items)) C (c_ND_found l D ct a_this a_texts a_names a_pieces a_song a_fitting a_deal a_guesses a_wise a_spy a_sheets f_stale f_finding 4 v70 f_finding_70 _ hc70) ⟨rfl, rfl⟩ yn_yX10_found tw_558 tw_10 tw_556 ⟨Nat.le_of_ble_eq_true rfl, Nat.le_of_ble_eq_true rfl⟩ ⟨Nat.zero_le _, Nat.zero_le _⟩ hP hD hS hA [0] [1, 2, 3, 4, 5, 6, 7, 8, 9] [9, 0, 1, 2, 3, 4, 5, 6, 7, 8] rfl rfl rfl rfl rfl (by decide) rfl rfl rfl rfl rfl rfl hl.1 rfl rfl (Nat.le_of_ble_eq_true rfl) dX10_copy_70 rfl (fun H locs hP hD hS => ?_)
                        obtain ⟨e1, e2, e3, e4, e5, e6⟩ := ti6 hf
                        subst e1; subst e2; subst e3; subst e4; subst e5; subst e6
                        exact kretM C hP hD hS dX10_copy_73
                    · have hf := kneg hc hf
                      exact t_ND_copy_b49v5 C hA a_this a_texts a_names a_pieces a_song a_fitting a_deal a_guesses a_wise a_spy a_sheets a_sheets0 a_sheets1 a_sheets2 a_sheets3 a_sheets0_items a_sheets1_items a_sheets2_items a_sheets3_items f_stale f_sheets0_form f_sheets0_size f_sheets1_form f_sheets1_size f_sheets2_form f_sheets2_size f_sheets3_form f_sheets3_size x1 x2 x3 x4 x5 r r_finding r_sheets0_items r_sheets1_items r_sheets2_items r_sheets3_items hs_1 hs_3 f_finding f_sheets0_items f_sheets1_items f_sheets2_items f_sheets3_items hf _ _ hP hD hS _ (lv_sub hl [2] rfl)
                · have hf := kneg hs_3 hf
                  by_cases hs_3 : x3 = 3
                  · have hf := kpos hs_3 hf
                    refine kaald hx hb hK hP 1 4 rfl rfl (k := 3) (by rw [hs_3]; rfl) rfl (by decide) dX10_copy_30 ?_
                    refine lv_astore (lv' := [(7, .ref a_sheets3), (6, .ref a_sheets2), (0, .ref a_this), (1, .int x1), (2, .int x2), (3, .int x3), (4, .int x4), (5, .int x5)]) hx hb dX10_copy_31 hl (by decide) rfl (fun ls hl => ?_)
                    refine lv_aload hx hb dX10_copy_33 (lv_at hl 1 rfl) ?_
                    obtain ⟨v35, hc35, hf⟩ := cb1_some hf
                    refine kcRV (q0 := 6) (ci := 5) (As := []) (rest := []) (st1 := [.int v35]) C (c_Sh_isLost l D ct a_sheets2 a_sheets2_items f_sheets2_form f_sheets2_size v35 hc35) ⟨rfl, rfl⟩ yn_yX5_isLost tw_553 tw_554 tw_552 ⟨Nat.le_of_ble_eq_true rfl, Nat.le_of_ble_eq_true rfl⟩ ⟨Nat.zero_le _, Nat.zero_le _⟩ hP [6] rfl rfl rfl rfl hl.1 rfl rfl (Nat.le_of_ble_eq_true rfl) dX10_copy_35 rfl ?_
                    refine lv_if_ne (tgt := 49) hx hb dX10_copy_38 (by decide) (fun hc => ?_) (fun hc => ?_)
                    · have hf := kneg hc hf
                      exact t_ND_copy_b49v4 C hA a_this a_texts a_names a_pieces a_song a_fitting a_deal a_guesses a_wise a_spy a_sheets a_sheets0 a_sheets1 a_sheets2 a_sheets3 a_sheets0_items a_sheets1_items a_sheets2_items a_sheets3_items f_stale f_sheets0_form f_sheets0_size f_sheets1_form f_sheets1_size f_sheets2_form f_sheets2_size f_sheets3_form f_sheets3_size x1 x2 x3 x4 x5 r r_finding r_sheets0_items r_sheets1_items r_sheets2_items r_sheets3_items hs_1 hs_3 f_finding f_sheets0_items f_sheets1_items f_sheets2_items f_sheets3_items hf _ _ hP hD hS _ (lv_sub hl [2] rfl)
                    · have hf := kpos hc hf
                      refine lv_aload hx hb dX10_copy_41 (lv_at hl 0 rfl) ?_
                      obtain ⟨v43, hc43, hf⟩ := cb1_some hf
                      refine kcRV (q0 := 8) (ci := 5) (As := []) (rest := []) (st1 := [.int v43]) C (c_Sh_isLost l D ct a_sheets3 a_sheets3_items f_sheets3_form f_sheets3_size v43 hc43) ⟨rfl, rfl⟩ yn_yX5_isLost tw_553 tw_554 tw_552 ⟨Nat.le_of_ble_eq_true rfl, Nat.le_of_ble_eq_true rfl⟩ ⟨Nat.zero_le _, Nat.zero_le _⟩ hP [8] rfl rfl rfl rfl hl.1 rfl rfl (Nat.le_of_ble_eq_true rfl) dX10_copy_43 rfl ?_
                      refine lv_if_eq (tgt := 55) hx hb dX10_copy_46 (by decide) (fun hc => ?_) (fun hc => ?_)
                      · have hf := kpos hc hf
                        refine lv_aload hx hb dX10_copy_55 (lv_at hl 1 rfl) ?_
                        obtain ⟨v57, hc57, hf⟩ := cb1_some hf
                        refine kcRV (q0 := 6) (ci := 5) (As := []) (rest := []) (st1 := [.int v57]) C (c_Sh_form l D ct a_sheets2 a_sheets2_items f_sheets2_size f_sheets2_form v57 hc57) ⟨rfl, rfl⟩ yn_yX5_form tw_853 tw_854 tw_852 ⟨Nat.le_of_ble_eq_true rfl, Nat.le_of_ble_eq_true rfl⟩ ⟨Nat.zero_le _, Nat.zero_le _⟩ hP [6] rfl rfl rfl rfl hl.1 rfl rfl (Nat.le_of_ble_eq_true rfl) dX10_copy_57 rfl ?_
                        refine lv_aload hx hb dX10_copy_60 (lv_at hl 0 rfl) ?_
                        obtain ⟨v62, hc62, hf⟩ := cb1_some hf
                        refine kcRV (q0 := 8) (ci := 5) (As := []) (rest := [.int v57]) (st1 := [.int v62, .int v57]) C (c_Sh_form l D ct a_sheets3 a_sheets3_items f_sheets3_size f_sheets3_form v62 hc62) ⟨rfl, rfl⟩ yn_yX5_form tw_853 tw_854 tw_852 ⟨Nat.le_of_ble_eq_true rfl, Nat.le_of_ble_eq_true rfl⟩ ⟨Nat.zero_le _, Nat.zero_le _⟩ hP [8] rfl rfl rfl rfl hl.1 rfl rfl (Nat.le_of_ble_eq_true rfl) dX10_copy_62 rfl ?_
                        refine lv_icmp_eq (tgt := 74) hx hb dX10_copy_65 (by decide) (fun hc => ?_) (fun hc => ?_)
                        · have hf := kpos hc hf
                          refine lv_aload hx hb dX10_copy_74 (lv_at hl 1 rfl) ?_
                          refine lv_iload_n hx hb dX10_copy_76 rfl (lv_at hl 4 rfl) ?_
                          refine lv_iload hx hb dX10_copy_77 (lv_at hl 7 rfl) ?_
                          obtain ⟨v79, hc79, hf⟩ := cb1_some hf
                          refine kcRV (q0 := 6) (ci := 5) (As := [.int x2, .int x5]) (rest := []) (st1 := [.int v79]) C (c_Sh_holds l D ct a_sheets2 a_sheets2_items f_sheets2_form f_sheets2_size x2 x5 v79 hc79) ⟨rfl, rfl⟩ yn_yX5_holds tw_857 tw_858 tw_856 ⟨Nat.le_of_ble_eq_true rfl, Nat.le_of_ble_eq_true rfl⟩ ⟨Nat.zero_le _, Nat.zero_le _⟩ hP [6] rfl rfl rfl rfl hl.1 rfl rfl (Nat.le_of_ble_eq_true rfl) dX10_copy_79 rfl ?_
                          refine lv_if_eq (tgt := 97) hx hb dX10_copy_82 (by decide) (fun hc => ?_) (fun hc => ?_)
                          · have hf := kpos hc hf
                            exact t_ND_copy_b97v4 C hA a_this a_texts a_names a_pieces a_song a_fitting a_deal a_guesses a_wise a_spy a_sheets a_sheets0 a_sheets1 a_sheets2 a_sheets3 a_sheets0_items a_sheets1_items a_sheets2_items a_sheets3_items f_stale f_sheets0_form f_sheets0_size f_sheets1_form f_sheets1_size f_sheets2_form f_sheets2_size f_sheets3_form f_sheets3_size x1 x2 x3 x4 x5 r r_finding r_sheets0_items r_sheets1_items r_sheets2_items r_sheets3_items hs_1 hs_3 f_finding f_sheets0_items f_sheets1_items f_sheets2_items f_sheets3_items hf _ _ hP hD hS _ (lv_sub hl [2] rfl)
                          · have hf := kneg hc hf
                            refine lv_aload hx hb dX10_copy_85 (lv_at hl 0 rfl) ?_
                            refine lv_iload hx hb dX10_copy_87 (lv_at hl 6 rfl) ?_
                            refine lv_iload hx hb dX10_copy_89 (lv_at hl 7 rfl) ?_
                            obtain ⟨v91, hc91, hf⟩ := cb1_some hf
                            refine kcRV (q0 := 8) (ci := 5) (As := [.int x4, .int x5]) (rest := []) (st1 := [.int v91]) C (c_Sh_holds l D ct a_sheets3 a_sheets3_items f_sheets3_form f_sheets3_size x4 x5 v91 hc91) ⟨rfl, rfl⟩ yn_yX5_holds tw_857 tw_858 tw_856 ⟨Nat.le_of_ble_eq_true rfl, Nat.le_of_ble_eq_true rfl⟩ ⟨Nat.zero_le _, Nat.zero_le _⟩ hP [8] rfl rfl rfl rfl hl.1 rfl rfl (Nat.le_of_ble_eq_true rfl) dX10_copy_91 rfl ?_
                            refine lv_if_ne (tgt := 103) hx hb dX10_copy_94 (by decide) (fun hc => ?_) (fun hc => ?_)
                            · have hf := kneg hc hf
                              refine lv_aload hx hb dX10_copy_103 (lv_at hl 0 rfl) ?_
                              refine lv_aload hx hb dX10_copy_105 (lv_at hl 1 rfl) ?_
                              refine lv_iload_n hx hb dX10_copy_107 rfl (lv_at hl 4 rfl) ?_
                              refine lv_iload hx hb dX10_copy_108 (lv_at hl 6 rfl) ?_
                              refine lv_iload hx hb dX10_copy_110 (lv_at hl 7 rfl) ?_
                              obtain ⟨f_sheets3_items_112, hc112, hf⟩ := cb1_some hf
                              refine kcMV (q0 := 8) (ci := 5) (As := [.ref a_sheets2, .int x2, .int x4, .int x5]) (rest := []) (st1 := []) (wf := (w_ND_copy ct a_this a_texts a_names a_pieces a_song a_fitting a_deal a_guesses a_wise a_spy a_sheets a_sheets0 a_sheets1 a_sheets2 a_sheets3 a_sheets0_items a_sheets1_items a_sheets2_items a_sheets3_items f_stale f_finding f_sheets0_form f_sheets0_size f_sheets0_items f_sheets1_form f_sheets1_size f_sheets1_items f_sheets2_form f_sheets2_size f_sheets2_items f_sheets3_form f_sheets3_size f_sheets3_items_112)) C (c_Sh_take l D ct a_sheets3 a_sheets3_items a_sheets2 a_sheets2_items f_sheets3_form f_sheets2_form f_sheets3_size f_sheets2_size f_sheets2_items f_sheets3_items x2 x4 x5 f_sheets3_items_112 _ hc112) ⟨rfl, rfl⟩ yn_yX5_take tw_878 tw_879 tw_877 ⟨Nat.le_of_ble_eq_true rfl, Nat.le_of_ble_eq_true rfl⟩ ⟨Nat.zero_le _, Nat.zero_le _⟩ hP hD hS hA [8, 9, 6, 7] [0, 1, 2, 3, 4, 5] [0, 1, 2, 3, 4, 5, 8, 9, 6, 7] rfl rfl rfl rfl rfl (by decide) rfl rfl rfl rfl rfl rfl hl.1 rfl rfl (Nat.le_of_ble_eq_true rfl) dX10_copy_112 rfl (fun H locs hP hD hS => ?_)
                              refine lv_iconst (v := 1) hx hb dX10_copy_115 (by decide) ?_
                              obtain ⟨e1, e2, e3, e4, e5, e6⟩ := ti6 hf
                              subst e1; subst e2; subst e3; subst e4; subst e5; subst e6
                              exact kretM C hP hD hS dX10_copy_116
                            · have hf := kpos hc hf
                              exact t_ND_copy_b97v4 C hA a_this a_texts a_names a_pieces a_song a_fitting a_deal a_guesses a_wise a_spy a_sheets a_sheets0 a_sheets1 a_sheets2 a_sheets3 a_sheets0_items a_sheets1_items a_sheets2_items a_sheets3_items f_stale f_sheets0_form f_sheets0_size f_sheets1_form f_sheets1_size f_sheets2_form f_sheets2_size f_sheets3_form f_sheets3_size x1 x2 x3 x4 x5 r r_finding r_sheets0_items r_sheets1_items r_sheets2_items r_sheets3_items hs_1 hs_3 f_finding f_sheets0_items f_sheets1_items f_sheets2_items f_sheets3_items hf _ _ hP hD hS _ (lv_sub hl [2] rfl)
                        · have hf := kneg hc hf
                          refine lv_aload_n hx hb dX10_copy_68 rfl (lv_at hl 2 rfl) ?_
                          refine lv_iconst (v := 4) hx hb dX10_copy_69 (by decide) ?_
                          obtain ⟨v70, f_finding_70, hc70, hf⟩ := cb2_some hf
                          refine kcMV (q0 := 0) (ci := 10) (As := [.int 4]) (rest := []) (st1 := [.int v70]) (wf := (w_ND_copy ct a_this a_texts a_names a_pieces a_song a_fitting a_deal a_guesses a_wise a_spy a_sheets a_sheets0 a_sheets1 a_sheets2 a_sheets3 a_sheets0_items a_sheets1_items a_sheets2_items a_sheets3_items f_stale f_finding_70 f_sheets0_form f_sheets0_size f_sheets0_items f_sheets1_form f_sheets1_size f_sheets1_items f_sheets2_form f_sheets2_size f_sheets2_items f_sheets3_form f_sheets3_size f_sheets3_items)) C (c_ND_found l D ct a_this a_texts a_names a_pieces a_song a_fitting a_deal a_guesses a_wise a_spy a_sheets f_stale f_finding 4 v70 f_finding_70 _ hc70) ⟨rfl, rfl⟩ yn_yX10_found tw_558 tw_10 tw_556 ⟨Nat.le_of_ble_eq_true rfl, Nat.le_of_ble_eq_true rfl⟩ ⟨Nat.zero_le _, Nat.zero_le _⟩ hP hD hS hA [0] [1, 2, 3, 4, 5, 6, 7, 8, 9] [9, 0, 1, 2, 3, 4, 5, 6, 7, 8] rfl rfl rfl rfl rfl (by decide) rfl rfl rfl rfl rfl rfl hl.1 rfl rfl (Nat.le_of_ble_eq_true rfl) dX10_copy_70 rfl (fun H locs hP hD hS => ?_)
                          obtain ⟨e1, e2, e3, e4, e5, e6⟩ := ti6 hf
                          subst e1; subst e2; subst e3; subst e4; subst e5; subst e6
                          exact kretM C hP hD hS dX10_copy_73
                      · have hf := kneg hc hf
                        exact t_ND_copy_b49v4 C hA a_this a_texts a_names a_pieces a_song a_fitting a_deal a_guesses a_wise a_spy a_sheets a_sheets0 a_sheets1 a_sheets2 a_sheets3 a_sheets0_items a_sheets1_items a_sheets2_items a_sheets3_items f_stale f_sheets0_form f_sheets0_size f_sheets1_form f_sheets1_size f_sheets2_form f_sheets2_size f_sheets3_form f_sheets3_size x1 x2 x3 x4 x5 r r_finding r_sheets0_items r_sheets1_items r_sheets2_items r_sheets3_items hs_1 hs_3 f_finding f_sheets0_items f_sheets1_items f_sheets2_items f_sheets3_items hf _ _ hP hD hS _ (lv_sub hl [2] rfl)
                  · have hf := kneg hs_3 hf
                    cases hf
          · have hf := kneg hs_1 hf
            by_cases hs_1 : x1 = 3
            · have hf := kpos hs_1 hf
              refine kaald hx hb hK hP 1 4 rfl rfl (k := 3) (by rw [hs_1]; rfl) rfl (by decide) dX10_copy_22 ?_
              refine lv_astore (lv' := [(6, .ref a_sheets3), (0, .ref a_this), (1, .int x1), (2, .int x2), (3, .int x3), (4, .int x4), (5, .int x5)]) hx hb dX10_copy_23 hl (by decide) rfl (fun ls hl => ?_)
              refine lv_aload_n hx hb dX10_copy_25 rfl (lv_at hl 1 rfl) ?_
              refine va_get (ci := 10) (v := .ref a_sheets) (C := RX10) (T := TX10) (N := 12) hx hb hts inX10 hown hK hP 0 rfl rfl 9 (by decide) (hts _ tw_292) (fun _ h9 => h9) rfl dX10_copy_26 ?_
              refine lv_iload_n hx hb dX10_copy_29 rfl (lv_at hl 4 rfl) ?_
              by_cases hs_3 : x3 = 0
              · have hf := kpos hs_3 hf
                refine kaald hx hb hK hP 1 4 rfl rfl (k := 0) (by rw [hs_3]; rfl) rfl (by decide) dX10_copy_30 ?_
                refine lv_astore (lv' := [(7, .ref a_sheets0), (6, .ref a_sheets3), (0, .ref a_this), (1, .int x1), (2, .int x2), (3, .int x3), (4, .int x4), (5, .int x5)]) hx hb dX10_copy_31 hl (by decide) rfl (fun ls hl => ?_)
                refine lv_aload hx hb dX10_copy_33 (lv_at hl 1 rfl) ?_
                obtain ⟨v35, hc35, hf⟩ := cb1_some hf
                refine kcRV (q0 := 8) (ci := 5) (As := []) (rest := []) (st1 := [.int v35]) C (c_Sh_isLost l D ct a_sheets3 a_sheets3_items f_sheets3_form f_sheets3_size v35 hc35) ⟨rfl, rfl⟩ yn_yX5_isLost tw_553 tw_554 tw_552 ⟨Nat.le_of_ble_eq_true rfl, Nat.le_of_ble_eq_true rfl⟩ ⟨Nat.zero_le _, Nat.zero_le _⟩ hP [8] rfl rfl rfl rfl hl.1 rfl rfl (Nat.le_of_ble_eq_true rfl) dX10_copy_35 rfl ?_
                refine lv_if_ne (tgt := 49) hx hb dX10_copy_38 (by decide) (fun hc => ?_) (fun hc => ?_)
                · have hf := kneg hc hf
                  exact t_ND_copy_b49v3 C hA a_this a_texts a_names a_pieces a_song a_fitting a_deal a_guesses a_wise a_spy a_sheets a_sheets0 a_sheets1 a_sheets2 a_sheets3 a_sheets0_items a_sheets1_items a_sheets2_items a_sheets3_items f_stale f_sheets0_form f_sheets0_size f_sheets1_form f_sheets1_size f_sheets2_form f_sheets2_size f_sheets3_form f_sheets3_size x1 x2 x3 x4 x5 r r_finding r_sheets0_items r_sheets1_items r_sheets2_items r_sheets3_items hs_1 hs_3 f_finding f_sheets0_items f_sheets1_items f_sheets2_items f_sheets3_items hf _ _ hP hD hS _ (lv_sub hl [2] rfl)
                · have hf := kpos hc hf
                  refine lv_aload hx hb dX10_copy_41 (lv_at hl 0 rfl) ?_
                  obtain ⟨v43, hc43, hf⟩ := cb1_some hf
                  refine kcRV (q0 := 2) (ci := 5) (As := []) (rest := []) (st1 := [.int v43]) C (c_Sh_isLost l D ct a_sheets0 a_sheets0_items f_sheets0_form f_sheets0_size v43 hc43) ⟨rfl, rfl⟩ yn_yX5_isLost tw_553 tw_554 tw_552 ⟨Nat.le_of_ble_eq_true rfl, Nat.le_of_ble_eq_true rfl⟩ ⟨Nat.zero_le _, Nat.zero_le _⟩ hP [2] rfl rfl rfl rfl hl.1 rfl rfl (Nat.le_of_ble_eq_true rfl) dX10_copy_43 rfl ?_
                  refine lv_if_eq (tgt := 55) hx hb dX10_copy_46 (by decide) (fun hc => ?_) (fun hc => ?_)
                  · have hf := kpos hc hf
                    refine lv_aload hx hb dX10_copy_55 (lv_at hl 1 rfl) ?_
                    obtain ⟨v57, hc57, hf⟩ := cb1_some hf
                    refine kcRV (q0 := 8) (ci := 5) (As := []) (rest := []) (st1 := [.int v57]) C (c_Sh_form l D ct a_sheets3 a_sheets3_items f_sheets3_size f_sheets3_form v57 hc57) ⟨rfl, rfl⟩ yn_yX5_form tw_853 tw_854 tw_852 ⟨Nat.le_of_ble_eq_true rfl, Nat.le_of_ble_eq_true rfl⟩ ⟨Nat.zero_le _, Nat.zero_le _⟩ hP [8] rfl rfl rfl rfl hl.1 rfl rfl (Nat.le_of_ble_eq_true rfl) dX10_copy_57 rfl ?_
                    refine lv_aload hx hb dX10_copy_60 (lv_at hl 0 rfl) ?_
                    obtain ⟨v62, hc62, hf⟩ := cb1_some hf
                    refine kcRV (q0 := 2) (ci := 5) (As := []) (rest := [.int v57]) (st1 := [.int v62, .int v57]) C (c_Sh_form l D ct a_sheets0 a_sheets0_items f_sheets0_size f_sheets0_form v62 hc62) ⟨rfl, rfl⟩ yn_yX5_form tw_853 tw_854 tw_852 ⟨Nat.le_of_ble_eq_true rfl, Nat.le_of_ble_eq_true rfl⟩ ⟨Nat.zero_le _, Nat.zero_le _⟩ hP [2] rfl rfl rfl rfl hl.1 rfl rfl (Nat.le_of_ble_eq_true rfl) dX10_copy_62 rfl ?_
                    refine lv_icmp_eq (tgt := 74) hx hb dX10_copy_65 (by decide) (fun hc => ?_) (fun hc => ?_)
                    · have hf := kpos hc hf
                      refine lv_aload hx hb dX10_copy_74 (lv_at hl 1 rfl) ?_
                      refine lv_iload_n hx hb dX10_copy_76 rfl (lv_at hl 4 rfl) ?_
                      refine lv_iload hx hb dX10_copy_77 (lv_at hl 7 rfl) ?_
                      obtain ⟨v79, hc79, hf⟩ := cb1_some hf
                      refine kcRV (q0 := 8) (ci := 5) (As := [.int x2, .int x5]) (rest := []) (st1 := [.int v79]) C (c_Sh_holds l D ct a_sheets3 a_sheets3_items f_sheets3_form f_sheets3_size x2 x5 v79 hc79) ⟨rfl, rfl⟩ yn_yX5_holds tw_857 tw_858 tw_856 ⟨Nat.le_of_ble_eq_true rfl, Nat.le_of_ble_eq_true rfl⟩ ⟨Nat.zero_le _, Nat.zero_le _⟩ hP [8] rfl rfl rfl rfl hl.1 rfl rfl (Nat.le_of_ble_eq_true rfl) dX10_copy_79 rfl ?_
                      refine lv_if_eq (tgt := 97) hx hb dX10_copy_82 (by decide) (fun hc => ?_) (fun hc => ?_)
                      · have hf := kpos hc hf
                        exact t_ND_copy_b97v3 C hA a_this a_texts a_names a_pieces a_song a_fitting a_deal a_guesses a_wise a_spy a_sheets a_sheets0 a_sheets1 a_sheets2 a_sheets3 a_sheets0_items a_sheets1_items a_sheets2_items a_sheets3_items f_stale f_sheets0_form f_sheets0_size f_sheets1_form f_sheets1_size f_sheets2_form f_sheets2_size f_sheets3_form f_sheets3_size x1 x2 x3 x4 x5 r r_finding r_sheets0_items r_sheets1_items r_sheets2_items r_sheets3_items hs_1 hs_3 f_finding f_sheets0_items f_sheets1_items f_sheets2_items f_sheets3_items hf _ _ hP hD hS _ (lv_sub hl [2] rfl)
                      · have hf := kneg hc hf
                        refine lv_aload hx hb dX10_copy_85 (lv_at hl 0 rfl) ?_
                        refine lv_iload hx hb dX10_copy_87 (lv_at hl 6 rfl) ?_
                        refine lv_iload hx hb dX10_copy_89 (lv_at hl 7 rfl) ?_
                        obtain ⟨v91, hc91, hf⟩ := cb1_some hf
                        refine kcRV (q0 := 2) (ci := 5) (As := [.int x4, .int x5]) (rest := []) (st1 := [.int v91]) C (c_Sh_holds l D ct a_sheets0 a_sheets0_items f_sheets0_form f_sheets0_size x4 x5 v91 hc91) ⟨rfl, rfl⟩ yn_yX5_holds tw_857 tw_858 tw_856 ⟨Nat.le_of_ble_eq_true rfl, Nat.le_of_ble_eq_true rfl⟩ ⟨Nat.zero_le _, Nat.zero_le _⟩ hP [2] rfl rfl rfl rfl hl.1 rfl rfl (Nat.le_of_ble_eq_true rfl) dX10_copy_91 rfl ?_
                        refine lv_if_ne (tgt := 103) hx hb dX10_copy_94 (by decide) (fun hc => ?_) (fun hc => ?_)
                        · have hf := kneg hc hf
                          refine lv_aload hx hb dX10_copy_103 (lv_at hl 0 rfl) ?_
                          refine lv_aload hx hb dX10_copy_105 (lv_at hl 1 rfl) ?_
                          refine lv_iload_n hx hb dX10_copy_107 rfl (lv_at hl 4 rfl) ?_
                          refine lv_iload hx hb dX10_copy_108 (lv_at hl 6 rfl) ?_
                          refine lv_iload hx hb dX10_copy_110 (lv_at hl 7 rfl) ?_
                          obtain ⟨f_sheets0_items_112, hc112, hf⟩ := cb1_some hf
                          refine kcMV (q0 := 2) (ci := 5) (As := [.ref a_sheets3, .int x2, .int x4, .int x5]) (rest := []) (st1 := []) (wf := (w_ND_copy ct a_this a_texts a_names a_pieces a_song a_fitting a_deal a_guesses a_wise a_spy a_sheets a_sheets0 a_sheets1 a_sheets2 a_sheets3 a_sheets0_items a_sheets1_items a_sheets2_items a_sheets3_items f_stale f_finding f_sheets0_form f_sheets0_size f_sheets0_items_112 f_sheets1_form f_sheets1_size f_sheets1_items f_sheets2_form f_sheets2_size f_sheets2_items f_sheets3_form f_sheets3_size f_sheets3_items)) C (c_Sh_take l D ct a_sheets0 a_sheets0_items a_sheets3 a_sheets3_items f_sheets0_form f_sheets3_form f_sheets0_size f_sheets3_size f_sheets3_items f_sheets0_items x2 x4 x5 f_sheets0_items_112 _ hc112) ⟨rfl, rfl⟩ yn_yX5_take tw_878 tw_879 tw_877 ⟨Nat.le_of_ble_eq_true rfl, Nat.le_of_ble_eq_true rfl⟩ ⟨Nat.zero_le _, Nat.zero_le _⟩ hP hD hS hA [2, 3, 8, 9] [0, 1, 4, 5, 6, 7] [0, 1, 6, 7, 2, 3, 4, 5, 8, 9] rfl rfl rfl rfl rfl (by decide) rfl rfl rfl rfl rfl rfl hl.1 rfl rfl (Nat.le_of_ble_eq_true rfl) dX10_copy_112 rfl (fun H locs hP hD hS => ?_)
                          refine lv_iconst (v := 1) hx hb dX10_copy_115 (by decide) ?_
                          obtain ⟨e1, e2, e3, e4, e5, e6⟩ := ti6 hf
                          subst e1; subst e2; subst e3; subst e4; subst e5; subst e6
                          exact kretM C hP hD hS dX10_copy_116
                        · have hf := kpos hc hf
                          exact t_ND_copy_b97v3 C hA a_this a_texts a_names a_pieces a_song a_fitting a_deal a_guesses a_wise a_spy a_sheets a_sheets0 a_sheets1 a_sheets2 a_sheets3 a_sheets0_items a_sheets1_items a_sheets2_items a_sheets3_items f_stale f_sheets0_form f_sheets0_size f_sheets1_form f_sheets1_size f_sheets2_form f_sheets2_size f_sheets3_form f_sheets3_size x1 x2 x3 x4 x5 r r_finding r_sheets0_items r_sheets1_items r_sheets2_items r_sheets3_items hs_1 hs_3 f_finding f_sheets0_items f_sheets1_items f_sheets2_items f_sheets3_items hf _ _ hP hD hS _ (lv_sub hl [2] rfl)
                    · have hf := kneg hc hf
                      refine lv_aload_n hx hb dX10_copy_68 rfl (lv_at hl 2 rfl) ?_
                      refine lv_iconst (v := 4) hx hb dX10_copy_69 (by decide) ?_
                      obtain ⟨v70, f_finding_70, hc70, hf⟩ := cb2_some hf
                      refine kcMV (q0 := 0) (ci := 10) (As := [.int 4]) (rest := []) (st1 := [.int v70]) (wf := (w_ND_copy ct a_this a_texts a_names a_pieces a_song a_fitting a_deal a_guesses a_wise a_spy a_sheets a_sheets0 a_sheets1 a_sheets2 a_sheets3 a_sheets0_items a_sheets1_items a_sheets2_items a_sheets3_items f_stale f_finding_70 f_sheets0_form f_sheets0_size f_sheets0_items f_sheets1_form f_sheets1_size f_sheets1_items f_sheets2_form f_sheets2_size f_sheets2_items f_sheets3_form f_sheets3_size f_sheets3_items)) C (c_ND_found l D ct a_this a_texts a_names a_pieces a_song a_fitting a_deal a_guesses a_wise a_spy a_sheets f_stale f_finding 4 v70 f_finding_70 _ hc70) ⟨rfl, rfl⟩ yn_yX10_found tw_558 tw_10 tw_556 ⟨Nat.le_of_ble_eq_true rfl, Nat.le_of_ble_eq_true rfl⟩ ⟨Nat.zero_le _, Nat.zero_le _⟩ hP hD hS hA [0] [1, 2, 3, 4, 5, 6, 7, 8, 9] [9, 0, 1, 2, 3, 4, 5, 6, 7, 8] rfl rfl rfl rfl rfl (by decide) rfl rfl rfl rfl rfl rfl hl.1 rfl rfl (Nat.le_of_ble_eq_true rfl) dX10_copy_70 rfl (fun H locs hP hD hS => ?_)
                      obtain ⟨e1, e2, e3, e4, e5, e6⟩ := ti6 hf
                      subst e1; subst e2; subst e3; subst e4; subst e5; subst e6
                      exact kretM C hP hD hS dX10_copy_73
                  · have hf := kneg hc hf
                    exact t_ND_copy_b49v3 C hA a_this a_texts a_names a_pieces a_song a_fitting a_deal a_guesses a_wise a_spy a_sheets a_sheets0 a_sheets1 a_sheets2 a_sheets3 a_sheets0_items a_sheets1_items a_sheets2_items a_sheets3_items f_stale f_sheets0_form f_sheets0_size f_sheets1_form f_sheets1_size f_sheets2_form f_sheets2_size f_sheets3_form f_sheets3_size x1 x2 x3 x4 x5 r r_finding r_sheets0_items r_sheets1_items r_sheets2_items r_sheets3_items hs_1 hs_3 f_finding f_sheets0_items f_sheets1_items f_sheets2_items f_sheets3_items hf _ _ hP hD hS _ (lv_sub hl [2] rfl)
              · have hf := kneg hs_3 hf
                by_cases hs_3 : x3 = 1
                · have hf := kpos hs_3 hf
                  refine kaald hx hb hK hP 1 4 rfl rfl (k := 1) (by rw [hs_3]; rfl) rfl (by decide) dX10_copy_30 ?_
                  refine lv_astore (lv' := [(7, .ref a_sheets1), (6, .ref a_sheets3), (0, .ref a_this), (1, .int x1), (2, .int x2), (3, .int x3), (4, .int x4), (5, .int x5)]) hx hb dX10_copy_31 hl (by decide) rfl (fun ls hl => ?_)
                  refine lv_aload hx hb dX10_copy_33 (lv_at hl 1 rfl) ?_
                  obtain ⟨v35, hc35, hf⟩ := cb1_some hf
                  refine kcRV (q0 := 8) (ci := 5) (As := []) (rest := []) (st1 := [.int v35]) C (c_Sh_isLost l D ct a_sheets3 a_sheets3_items f_sheets3_form f_sheets3_size v35 hc35) ⟨rfl, rfl⟩ yn_yX5_isLost tw_553 tw_554 tw_552 ⟨Nat.le_of_ble_eq_true rfl, Nat.le_of_ble_eq_true rfl⟩ ⟨Nat.zero_le _, Nat.zero_le _⟩ hP [8] rfl rfl rfl rfl hl.1 rfl rfl (Nat.le_of_ble_eq_true rfl) dX10_copy_35 rfl ?_
                  refine lv_if_ne (tgt := 49) hx hb dX10_copy_38 (by decide) (fun hc => ?_) (fun hc => ?_)
                  · have hf := kneg hc hf
                    exact t_ND_copy_b49v2 C hA a_this a_texts a_names a_pieces a_song a_fitting a_deal a_guesses a_wise a_spy a_sheets a_sheets0 a_sheets1 a_sheets2 a_sheets3 a_sheets0_items a_sheets1_items a_sheets2_items a_sheets3_items f_stale f_sheets0_form f_sheets0_size f_sheets1_form f_sheets1_size f_sheets2_form f_sheets2_size f_sheets3_form f_sheets3_size x1 x2 x3 x4 x5 r r_finding r_sheets0_items r_sheets1_items r_sheets2_items r_sheets3_items hs_1 hs_3 f_finding f_sheets0_items f_sheets1_items f_sheets2_items f_sheets3_items hf _ _ hP hD hS _ (lv_sub hl [2] rfl)
                  · have hf := kpos hc hf
                    refine lv_aload hx hb dX10_copy_41 (lv_at hl 0 rfl) ?_
                    obtain ⟨v43, hc43, hf⟩ := cb1_some hf
                    refine kcRV (q0 := 4) (ci := 5) (As := []) (rest := []) (st1 := [.int v43]) C (c_Sh_isLost l D ct a_sheets1 a_sheets1_items f_sheets1_form f_sheets1_size v43 hc43) ⟨rfl, rfl⟩ yn_yX5_isLost tw_553 tw_554 tw_552 ⟨Nat.le_of_ble_eq_true rfl, Nat.le_of_ble_eq_true rfl⟩ ⟨Nat.zero_le _, Nat.zero_le _⟩ hP [4] rfl rfl rfl rfl hl.1 rfl rfl (Nat.le_of_ble_eq_true rfl) dX10_copy_43 rfl ?_
                    refine lv_if_eq (tgt := 55) hx hb dX10_copy_46 (by decide) (fun hc => ?_) (fun hc => ?_)
                    · have hf := kpos hc hf
                      refine lv_aload hx hb dX10_copy_55 (lv_at hl 1 rfl) ?_
                      obtain ⟨v57, hc57, hf⟩ := cb1_some hf
                      refine kcRV (q0 := 8) (ci := 5) (As := []) (rest := []) (st1 := [.int v57]) C (c_Sh_form l D ct a_sheets3 a_sheets3_items f_sheets3_size f_sheets3_form v57 hc57) ⟨rfl, rfl⟩ yn_yX5_form tw_853 tw_854 tw_852 ⟨Nat.le_of_ble_eq_true rfl, Nat.le_of_ble_eq_true rfl⟩ ⟨Nat.zero_le _, Nat.zero_le _⟩ hP [8] rfl rfl rfl rfl hl.1 rfl rfl (Nat.le_of_ble_eq_true rfl) dX10_copy_57 rfl ?_
                      refine lv_aload hx hb dX10_copy_60 (lv_at hl 0 rfl) ?_
                      obtain ⟨v62, hc62, hf⟩ := cb1_some hf
                      refine kcRV (q0 := 4) (ci := 5) (As := []) (rest := [.int v57]) (st1 := [.int v62, .int v57]) C (c_Sh_form l D ct a_sheets1 a_sheets1_items f_sheets1_size f_sheets1_form v62 hc62) ⟨rfl, rfl⟩ yn_yX5_form tw_853 tw_854 tw_852 ⟨Nat.le_of_ble_eq_true rfl, Nat.le_of_ble_eq_true rfl⟩ ⟨Nat.zero_le _, Nat.zero_le _⟩ hP [4] rfl rfl rfl rfl hl.1 rfl rfl (Nat.le_of_ble_eq_true rfl) dX10_copy_62 rfl ?_
                      refine lv_icmp_eq (tgt := 74) hx hb dX10_copy_65 (by decide) (fun hc => ?_) (fun hc => ?_)
                      · have hf := kpos hc hf
                        refine lv_aload hx hb dX10_copy_74 (lv_at hl 1 rfl) ?_
                        refine lv_iload_n hx hb dX10_copy_76 rfl (lv_at hl 4 rfl) ?_
                        refine lv_iload hx hb dX10_copy_77 (lv_at hl 7 rfl) ?_
                        obtain ⟨v79, hc79, hf⟩ := cb1_some hf
                        refine kcRV (q0 := 8) (ci := 5) (As := [.int x2, .int x5]) (rest := []) (st1 := [.int v79]) C (c_Sh_holds l D ct a_sheets3 a_sheets3_items f_sheets3_form f_sheets3_size x2 x5 v79 hc79) ⟨rfl, rfl⟩ yn_yX5_holds tw_857 tw_858 tw_856 ⟨Nat.le_of_ble_eq_true rfl, Nat.le_of_ble_eq_true rfl⟩ ⟨Nat.zero_le _, Nat.zero_le _⟩ hP [8] rfl rfl rfl rfl hl.1 rfl rfl (Nat.le_of_ble_eq_true rfl) dX10_copy_79 rfl ?_
                        refine lv_if_eq (tgt := 97) hx hb dX10_copy_82 (by decide) (fun hc => ?_) (fun hc => ?_)
                        · have hf := kpos hc hf
                          exact t_ND_copy_b97v2 C hA a_this a_texts a_names a_pieces a_song a_fitting a_deal a_guesses a_wise a_spy a_sheets a_sheets0 a_sheets1 a_sheets2 a_sheets3 a_sheets0_items a_sheets1_items a_sheets2_items a_sheets3_items f_stale f_sheets0_form f_sheets0_size f_sheets1_form f_sheets1_size f_sheets2_form f_sheets2_size f_sheets3_form f_sheets3_size x1 x2 x3 x4 x5 r r_finding r_sheets0_items r_sheets1_items r_sheets2_items r_sheets3_items hs_1 hs_3 f_finding f_sheets0_items f_sheets1_items f_sheets2_items f_sheets3_items hf _ _ hP hD hS _ (lv_sub hl [2] rfl)
                        · have hf := kneg hc hf
                          refine lv_aload hx hb dX10_copy_85 (lv_at hl 0 rfl) ?_
                          refine lv_iload hx hb dX10_copy_87 (lv_at hl 6 rfl) ?_
                          refine lv_iload hx hb dX10_copy_89 (lv_at hl 7 rfl) ?_
                          obtain ⟨v91, hc91, hf⟩ := cb1_some hf
                          refine kcRV (q0 := 4) (ci := 5) (As := [.int x4, .int x5]) (rest := []) (st1 := [.int v91]) C (c_Sh_holds l D ct a_sheets1 a_sheets1_items f_sheets1_form f_sheets1_size x4 x5 v91 hc91) ⟨rfl, rfl⟩ yn_yX5_holds tw_857 tw_858 tw_856 ⟨Nat.le_of_ble_eq_true rfl, Nat.le_of_ble_eq_true rfl⟩ ⟨Nat.zero_le _, Nat.zero_le _⟩ hP [4] rfl rfl rfl rfl hl.1 rfl rfl (Nat.le_of_ble_eq_true rfl) dX10_copy_91 rfl ?_
                          refine lv_if_ne (tgt := 103) hx hb dX10_copy_94 (by decide) (fun hc => ?_) (fun hc => ?_)
                          · have hf := kneg hc hf
                            refine lv_aload hx hb dX10_copy_103 (lv_at hl 0 rfl) ?_
                            refine lv_aload hx hb dX10_copy_105 (lv_at hl 1 rfl) ?_
                            refine lv_iload_n hx hb dX10_copy_107 rfl (lv_at hl 4 rfl) ?_
                            refine lv_iload hx hb dX10_copy_108 (lv_at hl 6 rfl) ?_
                            refine lv_iload hx hb dX10_copy_110 (lv_at hl 7 rfl) ?_
                            obtain ⟨f_sheets1_items_112, hc112, hf⟩ := cb1_some hf
                            refine kcMV (q0 := 4) (ci := 5) (As := [.ref a_sheets3, .int x2, .int x4, .int x5]) (rest := []) (st1 := []) (wf := (w_ND_copy ct a_this a_texts a_names a_pieces a_song a_fitting a_deal a_guesses a_wise a_spy a_sheets a_sheets0 a_sheets1 a_sheets2 a_sheets3 a_sheets0_items a_sheets1_items a_sheets2_items a_sheets3_items f_stale f_finding f_sheets0_form f_sheets0_size f_sheets0_items f_sheets1_form f_sheets1_size f_sheets1_items_112 f_sheets2_form f_sheets2_size f_sheets2_items f_sheets3_form f_sheets3_size f_sheets3_items)) C (c_Sh_take l D ct a_sheets1 a_sheets1_items a_sheets3 a_sheets3_items f_sheets1_form f_sheets3_form f_sheets1_size f_sheets3_size f_sheets3_items f_sheets1_items x2 x4 x5 f_sheets1_items_112 _ hc112) ⟨rfl, rfl⟩ yn_yX5_take tw_878 tw_879 tw_877 ⟨Nat.le_of_ble_eq_true rfl, Nat.le_of_ble_eq_true rfl⟩ ⟨Nat.zero_le _, Nat.zero_le _⟩ hP hD hS hA [4, 5, 8, 9] [0, 1, 2, 3, 6, 7] [0, 1, 2, 3, 6, 7, 4, 5, 8, 9] rfl rfl rfl rfl rfl (by decide) rfl rfl rfl rfl rfl rfl hl.1 rfl rfl (Nat.le_of_ble_eq_true rfl) dX10_copy_112 rfl (fun H locs hP hD hS => ?_)
                            refine lv_iconst (v := 1) hx hb dX10_copy_115 (by decide) ?_
                            obtain ⟨e1, e2, e3, e4, e5, e6⟩ := ti6 hf
                            subst e1; subst e2; subst e3; subst e4; subst e5; subst e6
                            exact kretM C hP hD hS dX10_copy_116
                          · have hf := kpos hc hf
                            exact t_ND_copy_b97v2 C hA a_this a_texts a_names a_pieces a_song a_fitting a_deal a_guesses a_wise a_spy a_sheets a_sheets0 a_sheets1 a_sheets2 a_sheets3 a_sheets0_items a_sheets1_items a_sheets2_items a_sheets3_items f_stale f_sheets0_form f_sheets0_size f_sheets1_form f_sheets1_size f_sheets2_form f_sheets2_size f_sheets3_form f_sheets3_size x1 x2 x3 x4 x5 r r_finding r_sheets0_items r_sheets1_items r_sheets2_items r_sheets3_items hs_1 hs_3 f_finding f_sheets0_items f_sheets1_items f_sheets2_items f_sheets3_items hf _ _ hP hD hS _ (lv_sub hl [2] rfl)
                      · have hf := kneg hc hf
                        refine lv_aload_n hx hb dX10_copy_68 rfl (lv_at hl 2 rfl) ?_
                        refine lv_iconst (v := 4) hx hb dX10_copy_69 (by decide) ?_
                        obtain ⟨v70, f_finding_70, hc70, hf⟩ := cb2_some hf
                        refine kcMV (q0 := 0) (ci := 10) (As := [.int 4]) (rest := []) (st1 := [.int v70]) (wf := (w_ND_copy ct a_this a_texts a_names a_pieces a_song a_fitting a_deal a_guesses a_wise a_spy a_sheets a_sheets0 a_sheets1 a_sheets2 a_sheets3 a_sheets0_items a_sheets1_items a_sheets2_items a_sheets3_items f_stale f_finding_70 f_sheets0_form f_sheets0_size f_sheets0_items f_sheets1_form f_sheets1_size f_sheets1_items f_sheets2_form f_sheets2_size f_sheets2_items f_sheets3_form f_sheets3_size f_sheets3_items)) C (c_ND_found l D ct a_this a_texts a_names a_pieces a_song a_fitting a_deal a_guesses a_wise a_spy a_sheets f_stale f_finding 4 v70 f_finding_70 _ hc70) ⟨rfl, rfl⟩ yn_yX10_found tw_558 tw_10 tw_556 ⟨Nat.le_of_ble_eq_true rfl, Nat.le_of_ble_eq_true rfl⟩ ⟨Nat.zero_le _, Nat.zero_le _⟩ hP hD hS hA [0] [1, 2, 3, 4, 5, 6, 7, 8, 9] [9, 0, 1, 2, 3, 4, 5, 6, 7, 8] rfl rfl rfl rfl rfl (by decide) rfl rfl rfl rfl rfl rfl hl.1 rfl rfl (Nat.le_of_ble_eq_true rfl) dX10_copy_70 rfl (fun H locs hP hD hS => ?_)
                        obtain ⟨e1, e2, e3, e4, e5, e6⟩ := ti6 hf
                        subst e1; subst e2; subst e3; subst e4; subst e5; subst e6
                        exact kretM C hP hD hS dX10_copy_73
                    · have hf := kneg hc hf
                      exact t_ND_copy_b49v2 C hA a_this a_texts a_names a_pieces a_song a_fitting a_deal a_guesses a_wise a_spy a_sheets a_sheets0 a_sheets1 a_sheets2 a_sheets3 a_sheets0_items a_sheets1_items a_sheets2_items a_sheets3_items f_stale f_sheets0_form f_sheets0_size f_sheets1_form f_sheets1_size f_sheets2_form f_sheets2_size f_sheets3_form f_sheets3_size x1 x2 x3 x4 x5 r r_finding r_sheets0_items r_sheets1_items r_sheets2_items r_sheets3_items hs_1 hs_3 f_finding f_sheets0_items f_sheets1_items f_sheets2_items f_sheets3_items hf _ _ hP hD hS _ (lv_sub hl [2] rfl)
                · have hf := kneg hs_3 hf
                  by_cases hs_3 : x3 = 2
                  · have hf := kpos hs_3 hf
                    refine kaald hx hb hK hP 1 4 rfl rfl (k := 2) (by rw [hs_3]; rfl) rfl (by decide) dX10_copy_30 ?_
                    refine lv_astore (lv' := [(7, .ref a_sheets2), (6, .ref a_sheets3), (0, .ref a_this), (1, .int x1), (2, .int x2), (3, .int x3), (4, .int x4), (5, .int x5)]) hx hb dX10_copy_31 hl (by decide) rfl (fun ls hl => ?_)
                    refine lv_aload hx hb dX10_copy_33 (lv_at hl 1 rfl) ?_
                    obtain ⟨v35, hc35, hf⟩ := cb1_some hf
                    refine kcRV (q0 := 8) (ci := 5) (As := []) (rest := []) (st1 := [.int v35]) C (c_Sh_isLost l D ct a_sheets3 a_sheets3_items f_sheets3_form f_sheets3_size v35 hc35) ⟨rfl, rfl⟩ yn_yX5_isLost tw_553 tw_554 tw_552 ⟨Nat.le_of_ble_eq_true rfl, Nat.le_of_ble_eq_true rfl⟩ ⟨Nat.zero_le _, Nat.zero_le _⟩ hP [8] rfl rfl rfl rfl hl.1 rfl rfl (Nat.le_of_ble_eq_true rfl) dX10_copy_35 rfl ?_
                    refine lv_if_ne (tgt := 49) hx hb dX10_copy_38 (by decide) (fun hc => ?_) (fun hc => ?_)
                    · have hf := kneg hc hf
                      exact t_ND_copy_b49v1 C hA a_this a_texts a_names a_pieces a_song a_fitting a_deal a_guesses a_wise a_spy a_sheets a_sheets0 a_sheets1 a_sheets2 a_sheets3 a_sheets0_items a_sheets1_items a_sheets2_items a_sheets3_items f_stale f_sheets0_form f_sheets0_size f_sheets1_form f_sheets1_size f_sheets2_form f_sheets2_size f_sheets3_form f_sheets3_size x1 x2 x3 x4 x5 r r_finding r_sheets0_items r_sheets1_items r_sheets2_items r_sheets3_items hs_1 hs_3 f_finding f_sheets0_items f_sheets1_items f_sheets2_items f_sheets3_items hf _ _ hP hD hS _ (lv_sub hl [2] rfl)
                    · have hf := kpos hc hf
                      refine lv_aload hx hb dX10_copy_41 (lv_at hl 0 rfl) ?_
                      obtain ⟨v43, hc43, hf⟩ := cb1_some hf
                      refine kcRV (q0 := 6) (ci := 5) (As := []) (rest := []) (st1 := [.int v43]) C (c_Sh_isLost l D ct a_sheets2 a_sheets2_items f_sheets2_form f_sheets2_size v43 hc43) ⟨rfl, rfl⟩ yn_yX5_isLost tw_553 tw_554 tw_552 ⟨Nat.le_of_ble_eq_true rfl, Nat.le_of_ble_eq_true rfl⟩ ⟨Nat.zero_le _, Nat.zero_le _⟩ hP [6] rfl rfl rfl rfl hl.1 rfl rfl (Nat.le_of_ble_eq_true rfl) dX10_copy_43 rfl ?_
                      refine lv_if_eq (tgt := 55) hx hb dX10_copy_46 (by decide) (fun hc => ?_) (fun hc => ?_)
                      · have hf := kpos hc hf
                        refine lv_aload hx hb dX10_copy_55 (lv_at hl 1 rfl) ?_
                        obtain ⟨v57, hc57, hf⟩ := cb1_some hf
                        refine kcRV (q0 := 8) (ci := 5) (As := []) (rest := []) (st1 := [.int v57]) C (c_Sh_form l D ct a_sheets3 a_sheets3_items f_sheets3_size f_sheets3_form v57 hc57) ⟨rfl, rfl⟩ yn_yX5_form tw_853 tw_854 tw_852 ⟨Nat.le_of_ble_eq_true rfl, Nat.le_of_ble_eq_true rfl⟩ ⟨Nat.zero_le _, Nat.zero_le _⟩ hP [8] rfl rfl rfl rfl hl.1 rfl rfl (Nat.le_of_ble_eq_true rfl) dX10_copy_57 rfl ?_
                        refine lv_aload hx hb dX10_copy_60 (lv_at hl 0 rfl) ?_
                        obtain ⟨v62, hc62, hf⟩ := cb1_some hf
                        refine kcRV (q0 := 6) (ci := 5) (As := []) (rest := [.int v57]) (st1 := [.int v62, .int v57]) C (c_Sh_form l D ct a_sheets2 a_sheets2_items f_sheets2_size f_sheets2_form v62 hc62) ⟨rfl, rfl⟩ yn_yX5_form tw_853 tw_854 tw_852 ⟨Nat.le_of_ble_eq_true rfl, Nat.le_of_ble_eq_true rfl⟩ ⟨Nat.zero_le _, Nat.zero_le _⟩ hP [6] rfl rfl rfl rfl hl.1 rfl rfl (Nat.le_of_ble_eq_true rfl) dX10_copy_62 rfl ?_
                        refine lv_icmp_eq (tgt := 74) hx hb dX10_copy_65 (by decide) (fun hc => ?_) (fun hc => ?_)
                        · have hf := kpos hc hf
                          refine lv_aload hx hb dX10_copy_74 (lv_at hl 1 rfl) ?_
                          refine lv_iload_n hx hb dX10_copy_76 rfl (lv_at hl 4 rfl) ?_
                          refine lv_iload hx hb dX10_copy_77 (lv_at hl 7 rfl) ?_
                          obtain ⟨v79, hc79, hf⟩ := cb1_some hf
                          refine kcRV (q0 := 8) (ci := 5) (As := [.int x2, .int x5]) (rest := []) (st1 := [.int v79]) C (c_Sh_holds l D ct a_sheets3 a_sheets3_items f_sheets3_form f_sheets3_size x2 x5 v79 hc79) ⟨rfl, rfl⟩ yn_yX5_holds tw_857 tw_858 tw_856 ⟨Nat.le_of_ble_eq_true rfl, Nat.le_of_ble_eq_true rfl⟩ ⟨Nat.zero_le _, Nat.zero_le _⟩ hP [8] rfl rfl rfl rfl hl.1 rfl rfl (Nat.le_of_ble_eq_true rfl) dX10_copy_79 rfl ?_
                          refine lv_if_eq (tgt := 97) hx hb dX10_copy_82 (by decide) (fun hc => ?_) (fun hc => ?_)
                          · have hf := kpos hc hf
                            exact t_ND_copy_b97v1 C hA a_this a_texts a_names a_pieces a_song a_fitting a_deal a_guesses a_wise a_spy a_sheets a_sheets0 a_sheets1 a_sheets2 a_sheets3 a_sheets0_items a_sheets1_items a_sheets2_items a_sheets3_items f_stale f_sheets0_form f_sheets0_size f_sheets1_form f_sheets1_size f_sheets2_form f_sheets2_size f_sheets3_form f_sheets3_size x1 x2 x3 x4 x5 r r_finding r_sheets0_items r_sheets1_items r_sheets2_items r_sheets3_items hs_1 hs_3 f_finding f_sheets0_items f_sheets1_items f_sheets2_items f_sheets3_items hf _ _ hP hD hS _ (lv_sub hl [2] rfl)
                          · have hf := kneg hc hf
                            refine lv_aload hx hb dX10_copy_85 (lv_at hl 0 rfl) ?_
                            refine lv_iload hx hb dX10_copy_87 (lv_at hl 6 rfl) ?_
                            refine lv_iload hx hb dX10_copy_89 (lv_at hl 7 rfl) ?_
                            obtain ⟨v91, hc91, hf⟩ := cb1_some hf
                            refine kcRV (q0 := 6) (ci := 5) (As := [.int x4, .int x5]) (rest := []) (st1 := [.int v91]) C (c_Sh_holds l D ct a_sheets2 a_sheets2_items f_sheets2_form f_sheets2_size x4 x5 v91 hc91) ⟨rfl, rfl⟩ yn_yX5_holds tw_857 tw_858 tw_856 ⟨Nat.le_of_ble_eq_true rfl, Nat.le_of_ble_eq_true rfl⟩ ⟨Nat.zero_le _, Nat.zero_le _⟩ hP [6] rfl rfl rfl rfl hl.1 rfl rfl (Nat.le_of_ble_eq_true rfl) dX10_copy_91 rfl ?_
                            refine lv_if_ne (tgt := 103) hx hb dX10_copy_94 (by decide) (fun hc => ?_) (fun hc => ?_)
                            · have hf := kneg hc hf
                              refine lv_aload hx hb dX10_copy_103 (lv_at hl 0 rfl) ?_
                              refine lv_aload hx hb dX10_copy_105 (lv_at hl 1 rfl) ?_
                              refine lv_iload_n hx hb dX10_copy_107 rfl (lv_at hl 4 rfl) ?_
                              refine lv_iload hx hb dX10_copy_108 (lv_at hl 6 rfl) ?_
                              refine lv_iload hx hb dX10_copy_110 (lv_at hl 7 rfl) ?_
                              obtain ⟨f_sheets2_items_112, hc112, hf⟩ := cb1_some hf
                              refine kcMV (q0 := 6) (ci := 5) (As := [.ref a_sheets3, .int x2, .int x4, .int x5]) (rest := []) (st1 := []) (wf := (w_ND_copy ct a_this a_texts a_names a_pieces a_song a_fitting a_deal a_guesses a_wise a_spy a_sheets a_sheets0 a_sheets1 a_sheets2 a_sheets3 a_sheets0_items a_sheets1_items a_sheets2_items a_sheets3_items f_stale f_finding f_sheets0_form f_sheets0_size f_sheets0_items f_sheets1_form f_sheets1_size f_sheets1_items f_sheets2_form f_sheets2_size f_sheets2_items_112 f_sheets3_form f_sheets3_size f_sheets3_items)) C (c_Sh_take l D ct a_sheets2 a_sheets2_items a_sheets3 a_sheets3_items f_sheets2_form f_sheets3_form f_sheets2_size f_sheets3_size f_sheets3_items f_sheets2_items x2 x4 x5 f_sheets2_items_112 _ hc112) ⟨rfl, rfl⟩ yn_yX5_take tw_878 tw_879 tw_877 ⟨Nat.le_of_ble_eq_true rfl, Nat.le_of_ble_eq_true rfl⟩ ⟨Nat.zero_le _, Nat.zero_le _⟩ hP hD hS hA [6, 7, 8, 9] [0, 1, 2, 3, 4, 5] [0, 1, 2, 3, 4, 5, 6, 7, 8, 9] rfl rfl rfl rfl rfl (by decide) rfl rfl rfl rfl rfl rfl hl.1 rfl rfl (Nat.le_of_ble_eq_true rfl) dX10_copy_112 rfl (fun H locs hP hD hS => ?_)
                              refine lv_iconst (v := 1) hx hb dX10_copy_115 (by decide) ?_
                              obtain ⟨e1, e2, e3, e4, e5, e6⟩ := ti6 hf
                              subst e1; subst e2; subst e3; subst e4; subst e5; subst e6
                              exact kretM C hP hD hS dX10_copy_116
                            · have hf := kpos hc hf
                              exact t_ND_copy_b97v1 C hA a_this a_texts a_names a_pieces a_song a_fitting a_deal a_guesses a_wise a_spy a_sheets a_sheets0 a_sheets1 a_sheets2 a_sheets3 a_sheets0_items a_sheets1_items a_sheets2_items a_sheets3_items f_stale f_sheets0_form f_sheets0_size f_sheets1_form f_sheets1_size f_sheets2_form f_sheets2_size f_sheets3_form f_sheets3_size x1 x2 x3 x4 x5 r r_finding r_sheets0_items r_sheets1_items r_sheets2_items r_sheets3_items hs_1 hs_3 f_finding f_sheets0_items f_sheets1_items f_sheets2_items f_sheets3_items hf _ _ hP hD hS _ (lv_sub hl [2] rfl)
                        · have hf := kneg hc hf
                          refine lv_aload_n hx hb dX10_copy_68 rfl (lv_at hl 2 rfl) ?_
                          refine lv_iconst (v := 4) hx hb dX10_copy_69 (by decide) ?_
                          obtain ⟨v70, f_finding_70, hc70, hf⟩ := cb2_some hf
                          refine kcMV (q0 := 0) (ci := 10) (As := [.int 4]) (rest := []) (st1 := [.int v70]) (wf := (w_ND_copy ct a_this a_texts a_names a_pieces a_song a_fitting a_deal a_guesses a_wise a_spy a_sheets a_sheets0 a_sheets1 a_sheets2 a_sheets3 a_sheets0_items a_sheets1_items a_sheets2_items a_sheets3_items f_stale f_finding_70 f_sheets0_form f_sheets0_size f_sheets0_items f_sheets1_form f_sheets1_size f_sheets1_items f_sheets2_form f_sheets2_size f_sheets2_items f_sheets3_form f_sheets3_size f_sheets3_items)) C (c_ND_found l D ct a_this a_texts a_names a_pieces a_song a_fitting a_deal a_guesses a_wise a_spy a_sheets f_stale f_finding 4 v70 f_finding_70 _ hc70) ⟨rfl, rfl⟩ yn_yX10_found tw_558 tw_10 tw_556 ⟨Nat.le_of_ble_eq_true rfl, Nat.le_of_ble_eq_true rfl⟩ ⟨Nat.zero_le _, Nat.zero_le _⟩ hP hD hS hA [0] [1, 2, 3, 4, 5, 6, 7, 8, 9] [9, 0, 1, 2, 3, 4, 5, 6, 7, 8] rfl rfl rfl rfl rfl (by decide) rfl rfl rfl rfl rfl rfl hl.1 rfl rfl (Nat.le_of_ble_eq_true rfl) dX10_copy_70 rfl (fun H locs hP hD hS => ?_)
                          obtain ⟨e1, e2, e3, e4, e5, e6⟩ := ti6 hf
                          subst e1; subst e2; subst e3; subst e4; subst e5; subst e6
                          exact kretM C hP hD hS dX10_copy_73
                      · have hf := kneg hc hf
                        exact t_ND_copy_b49v1 C hA a_this a_texts a_names a_pieces a_song a_fitting a_deal a_guesses a_wise a_spy a_sheets a_sheets0 a_sheets1 a_sheets2 a_sheets3 a_sheets0_items a_sheets1_items a_sheets2_items a_sheets3_items f_stale f_sheets0_form f_sheets0_size f_sheets1_form f_sheets1_size f_sheets2_form f_sheets2_size f_sheets3_form f_sheets3_size x1 x2 x3 x4 x5 r r_finding r_sheets0_items r_sheets1_items r_sheets2_items r_sheets3_items hs_1 hs_3 f_finding f_sheets0_items f_sheets1_items f_sheets2_items f_sheets3_items hf _ _ hP hD hS _ (lv_sub hl [2] rfl)
                  · have hf := kneg hs_3 hf
                    by_cases hs_3 : x3 = 3
                    · have hf := kpos hs_3 hf
                      refine kaald hx hb hK hP 1 4 rfl rfl (k := 3) (by rw [hs_3]; rfl) rfl (by decide) dX10_copy_30 ?_
                      refine lv_astore (lv' := [(7, .ref a_sheets3), (6, .ref a_sheets3), (0, .ref a_this), (1, .int x1), (2, .int x2), (3, .int x3), (4, .int x4), (5, .int x5)]) hx hb dX10_copy_31 hl (by decide) rfl (fun ls hl => ?_)
                      refine lv_aload hx hb dX10_copy_33 (lv_at hl 1 rfl) ?_
                      obtain ⟨v35, hc35, hf⟩ := cb1_some hf
                      refine kcRV (q0 := 8) (ci := 5) (As := []) (rest := []) (st1 := [.int v35]) C (c_Sh_isLost l D ct a_sheets3 a_sheets3_items f_sheets3_form f_sheets3_size v35 hc35) ⟨rfl, rfl⟩ yn_yX5_isLost tw_553 tw_554 tw_552 ⟨Nat.le_of_ble_eq_true rfl, Nat.le_of_ble_eq_true rfl⟩ ⟨Nat.zero_le _, Nat.zero_le _⟩ hP [8] rfl rfl rfl rfl hl.1 rfl rfl (Nat.le_of_ble_eq_true rfl) dX10_copy_35 rfl ?_
                      refine lv_if_ne (tgt := 49) hx hb dX10_copy_38 (by decide) (fun hc => ?_) (fun hc => ?_)
                      · have hf := kneg hc hf
                        exact t_ND_copy_b49v0 C hA a_this a_texts a_names a_pieces a_song a_fitting a_deal a_guesses a_wise a_spy a_sheets a_sheets0 a_sheets1 a_sheets2 a_sheets3 a_sheets0_items a_sheets1_items a_sheets2_items a_sheets3_items f_stale f_sheets0_form f_sheets0_size f_sheets1_form f_sheets1_size f_sheets2_form f_sheets2_size f_sheets3_form f_sheets3_size x1 x2 x3 x4 x5 r r_finding r_sheets0_items r_sheets1_items r_sheets2_items r_sheets3_items hs_1 hs_3 f_finding f_sheets0_items f_sheets1_items f_sheets2_items f_sheets3_items hf _ _ hP hD hS _ (lv_sub hl [2] rfl)
                      · have hf := kpos hc hf
                        refine lv_aload hx hb dX10_copy_41 (lv_at hl 0 rfl) ?_
                        obtain ⟨v43, hc43, hf⟩ := cb1_some hf
                        refine kcRV (q0 := 8) (ci := 5) (As := []) (rest := []) (st1 := [.int v43]) C (c_Sh_isLost l D ct a_sheets3 a_sheets3_items f_sheets3_form f_sheets3_size v43 hc43) ⟨rfl, rfl⟩ yn_yX5_isLost tw_553 tw_554 tw_552 ⟨Nat.le_of_ble_eq_true rfl, Nat.le_of_ble_eq_true rfl⟩ ⟨Nat.zero_le _, Nat.zero_le _⟩ hP [8] rfl rfl rfl rfl hl.1 rfl rfl (Nat.le_of_ble_eq_true rfl) dX10_copy_43 rfl ?_
                        refine lv_if_eq (tgt := 55) hx hb dX10_copy_46 (by decide) (fun hc => ?_) (fun hc => ?_)
                        · have hf := kpos hc hf
                          refine lv_aload hx hb dX10_copy_55 (lv_at hl 1 rfl) ?_
                          obtain ⟨v57, hc57, hf⟩ := cb1_some hf
                          refine kcRV (q0 := 8) (ci := 5) (As := []) (rest := []) (st1 := [.int v57]) C (c_Sh_form l D ct a_sheets3 a_sheets3_items f_sheets3_size f_sheets3_form v57 hc57) ⟨rfl, rfl⟩ yn_yX5_form tw_853 tw_854 tw_852 ⟨Nat.le_of_ble_eq_true rfl, Nat.le_of_ble_eq_true rfl⟩ ⟨Nat.zero_le _, Nat.zero_le _⟩ hP [8] rfl rfl rfl rfl hl.1 rfl rfl (Nat.le_of_ble_eq_true rfl) dX10_copy_57 rfl ?_
                          refine lv_aload hx hb dX10_copy_60 (lv_at hl 0 rfl) ?_
                          obtain ⟨v62, hc62, hf⟩ := cb1_some hf
                          refine kcRV (q0 := 8) (ci := 5) (As := []) (rest := [.int v57]) (st1 := [.int v62, .int v57]) C (c_Sh_form l D ct a_sheets3 a_sheets3_items f_sheets3_size f_sheets3_form v62 hc62) ⟨rfl, rfl⟩ yn_yX5_form tw_853 tw_854 tw_852 ⟨Nat.le_of_ble_eq_true rfl, Nat.le_of_ble_eq_true rfl⟩ ⟨Nat.zero_le _, Nat.zero_le _⟩ hP [8] rfl rfl rfl rfl hl.1 rfl rfl (Nat.le_of_ble_eq_true rfl) dX10_copy_62 rfl ?_
                          refine lv_icmp_eq (tgt := 74) hx hb dX10_copy_65 (by decide) (fun hc => ?_) (fun hc => ?_)
                          · have hf := kpos hc hf
                            refine lv_aload hx hb dX10_copy_74 (lv_at hl 1 rfl) ?_
                            refine lv_iload_n hx hb dX10_copy_76 rfl (lv_at hl 4 rfl) ?_
                            refine lv_iload hx hb dX10_copy_77 (lv_at hl 7 rfl) ?_
                            obtain ⟨v79, hc79, hf⟩ := cb1_some hf
                            refine kcRV (q0 := 8) (ci := 5) (As := [.int x2, .int x5]) (rest := []) (st1 := [.int v79]) C (c_Sh_holds l D ct a_sheets3 a_sheets3_items f_sheets3_form f_sheets3_size x2 x5 v79 hc79) ⟨rfl, rfl⟩ yn_yX5_holds tw_857 tw_858 tw_856 ⟨Nat.le_of_ble_eq_true rfl, Nat.le_of_ble_eq_true rfl⟩ ⟨Nat.zero_le _, Nat.zero_le _⟩ hP [8] rfl rfl rfl rfl hl.1 rfl rfl (Nat.le_of_ble_eq_true rfl) dX10_copy_79 rfl ?_
                            refine lv_if_eq (tgt := 97) hx hb dX10_copy_82 (by decide) (fun hc => ?_) (fun hc => ?_)
                            · have hf := kpos hc hf
                              exact t_ND_copy_b97v0 C hA a_this a_texts a_names a_pieces a_song a_fitting a_deal a_guesses a_wise a_spy a_sheets a_sheets0 a_sheets1 a_sheets2 a_sheets3 a_sheets0_items a_sheets1_items a_sheets2_items a_sheets3_items f_stale f_sheets0_form f_sheets0_size f_sheets1_form f_sheets1_size f_sheets2_form f_sheets2_size f_sheets3_form f_sheets3_size x1 x2 x3 x4 x5 r r_finding r_sheets0_items r_sheets1_items r_sheets2_items r_sheets3_items hs_1 hs_3 f_finding f_sheets0_items f_sheets1_items f_sheets2_items f_sheets3_items hf _ _ hP hD hS _ (lv_sub hl [2] rfl)
                            · have hf := kneg hc hf
                              refine lv_aload hx hb dX10_copy_85 (lv_at hl 0 rfl) ?_
                              refine lv_iload hx hb dX10_copy_87 (lv_at hl 6 rfl) ?_
                              refine lv_iload hx hb dX10_copy_89 (lv_at hl 7 rfl) ?_
                              obtain ⟨v91, hc91, hf⟩ := cb1_some hf
                              refine kcRV (q0 := 8) (ci := 5) (As := [.int x4, .int x5]) (rest := []) (st1 := [.int v91]) C (c_Sh_holds l D ct a_sheets3 a_sheets3_items f_sheets3_form f_sheets3_size x4 x5 v91 hc91) ⟨rfl, rfl⟩ yn_yX5_holds tw_857 tw_858 tw_856 ⟨Nat.le_of_ble_eq_true rfl, Nat.le_of_ble_eq_true rfl⟩ ⟨Nat.zero_le _, Nat.zero_le _⟩ hP [8] rfl rfl rfl rfl hl.1 rfl rfl (Nat.le_of_ble_eq_true rfl) dX10_copy_91 rfl ?_
                              refine lv_if_ne (tgt := 103) hx hb dX10_copy_94 (by decide) (fun hc => ?_) (fun hc => ?_)
                              · have hf := kneg hc hf
                                refine lv_aload hx hb dX10_copy_103 (lv_at hl 0 rfl) ?_
                                refine lv_aload hx hb dX10_copy_105 (lv_at hl 1 rfl) ?_
                                refine lv_iload_n hx hb dX10_copy_107 rfl (lv_at hl 4 rfl) ?_
                                refine lv_iload hx hb dX10_copy_108 (lv_at hl 6 rfl) ?_
                                refine lv_iload hx hb dX10_copy_110 (lv_at hl 7 rfl) ?_
                                obtain ⟨f_sheets3_items_112, hc112, hf⟩ := cb1_some hf
                                refine kcMV (q0 := 8) (ci := 5) (As := [.ref a_sheets3, .int x2, .int x4, .int x5]) (rest := []) (st1 := []) (wf := (w_ND_copy ct a_this a_texts a_names a_pieces a_song a_fitting a_deal a_guesses a_wise a_spy a_sheets a_sheets0 a_sheets1 a_sheets2 a_sheets3 a_sheets0_items a_sheets1_items a_sheets2_items a_sheets3_items f_stale f_finding f_sheets0_form f_sheets0_size f_sheets0_items f_sheets1_form f_sheets1_size f_sheets1_items f_sheets2_form f_sheets2_size f_sheets2_items f_sheets3_form f_sheets3_size f_sheets3_items_112)) C (c_Sh_take_same l D ct a_sheets3 a_sheets3_items f_sheets3_form f_sheets3_size f_sheets3_items x2 x4 x5 f_sheets3_items_112 _ hc112) ⟨rfl, rfl⟩ yn_yX5_take tw_878 tw_879 tw_877 ⟨Nat.le_of_ble_eq_true rfl, Nat.le_of_ble_eq_true rfl⟩ ⟨Nat.zero_le _, Nat.zero_le _⟩ hP hD hS hA [8, 9] [0, 1, 2, 3, 4, 5, 6, 7] [0, 1, 2, 3, 4, 5, 6, 7, 8, 9] rfl rfl rfl rfl rfl (by decide) rfl rfl rfl rfl rfl rfl hl.1 rfl rfl (Nat.le_of_ble_eq_true rfl) dX10_copy_112 rfl (fun H locs hP hD hS => ?_)
                                refine lv_iconst (v := 1) hx hb dX10_copy_115 (by decide) ?_
                                obtain ⟨e1, e2, e3, e4, e5, e6⟩ := ti6 hf
                                subst e1; subst e2; subst e3; subst e4; subst e5; subst e6
                                exact kretM C hP hD hS dX10_copy_116
                              · have hf := kpos hc hf
                                exact t_ND_copy_b97v0 C hA a_this a_texts a_names a_pieces a_song a_fitting a_deal a_guesses a_wise a_spy a_sheets a_sheets0 a_sheets1 a_sheets2 a_sheets3 a_sheets0_items a_sheets1_items a_sheets2_items a_sheets3_items f_stale f_sheets0_form f_sheets0_size f_sheets1_form f_sheets1_size f_sheets2_form f_sheets2_size f_sheets3_form f_sheets3_size x1 x2 x3 x4 x5 r r_finding r_sheets0_items r_sheets1_items r_sheets2_items r_sheets3_items hs_1 hs_3 f_finding f_sheets0_items f_sheets1_items f_sheets2_items f_sheets3_items hf _ _ hP hD hS _ (lv_sub hl [2] rfl)
                          · have hf := kneg hc hf
                            refine lv_aload_n hx hb dX10_copy_68 rfl (lv_at hl 2 rfl) ?_
                            refine lv_iconst (v := 4) hx hb dX10_copy_69 (by decide) ?_
                            obtain ⟨v70, f_finding_70, hc70, hf⟩ := cb2_some hf
                            refine kcMV (q0 := 0) (ci := 10) (As := [.int 4]) (rest := []) (st1 := [.int v70]) (wf := (w_ND_copy ct a_this a_texts a_names a_pieces a_song a_fitting a_deal a_guesses a_wise a_spy a_sheets a_sheets0 a_sheets1 a_sheets2 a_sheets3 a_sheets0_items a_sheets1_items a_sheets2_items a_sheets3_items f_stale f_finding_70 f_sheets0_form f_sheets0_size f_sheets0_items f_sheets1_form f_sheets1_size f_sheets1_items f_sheets2_form f_sheets2_size f_sheets2_items f_sheets3_form f_sheets3_size f_sheets3_items)) C (c_ND_found l D ct a_this a_texts a_names a_pieces a_song a_fitting a_deal a_guesses a_wise a_spy a_sheets f_stale f_finding 4 v70 f_finding_70 _ hc70) ⟨rfl, rfl⟩ yn_yX10_found tw_558 tw_10 tw_556 ⟨Nat.le_of_ble_eq_true rfl, Nat.le_of_ble_eq_true rfl⟩ ⟨Nat.zero_le _, Nat.zero_le _⟩ hP hD hS hA [0] [1, 2, 3, 4, 5, 6, 7, 8, 9] [9, 0, 1, 2, 3, 4, 5, 6, 7, 8] rfl rfl rfl rfl rfl (by decide) rfl rfl rfl rfl rfl rfl hl.1 rfl rfl (Nat.le_of_ble_eq_true rfl) dX10_copy_70 rfl (fun H locs hP hD hS => ?_)
                            obtain ⟨e1, e2, e3, e4, e5, e6⟩ := ti6 hf
                            subst e1; subst e2; subst e3; subst e4; subst e5; subst e6
                            exact kretM C hP hD hS dX10_copy_73
                        · have hf := kneg hc hf
                          exact t_ND_copy_b49v0 C hA a_this a_texts a_names a_pieces a_song a_fitting a_deal a_guesses a_wise a_spy a_sheets a_sheets0 a_sheets1 a_sheets2 a_sheets3 a_sheets0_items a_sheets1_items a_sheets2_items a_sheets3_items f_stale f_sheets0_form f_sheets0_size f_sheets1_form f_sheets1_size f_sheets2_form f_sheets2_size f_sheets3_form f_sheets3_size x1 x2 x3 x4 x5 r r_finding r_sheets0_items r_sheets1_items r_sheets2_items r_sheets3_items hs_1 hs_3 f_finding f_sheets0_items f_sheets1_items f_sheets2_items f_sheets3_items hf _ _ hP hD hS _ (lv_sub hl [2] rfl)
                    · have hf := kneg hs_3 hf
                      cases hf
            · have hf := kneg hs_1 hf
              cases hf
    · have hf := kpos hc hf
      refine lv_bipush (v := (-2)) hx hb dX10_copy_14 (by decide) ?_
      obtain ⟨e1, e2, e3, e4, e5, e6⟩ := ti6 hf
      subst e1; subst e2; subst e3; subst e4; subst e5; subst e6
      exact kretM C hP hD hS dX10_copy_16
