def RM_Na_faultPlace : Room := { frames := 0, cells := 0, slots := 0, locals := 0 }
set_option maxHeartbeats 4000000 in
set_option maxRecDepth 100000 in
theorem c_Na_faultPlace (l : Launch) (D : va_G) (ct : Nat → ClassId) (a_this a_odds a_lengths a_letters a_alike a_oddsTogether : Nat) (f_size : Int32) (f_fault : Int32) (r : Int32) (hf : Na_faultPlace f_fault = some r) : Met l yX3_faultPlace (WS yX3_faultPlace cX3_faultPlace 1 (some .int)) RM_Na_faultPlace (va_Pc [.ref a_this] (PR D ct (w_Na_faultPlace ct a_this a_odds a_lengths a_letters a_alike a_oddsTogether f_size f_fault))) (QR (some (.int r))) 0 0 (fun _ => False) := by
  refine kMetR yn_yX3_faultPlace rfl (Nat.le_of_ble_eq_true rfl) ?_
  intro p e s m args below meth c C hP ls hl
  have hl : lv_has ls 1 [(0, .ref a_this)] := hl
  obtain ⟨hx, hb, hr, hml, hown, hts, hlk, hK, hN⟩ := id C
  unfold Na_faultPlace at hf
  refine lv_aload_n hx hb dX3_faultPlace_0 rfl (lv_at hl 0 rfl) ?_
  refine va_get (ci := 3) (v := .int f_fault) (C := RX3) (T := TX3) (N := 7) hx hb hts inX3 hown hK hP 0 rfl rfl 6 (by decide) (hts _ tw_125) (fun _ h9 => h9) rfl dX3_faultPlace_1 ?_
  have e1 := Option.some.inj hf
  subst e1
  exact kretR C dX3_faultPlace_4
def RM_Pi_faultPlace : Room := { frames := 0, cells := 0, slots := 0, locals := 0 }
set_option maxHeartbeats 4000000 in
set_option maxRecDepth 100000 in
theorem c_Pi_faultPlace (l : Launch) (D : va_G) (ct : Nat → ClassId) (a_this a_inside a_lengths a_letters : Nat) (f_size : Int32) (f_fault : Int32) (r : Int32) (hf : Pi_faultPlace f_fault = some r) : Met l yX4_faultPlace (WS yX4_faultPlace cX4_faultPlace 1 (some .int)) RM_Pi_faultPlace (va_Pc [.ref a_this] (PR D ct (w_Pi_faultPlace ct a_this a_inside a_lengths a_letters f_size f_fault))) (QR (some (.int r))) 0 0 (fun _ => False) := by
  refine kMetR yn_yX4_faultPlace rfl (Nat.le_of_ble_eq_true rfl) ?_
  intro p e s m args below meth c C hP ls hl
  have hl : lv_has ls 1 [(0, .ref a_this)] := hl
  obtain ⟨hx, hb, hr, hml, hown, hts, hlk, hK, hN⟩ := id C
  unfold Pi_faultPlace at hf
  refine lv_aload_n hx hb dX4_faultPlace_0 rfl (lv_at hl 0 rfl) ?_
  refine va_get (ci := 4) (v := .int f_fault) (C := RX4) (T := TX4) (N := 5) hx hb hts inX4 hown hK hP 0 rfl rfl 4 (by decide) (hts _ tw_151) (fun _ h9 => h9) rfl dX4_faultPlace_1 ?_
  have e1 := Option.some.inj hf
  subst e1
  exact kretR C dX4_faultPlace_4
def RM_So_faultPlace : Room := { frames := 0, cells := 0, slots := 0, locals := 0 }
set_option maxHeartbeats 4000000 in
set_option maxRecDepth 100000 in
theorem c_So_faultPlace (l : Launch) (D : va_G) (ct : Nat → ClassId) (a_this a_letters : Nat) (f_size : Int32) (f_fault : Int32) (r : Int32) (hf : So_faultPlace f_fault = some r) : Met l yX6_faultPlace (WS yX6_faultPlace cX6_faultPlace 1 (some .int)) RM_So_faultPlace (va_Pc [.ref a_this] (PR D ct (w_So_faultPlace ct a_this a_letters f_size f_fault))) (QR (some (.int r))) 0 0 (fun _ => False) := by
  refine kMetR yn_yX6_faultPlace rfl (Nat.le_of_ble_eq_true rfl) ?_
  intro p e s m args below meth c C hP ls hl
  have hl : lv_has ls 1 [(0, .ref a_this)] := hl
  obtain ⟨hx, hb, hr, hml, hown, hts, hlk, hK, hN⟩ := id C
  unfold So_faultPlace at hf
  refine lv_aload_n hx hb dX6_faultPlace_0 rfl (lv_at hl 0 rfl) ?_
  refine va_get (ci := 6) (v := .int f_fault) (C := RX6) (T := TX6) (N := 3) hx hb hts inX6 hown hK hP 0 rfl rfl 2 (by decide) (hts _ tw_172) (fun _ h9 => h9) rfl dX6_faultPlace_1 ?_
  have e1 := Option.some.inj hf
  subst e1
  exact kretR C dX6_faultPlace_4
def RM_ND_fault : Room := { frames := 5, cells := 0, slots := 0, locals := 117 }
set_option maxHeartbeats 4000000 in
set_option maxRecDepth 100000 in
theorem c_ND_fault (l : Launch) (D : va_G) (ct : Nat → ClassId) (a_this a_texts a_names a_pieces a_song a_fitting a_deal a_guesses a_wise a_spy a_sheets a_texts0 a_texts1 a_texts2 a_texts0_bytes a_texts1_bytes a_texts2_bytes a_names_odds a_names_lengths a_names_letters a_names_alike a_names_oddsTogether a_pieces_inside a_pieces_lengths a_pieces_letters a_song_letters a_fitting_pieceFits a_fitting_inOrder : Nat) (f_finding : Int32) (F : Nat) (f_texts0_size : Int32) (f_texts0_bytes : Nat → Int32) (f_texts1_size : Int32) (f_texts1_bytes : Nat → Int32) (f_texts2_size : Int32) (f_texts2_bytes : Nat → Int32) (f_stale : Int32) (f_names_size : Int32) (f_names_fault : Int32) (f_names_odds : Nat → Int32) (f_names_lengths : Nat → Int32) (f_names_letters : Nat → Int32) (f_names_alike : Nat → Int32) (f_names_oddsTogether : Nat → Int32) (f_pieces_size : Int32) (f_pieces_fault : Int32) (f_pieces_inside : Nat → Int32) (f_pieces_lengths : Nat → Int32) (f_pieces_letters : Nat → Int32) (f_song_size : Int32) (f_song_fault : Int32) (f_song_letters : Nat → Int32) (f_fitting_pieceCount : Int32) (f_fitting_songFits : Int32) (f_fitting_allFit : Int32) (f_fitting_ordered : Int32) (f_fitting_pieceFits : Nat → Int32) (f_fitting_inOrder : Nat → Int32) (x1 : Int32) (r : Int32) (r_stale : Int32) (r_names_size : Int32) (r_names_fault : Int32) (r_names_odds : Nat → Int32) (r_names_lengths : Nat → Int32) (r_names_letters : Nat → Int32) (r_names_alike : Nat → Int32) (r_names_oddsTogether : Nat → Int32) (r_pieces_size : Int32) (r_pieces_fault : Int32) (r_pieces_inside : Nat → Int32) (r_pieces_lengths : Nat → Int32) (r_pieces_letters : Nat → Int32) (r_song_size : Int32) (r_song_fault : Int32) (r_song_letters : Nat → Int32) (r_fitting_pieceCount : Int32) (r_fitting_songFits : Int32) (r_fitting_allFit : Int32) (r_fitting_ordered : Int32) (r_fitting_pieceFits : Nat → Int32) (r_fitting_inOrder : Nat → Int32) (sz : Nat) (hf : ND_fault F f_texts0_size f_texts0_bytes f_texts1_size f_texts1_bytes f_texts2_size f_texts2_bytes f_stale f_names_size f_names_fault f_names_odds f_names_lengths f_names_letters f_names_alike f_names_oddsTogether f_pieces_size f_pieces_fault f_pieces_inside f_pieces_lengths f_pieces_letters f_song_size f_song_fault f_song_letters f_fitting_pieceCount f_fitting_songFits f_fitting_allFit f_fitting_ordered f_fitting_pieceFits f_fitting_inOrder x1 = some (r, r_stale, r_names_size, r_names_fault, r_names_odds, r_names_lengths, r_names_letters, r_names_alike, r_names_oddsTogether, r_pieces_size, r_pieces_fault, r_pieces_inside, r_pieces_lengths, r_pieces_letters, r_song_size, r_song_fault, r_song_letters, r_fitting_pieceCount, r_fitting_songFits, r_fitting_allFit, r_fitting_ordered, r_fitting_pieceFits, r_fitting_inOrder)) : Met l yX10_fault (WS yX10_fault cX10_fault 2 (some .int)) RM_ND_fault (va_Pc [.ref a_this, .int x1] (PM D ct sz (w_ND_fault ct a_this a_texts a_names a_pieces a_song a_fitting a_deal a_guesses a_wise a_spy a_sheets a_texts0 a_texts1 a_texts2 a_texts0_bytes a_texts1_bytes a_texts2_bytes a_names_odds a_names_lengths a_names_letters a_names_alike a_names_oddsTogether a_pieces_inside a_pieces_lengths a_pieces_letters a_song_letters a_fitting_pieceFits a_fitting_inOrder f_stale f_finding f_texts0_size f_texts0_bytes f_texts1_size f_texts1_bytes f_texts2_size f_texts2_bytes f_names_size f_names_fault f_names_odds f_names_lengths f_names_letters f_names_alike f_names_oddsTogether f_pieces_size f_pieces_fault f_pieces_inside f_pieces_lengths f_pieces_letters f_song_size f_song_fault f_song_letters f_fitting_pieceCount f_fitting_songFits f_fitting_allFit f_fitting_ordered f_fitting_pieceFits f_fitting_inOrder))) (QM D (some (.int r)) (w_ND_fault ct a_this a_texts a_names a_pieces a_song a_fitting a_deal a_guesses a_wise a_spy a_sheets a_texts0 a_texts1 a_texts2 a_texts0_bytes a_texts1_bytes a_texts2_bytes a_names_odds a_names_lengths a_names_letters a_names_alike a_names_oddsTogether a_pieces_inside a_pieces_lengths a_pieces_letters a_song_letters a_fitting_pieceFits a_fitting_inOrder r_stale f_finding f_texts0_size f_texts0_bytes f_texts1_size f_texts1_bytes f_texts2_size f_texts2_bytes r_names_size r_names_fault r_names_odds r_names_lengths r_names_letters r_names_alike r_names_oddsTogether r_pieces_size r_pieces_fault r_pieces_inside r_pieces_lengths r_pieces_letters r_song_size r_song_fault r_song_letters r_fitting_pieceCount r_fitting_songFits r_fitting_allFit r_fitting_ordered r_fitting_pieceFits r_fitting_inOrder) (va_A (w_ND_fault ct a_this a_texts a_names a_pieces a_song a_fitting a_deal a_guesses a_wise a_spy a_sheets a_texts0 a_texts1 a_texts2 a_texts0_bytes a_texts1_bytes a_texts2_bytes a_names_odds a_names_lengths a_names_letters a_names_alike a_names_oddsTogether a_pieces_inside a_pieces_lengths a_pieces_letters a_song_letters a_fitting_pieceFits a_fitting_inOrder f_stale f_finding f_texts0_size f_texts0_bytes f_texts1_size f_texts1_bytes f_texts2_size f_texts2_bytes f_names_size f_names_fault f_names_odds f_names_lengths f_names_letters f_names_alike f_names_oddsTogether f_pieces_size f_pieces_fault f_pieces_inside f_pieces_lengths f_pieces_letters f_song_size f_song_fault f_song_letters f_fitting_pieceCount f_fitting_songFits f_fitting_allFit f_fitting_ordered f_fitting_pieceFits f_fitting_inOrder) sz)) 0 0 (va_A (w_ND_fault ct a_this a_texts a_names a_pieces a_song a_fitting a_deal a_guesses a_wise a_spy a_sheets a_texts0 a_texts1 a_texts2 a_texts0_bytes a_texts1_bytes a_texts2_bytes a_names_odds a_names_lengths a_names_letters a_names_alike a_names_oddsTogether a_pieces_inside a_pieces_lengths a_pieces_letters a_song_letters a_fitting_pieceFits a_fitting_inOrder f_stale f_finding f_texts0_size f_texts0_bytes f_texts1_size f_texts1_bytes f_texts2_size f_texts2_bytes f_names_size f_names_fault f_names_odds f_names_lengths f_names_letters f_names_alike f_names_oddsTogether f_pieces_size f_pieces_fault f_pieces_inside f_pieces_lengths f_pieces_letters f_song_size f_song_fault f_song_letters f_fitting_pieceCount f_fitting_songFits f_fitting_allFit f_fitting_ordered f_fitting_pieceFits f_fitting_inOrder) sz) := by
  refine kMetM yn_yX10_fault rfl (Nat.le_of_ble_eq_true rfl) ?_
  intro p e s m args below meth c A C hA hP hD ls hl
  have hl : lv_has ls 2 [(0, .ref a_this), (1, .int x1)] := hl
  have hS : va_S A s.heap s.heap [] := va_S.rf
  obtain ⟨hx, hb, hr, hml, hown, hts, hlk, hK, hN⟩ := id C
  unfold ND_fault at hf
  refine lv_iload_n hx hb dX10_fault_0 rfl (lv_at hl 1 rfl) ?_
  obtain ⟨v1, hc1, hf⟩ := cb1_some hf
  refine kcRS (As := [.int x1]) (rest := []) (st1 := [.int v1]) C (c_ND_isText l D ct x1 v1 hc1) ⟨rfl, rfl⟩ yn_yX10_isText tw_325 tw_324 ⟨Nat.le_of_ble_eq_true rfl, Nat.le_of_ble_eq_true rfl⟩ ⟨Nat.zero_le _, Nat.zero_le _⟩ hP [] rfl hl.1 rfl rfl (Nat.le_of_ble_eq_true rfl) dX10_fault_1 rfl ?_
  refine lv_if_ne (tgt := 10) hx hb dX10_fault_4 (by decide) (fun hc => ?_) (fun hc => ?_)
  · have hf := kneg hc hf
    refine lv_aload_n hx hb dX10_fault_10 rfl (lv_at hl 0 rfl) ?_
    obtain ⟨f_stale_11, f_names_size_11, f_names_fault_11, f_names_odds_11, f_names_lengths_11, f_names_letters_11, f_names_alike_11, f_names_oddsTogether_11, f_pieces_size_11, f_pieces_fault_11, f_pieces_inside_11, f_pieces_lengths_11, f_pieces_letters_11, f_song_size_11, f_song_fault_11, f_song_letters_11, f_fitting_pieceCount_11, f_fitting_songFits_11, f_fitting_allFit_11, f_fitting_ordered_11, f_fitting_pieceFits_11, f_fitting_inOrder_11, hc11, hf⟩ := cb22_some hf
    refine kcMV (q0 := 0) (ci := 10) (As := []) (rest := []) (st1 := []) (wf := (w_ND_fault ct a_this a_texts a_names a_pieces a_song a_fitting a_deal a_guesses a_wise a_spy a_sheets a_texts0 a_texts1 a_texts2 a_texts0_bytes a_texts1_bytes a_texts2_bytes a_names_odds a_names_lengths a_names_letters a_names_alike a_names_oddsTogether a_pieces_inside a_pieces_lengths a_pieces_letters a_song_letters a_fitting_pieceFits a_fitting_inOrder f_stale_11 f_finding f_texts0_size f_texts0_bytes f_texts1_size f_texts1_bytes f_texts2_size f_texts2_bytes f_names_size_11 f_names_fault_11 f_names_odds_11 f_names_lengths_11 f_names_letters_11 f_names_alike_11 f_names_oddsTogether_11 f_pieces_size_11 f_pieces_fault_11 f_pieces_inside_11 f_pieces_lengths_11 f_pieces_letters_11 f_song_size_11 f_song_fault_11 f_song_letters_11 f_fitting_pieceCount_11 f_fitting_songFits_11 f_fitting_allFit_11 f_fitting_ordered_11 f_fitting_pieceFits_11 f_fitting_inOrder_11)) C (c_ND_refresh l D ct a_this a_texts a_names a_pieces a_song a_fitting a_deal a_guesses a_wise a_spy a_sheets a_texts0 a_texts1 a_texts2 a_texts0_bytes a_texts1_bytes a_texts2_bytes a_names_odds a_names_lengths a_names_letters a_names_alike a_names_oddsTogether a_pieces_inside a_pieces_lengths a_pieces_letters a_song_letters a_fitting_pieceFits a_fitting_inOrder f_finding F f_texts0_size f_texts0_bytes f_texts1_size f_texts1_bytes f_texts2_size f_texts2_bytes f_stale f_names_size f_names_fault f_names_odds f_names_lengths f_names_letters f_names_alike f_names_oddsTogether f_pieces_size f_pieces_fault f_pieces_inside f_pieces_lengths f_pieces_letters f_song_size f_song_fault f_song_letters f_fitting_pieceCount f_fitting_songFits f_fitting_allFit f_fitting_ordered f_fitting_pieceFits f_fitting_inOrder f_stale_11 f_names_size_11 f_names_fault_11 f_names_odds_11 f_names_lengths_11 f_names_letters_11 f_names_alike_11 f_names_oddsTogether_11 f_pieces_size_11 f_pieces_fault_11 f_pieces_inside_11 f_pieces_lengths_11 f_pieces_letters_11 f_song_size_11 f_song_fault_11 f_song_letters_11 f_fitting_pieceCount_11 f_fitting_songFits_11 f_fitting_allFit_11 f_fitting_ordered_11 f_fitting_pieceFits_11 f_fitting_inOrder_11 _ hc11) ⟨rfl, rfl⟩ yn_yX10_refresh tw_373 tw_1 tw_371 ⟨Nat.le_of_ble_eq_true rfl, Nat.le_of_ble_eq_true rfl⟩ ⟨Nat.zero_le _, Nat.zero_le _⟩ hP hD hS hA [0, 1, 2, 3, 4, 5, 6, 7, 8, 9, 10, 11, 12, 13, 14, 15, 16, 17, 18, 19, 20, 21, 22] [] [0, 1, 2, 3, 4, 5, 6, 7, 8, 9, 10, 11, 12, 13, 14, 15, 16, 17, 18, 19, 20, 21, 22] rfl rfl rfl rfl rfl (by decide) rfl rfl rfl rfl rfl rfl hl.1 rfl rfl (Nat.le_of_ble_eq_true rfl) dX10_fault_11 rfl (fun H locs hP hD hS => ?_)
    refine lv_iload_n hx hb dX10_fault_14 rfl (lv_at hl 1 rfl) ?_
    refine lv_if_ne (tgt := 26) hx hb dX10_fault_15 (by decide) (fun hc => ?_) (fun hc => ?_)
    · have hf := kneg hc hf
      refine lv_iload_n hx hb dX10_fault_26 rfl (lv_at hl 1 rfl) ?_
      refine lv_iconst (v := 1) hx hb dX10_fault_27 (by decide) ?_
      refine lv_icmp_ne (tgt := 41) hx hb dX10_fault_28 (by decide) (fun hc => ?_) (fun hc => ?_)
      · have hf := kneg hc hf
        refine lv_aload_n hx hb dX10_fault_41 rfl (lv_at hl 0 rfl) ?_
        refine va_get (ci := 10) (v := .ref a_song) (C := RX10) (T := TX10) (N := 12) hx hb hts inX10 hown hK hP 0 rfl rfl 3 (by decide) (hts _ tw_286) (fun _ h9 => h9) rfl dX10_fault_42 ?_
        obtain ⟨v45, hc45, hf⟩ := cb1_some hf
        refine kcRV (q0 := 18) (ci := 6) (As := []) (rest := []) (st1 := [.int v45]) C (c_So_faultPlace l D ct a_song a_song_letters f_song_size_11 f_song_fault_11 v45 hc45) ⟨rfl, rfl⟩ yn_yX6_faultPlace tw_488 tw_489 tw_487 ⟨Nat.le_of_ble_eq_true rfl, Nat.le_of_ble_eq_true rfl⟩ ⟨Nat.zero_le _, Nat.zero_le _⟩ hP [18] rfl rfl rfl rfl hl.1 rfl rfl (Nat.le_of_ble_eq_true rfl) dX10_fault_45 rfl ?_
        obtain ⟨e1, e2, e3, e4, e5, e6, e7, e8, e9, e10, e11, e12, e13, e14, e15, e16, e17, e18, e19, e20, e21, e22, e23⟩ := ti23 hf
        subst e1; subst e2; subst e3; subst e4; subst e5; subst e6; subst e7; subst e8; subst e9; subst e10; subst e11; subst e12; subst e13; subst e14; subst e15; subst e16; subst e17; subst e18; subst e19; subst e20; subst e21; subst e22; subst e23
        exact kretM C hP hD hS dX10_fault_48
      · have hf := kpos hc hf
        refine lv_aload_n hx hb dX10_fault_31 rfl (lv_at hl 0 rfl) ?_
        refine va_get (ci := 10) (v := .ref a_pieces) (C := RX10) (T := TX10) (N := 12) hx hb hts inX10 hown hK hP 0 rfl rfl 2 (by decide) (hts _ tw_285) (fun _ h9 => h9) rfl dX10_fault_32 ?_
        obtain ⟨v35, hc35, hf⟩ := cb1_some hf
        refine kcRV (q0 := 14) (ci := 4) (As := []) (rest := []) (st1 := [.int v35]) C (c_Pi_faultPlace l D ct a_pieces a_pieces_inside a_pieces_lengths a_pieces_letters f_pieces_size_11 f_pieces_fault_11 v35 hc35) ⟨rfl, rfl⟩ yn_yX4_faultPlace tw_484 tw_485 tw_483 ⟨Nat.le_of_ble_eq_true rfl, Nat.le_of_ble_eq_true rfl⟩ ⟨Nat.zero_le _, Nat.zero_le _⟩ hP [14] rfl rfl rfl rfl hl.1 rfl rfl (Nat.le_of_ble_eq_true rfl) dX10_fault_35 rfl ?_
        refine lv_goto (tgt := 48) hx hb dX10_fault_38 (by decide) ?_
        obtain ⟨e1, e2, e3, e4, e5, e6, e7, e8, e9, e10, e11, e12, e13, e14, e15, e16, e17, e18, e19, e20, e21, e22, e23⟩ := ti23 hf
        subst e1; subst e2; subst e3; subst e4; subst e5; subst e6; subst e7; subst e8; subst e9; subst e10; subst e11; subst e12; subst e13; subst e14; subst e15; subst e16; subst e17; subst e18; subst e19; subst e20; subst e21; subst e22; subst e23
        exact kretM C hP hD hS dX10_fault_48
    · have hf := kpos hc hf
      refine lv_aload_n hx hb dX10_fault_18 rfl (lv_at hl 0 rfl) ?_
      refine va_get (ci := 10) (v := .ref a_names) (C := RX10) (T := TX10) (N := 12) hx hb hts inX10 hown hK hP 0 rfl rfl 1 (by decide) (hts _ tw_284) (fun _ h9 => h9) rfl dX10_fault_19 ?_
      obtain ⟨v22, hc22, hf⟩ := cb1_some hf
      refine kcRV (q0 := 8) (ci := 3) (As := []) (rest := []) (st1 := [.int v22]) C (c_Na_faultPlace l D ct a_names a_names_odds a_names_lengths a_names_letters a_names_alike a_names_oddsTogether f_names_size_11 f_names_fault_11 v22 hc22) ⟨rfl, rfl⟩ yn_yX3_faultPlace tw_480 tw_481 tw_479 ⟨Nat.le_of_ble_eq_true rfl, Nat.le_of_ble_eq_true rfl⟩ ⟨Nat.zero_le _, Nat.zero_le _⟩ hP [8] rfl rfl rfl rfl hl.1 rfl rfl (Nat.le_of_ble_eq_true rfl) dX10_fault_22 rfl ?_
      obtain ⟨e1, e2, e3, e4, e5, e6, e7, e8, e9, e10, e11, e12, e13, e14, e15, e16, e17, e18, e19, e20, e21, e22, e23⟩ := ti23 hf
      subst e1; subst e2; subst e3; subst e4; subst e5; subst e6; subst e7; subst e8; subst e9; subst e10; subst e11; subst e12; subst e13; subst e14; subst e15; subst e16; subst e17; subst e18; subst e19; subst e20; subst e21; subst e22; subst e23
      exact kretM C hP hD hS dX10_fault_25
  · have hf := kpos hc hf
    refine lv_bipush (v := (-2)) hx hb dX10_fault_7 (by decide) ?_
    obtain ⟨e1, e2, e3, e4, e5, e6, e7, e8, e9, e10, e11, e12, e13, e14, e15, e16, e17, e18, e19, e20, e21, e22, e23⟩ := ti23 hf
    subst e1; subst e2; subst e3; subst e4; subst e5; subst e6; subst e7; subst e8; subst e9; subst e10; subst e11; subst e12; subst e13; subst e14; subst e15; subst e16; subst e17; subst e18; subst e19; subst e20; subst e21; subst e22; subst e23
    exact kretM C hP hD hS dX10_fault_9
def RM_Na_has : Room := { frames := 0, cells := 0, slots := 0, locals := 0 }
set_option maxHeartbeats 4000000 in
set_option maxRecDepth 100000 in
theorem c_Na_has (l : Launch) (D : va_G) (ct : Nat → ClassId) (a_this a_odds a_lengths a_letters a_alike a_oddsTogether : Nat) (f_fault : Int32) (f_size : Int32) (x1 : Int32) (r : Int32) (hf : Na_has f_size x1 = some r) : Met l yX3_has (WS yX3_has cX3_has 2 (some .boolean)) RM_Na_has (va_Pc [.ref a_this, .int x1] (PR D ct (w_Na_has ct a_this a_odds a_lengths a_letters a_alike a_oddsTogether f_size f_fault))) (QR (some (.int r))) 0 0 (fun _ => False) := by
  refine kMetR yn_yX3_has rfl (Nat.le_of_ble_eq_true rfl) ?_
  intro p e s m args below meth c C hP ls hl
  have hl : lv_has ls 2 [(0, .ref a_this), (1, .int x1)] := hl
  obtain ⟨hx, hb, hr, hml, hown, hts, hlk, hK, hN⟩ := id C
  unfold Na_has at hf
  refine lv_iload_n hx hb dX3_has_0 rfl (lv_at hl 1 rfl) ?_
  refine lv_if_lt (tgt := 16) hx hb dX3_has_1 (by decide) (fun hc => ?_) (fun hc => ?_)
  · have hf := kpos hc hf
    refine lv_iconst (v := 0) hx hb dX3_has_16 (by decide) ?_
    have e1 := Option.some.inj hf
    subst e1
    exact kretRz C (by decide) dX3_has_17
  · have hf := kneg hc hf
    refine lv_iload_n hx hb dX3_has_4 rfl (lv_at hl 1 rfl) ?_
    refine lv_aload_n hx hb dX3_has_5 rfl (lv_at hl 0 rfl) ?_
    refine va_get (ci := 3) (v := .int f_size) (C := RX3) (T := TX3) (N := 7) hx hb hts inX3 hown hK hP 0 rfl rfl 5 (by decide) (hts _ tw_124) (fun _ h9 => h9) rfl dX3_has_6 ?_
    refine lv_icmp_ge (tgt := 16) hx hb dX3_has_9 (by decide) (fun hc => ?_) (fun hc => ?_)
    · have hf := kpos hc hf
      refine lv_iconst (v := 0) hx hb dX3_has_16 (by decide) ?_
      have e1 := Option.some.inj hf
      subst e1
      exact kretRz C (by decide) dX3_has_17
    · have hf := kneg hc hf
      refine lv_iconst (v := 1) hx hb dX3_has_12 (by decide) ?_
      refine lv_goto (tgt := 17) hx hb dX3_has_13 (by decide) ?_
      have e1 := Option.some.inj hf
      subst e1
      exact kretRz C (by decide) dX3_has_17
def RM_ND_name : Room := { frames := 5, cells := 0, slots := 0, locals := 117 }
set_option maxHeartbeats 4000000 in
set_option maxRecDepth 100000 in
theorem c_ND_name (l : Launch) (D : va_G) (ct : Nat → ClassId) (a_this a_texts a_names a_pieces a_song a_fitting a_deal a_guesses a_wise a_spy a_sheets a_texts0 a_texts1 a_texts2 a_texts0_bytes a_texts1_bytes a_texts2_bytes a_names_odds a_names_lengths a_names_letters a_names_alike a_names_oddsTogether a_pieces_inside a_pieces_lengths a_pieces_letters a_song_letters a_fitting_pieceFits a_fitting_inOrder : Nat) (f_finding : Int32) (F : Nat) (f_texts0_size : Int32) (f_texts0_bytes : Nat → Int32) (f_texts1_size : Int32) (f_texts1_bytes : Nat → Int32) (f_texts2_size : Int32) (f_texts2_bytes : Nat → Int32) (f_stale : Int32) (f_names_size : Int32) (f_names_fault : Int32) (f_names_odds : Nat → Int32) (f_names_lengths : Nat → Int32) (f_names_letters : Nat → Int32) (f_names_alike : Nat → Int32) (f_names_oddsTogether : Nat → Int32) (f_pieces_size : Int32) (f_pieces_fault : Int32) (f_pieces_inside : Nat → Int32) (f_pieces_lengths : Nat → Int32) (f_pieces_letters : Nat → Int32) (f_song_size : Int32) (f_song_fault : Int32) (f_song_letters : Nat → Int32) (f_fitting_pieceCount : Int32) (f_fitting_songFits : Int32) (f_fitting_allFit : Int32) (f_fitting_ordered : Int32) (f_fitting_pieceFits : Nat → Int32) (f_fitting_inOrder : Nat → Int32) (x1 : Int32) (x2 : Int32) (r : Int32) (r_stale : Int32) (r_names_size : Int32) (r_names_fault : Int32) (r_names_odds : Nat → Int32) (r_names_lengths : Nat → Int32) (r_names_letters : Nat → Int32) (r_names_alike : Nat → Int32) (r_names_oddsTogether : Nat → Int32) (r_pieces_size : Int32) (r_pieces_fault : Int32) (r_pieces_inside : Nat → Int32) (r_pieces_lengths : Nat → Int32) (r_pieces_letters : Nat → Int32) (r_song_size : Int32) (r_song_fault : Int32) (r_song_letters : Nat → Int32) (r_fitting_pieceCount : Int32) (r_fitting_songFits : Int32) (r_fitting_allFit : Int32) (r_fitting_ordered : Int32) (r_fitting_pieceFits : Nat → Int32) (r_fitting_inOrder : Nat → Int32) (sz : Nat) (hf : ND_name F f_texts0_size f_texts0_bytes f_texts1_size f_texts1_bytes f_texts2_size f_texts2_bytes f_stale f_names_size f_names_fault f_names_odds f_names_lengths f_names_letters f_names_alike f_names_oddsTogether f_pieces_size f_pieces_fault f_pieces_inside f_pieces_lengths f_pieces_letters f_song_size f_song_fault f_song_letters f_fitting_pieceCount f_fitting_songFits f_fitting_allFit f_fitting_ordered f_fitting_pieceFits f_fitting_inOrder x1 x2 = some (r, r_stale, r_names_size, r_names_fault, r_names_odds, r_names_lengths, r_names_letters, r_names_alike, r_names_oddsTogether, r_pieces_size, r_pieces_fault, r_pieces_inside, r_pieces_lengths, r_pieces_letters, r_song_size, r_song_fault, r_song_letters, r_fitting_pieceCount, r_fitting_songFits, r_fitting_allFit, r_fitting_ordered, r_fitting_pieceFits, r_fitting_inOrder)) : Met l yX10_name (WS yX10_name cX10_name 3 (some .int)) RM_ND_name (va_Pc [.ref a_this, .int x1, .int x2] (PM D ct sz (w_ND_name ct a_this a_texts a_names a_pieces a_song a_fitting a_deal a_guesses a_wise a_spy a_sheets a_texts0 a_texts1 a_texts2 a_texts0_bytes a_texts1_bytes a_texts2_bytes a_names_odds a_names_lengths a_names_letters a_names_alike a_names_oddsTogether a_pieces_inside a_pieces_lengths a_pieces_letters a_song_letters a_fitting_pieceFits a_fitting_inOrder f_stale f_finding f_texts0_size f_texts0_bytes f_texts1_size f_texts1_bytes f_texts2_size f_texts2_bytes f_names_size f_names_fault f_names_odds f_names_lengths f_names_letters f_names_alike f_names_oddsTogether f_pieces_size f_pieces_fault f_pieces_inside f_pieces_lengths f_pieces_letters f_song_size f_song_fault f_song_letters f_fitting_pieceCount f_fitting_songFits f_fitting_allFit f_fitting_ordered f_fitting_pieceFits f_fitting_inOrder))) (QM D (some (.int r)) (w_ND_name ct a_this a_texts a_names a_pieces a_song a_fitting a_deal a_guesses a_wise a_spy a_sheets a_texts0 a_texts1 a_texts2 a_texts0_bytes a_texts1_bytes a_texts2_bytes a_names_odds a_names_lengths a_names_letters a_names_alike a_names_oddsTogether a_pieces_inside a_pieces_lengths a_pieces_letters a_song_letters a_fitting_pieceFits a_fitting_inOrder r_stale f_finding f_texts0_size f_texts0_bytes f_texts1_size f_texts1_bytes f_texts2_size f_texts2_bytes r_names_size r_names_fault r_names_odds r_names_lengths r_names_letters r_names_alike r_names_oddsTogether r_pieces_size r_pieces_fault r_pieces_inside r_pieces_lengths r_pieces_letters r_song_size r_song_fault r_song_letters r_fitting_pieceCount r_fitting_songFits r_fitting_allFit r_fitting_ordered r_fitting_pieceFits r_fitting_inOrder) (va_A (w_ND_name ct a_this a_texts a_names a_pieces a_song a_fitting a_deal a_guesses a_wise a_spy a_sheets a_texts0 a_texts1 a_texts2 a_texts0_bytes a_texts1_bytes a_texts2_bytes a_names_odds a_names_lengths a_names_letters a_names_alike a_names_oddsTogether a_pieces_inside a_pieces_lengths a_pieces_letters a_song_letters a_fitting_pieceFits a_fitting_inOrder f_stale f_finding f_texts0_size f_texts0_bytes f_texts1_size f_texts1_bytes f_texts2_size f_texts2_bytes f_names_size f_names_fault f_names_odds f_names_lengths f_names_letters f_names_alike f_names_oddsTogether f_pieces_size f_pieces_fault f_pieces_inside f_pieces_lengths f_pieces_letters f_song_size f_song_fault f_song_letters f_fitting_pieceCount f_fitting_songFits f_fitting_allFit f_fitting_ordered f_fitting_pieceFits f_fitting_inOrder) sz)) 0 0 (va_A (w_ND_name ct a_this a_texts a_names a_pieces a_song a_fitting a_deal a_guesses a_wise a_spy a_sheets a_texts0 a_texts1 a_texts2 a_texts0_bytes a_texts1_bytes a_texts2_bytes a_names_odds a_names_lengths a_names_letters a_names_alike a_names_oddsTogether a_pieces_inside a_pieces_lengths a_pieces_letters a_song_letters a_fitting_pieceFits a_fitting_inOrder f_stale f_finding f_texts0_size f_texts0_bytes f_texts1_size f_texts1_bytes f_texts2_size f_texts2_bytes f_names_size f_names_fault f_names_odds f_names_lengths f_names_letters f_names_alike f_names_oddsTogether f_pieces_size f_pieces_fault f_pieces_inside f_pieces_lengths f_pieces_letters f_song_size f_song_fault f_song_letters f_fitting_pieceCount f_fitting_songFits f_fitting_allFit f_fitting_ordered f_fitting_pieceFits f_fitting_inOrder) sz) := by
  refine kMetM yn_yX10_name rfl (Nat.le_of_ble_eq_true rfl) ?_
  intro p e s m args below meth c A C hA hP hD ls hl
  have hl : lv_has ls 3 [(0, .ref a_this), (1, .int x1), (2, .int x2)] := hl
  have hS : va_S A s.heap s.heap [] := va_S.rf
  obtain ⟨hx, hb, hr, hml, hown, hts, hlk, hK, hN⟩ := id C
  unfold ND_name at hf
  refine lv_aload_n hx hb dX10_name_0 rfl (lv_at hl 0 rfl) ?_
  obtain ⟨f_stale_1, f_names_size_1, f_names_fault_1, f_names_odds_1, f_names_lengths_1, f_names_letters_1, f_names_alike_1, f_names_oddsTogether_1, f_pieces_size_1, f_pieces_fault_1, f_pieces_inside_1, f_pieces_lengths_1, f_pieces_letters_1, f_song_size_1, f_song_fault_1, f_song_letters_1, f_fitting_pieceCount_1, f_fitting_songFits_1, f_fitting_allFit_1, f_fitting_ordered_1, f_fitting_pieceFits_1, f_fitting_inOrder_1, hc1, hf⟩ := cb22_some hf
  refine kcMV (q0 := 0) (ci := 10) (As := []) (rest := []) (st1 := []) (wf := (w_ND_name ct a_this a_texts a_names a_pieces a_song a_fitting a_deal a_guesses a_wise a_spy a_sheets a_texts0 a_texts1 a_texts2 a_texts0_bytes a_texts1_bytes a_texts2_bytes a_names_odds a_names_lengths a_names_letters a_names_alike a_names_oddsTogether a_pieces_inside a_pieces_lengths a_pieces_letters a_song_letters a_fitting_pieceFits a_fitting_inOrder f_stale_1 f_finding f_texts0_size f_texts0_bytes f_texts1_size f_texts1_bytes f_texts2_size f_texts2_bytes f_names_size_1 f_names_fault_1 f_names_odds_1 f_names_lengths_1 f_names_letters_1 f_names_alike_1 f_names_oddsTogether_1 f_pieces_size_1 f_pieces_fault_1 f_pieces_inside_1 f_pieces_lengths_1 f_pieces_letters_1 f_song_size_1 f_song_fault_1 f_song_letters_1 f_fitting_pieceCount_1 f_fitting_songFits_1 f_fitting_allFit_1 f_fitting_ordered_1 f_fitting_pieceFits_1 f_fitting_inOrder_1)) C (c_ND_refresh l D ct a_this a_texts a_names a_pieces a_song a_fitting a_deal a_guesses a_wise a_spy a_sheets a_texts0 a_texts1 a_texts2 a_texts0_bytes a_texts1_bytes a_texts2_bytes a_names_odds a_names_lengths a_names_letters a_names_alike a_names_oddsTogether a_pieces_inside a_pieces_lengths a_pieces_letters a_song_letters a_fitting_pieceFits a_fitting_inOrder f_finding F f_texts0_size f_texts0_bytes f_texts1_size f_texts1_bytes f_texts2_size f_texts2_bytes f_stale f_names_size f_names_fault f_names_odds f_names_lengths f_names_letters f_names_alike f_names_oddsTogether f_pieces_size f_pieces_fault f_pieces_inside f_pieces_lengths f_pieces_letters f_song_size f_song_fault f_song_letters f_fitting_pieceCount f_fitting_songFits f_fitting_allFit f_fitting_ordered f_fitting_pieceFits f_fitting_inOrder f_stale_1 f_names_size_1 f_names_fault_1 f_names_odds_1 f_names_lengths_1 f_names_letters_1 f_names_alike_1 f_names_oddsTogether_1 f_pieces_size_1 f_pieces_fault_1 f_pieces_inside_1 f_pieces_lengths_1 f_pieces_letters_1 f_song_size_1 f_song_fault_1 f_song_letters_1 f_fitting_pieceCount_1 f_fitting_songFits_1 f_fitting_allFit_1 f_fitting_ordered_1 f_fitting_pieceFits_1 f_fitting_inOrder_1 _ hc1) ⟨rfl, rfl⟩ yn_yX10_refresh tw_373 tw_1 tw_371 ⟨Nat.le_of_ble_eq_true rfl, Nat.le_of_ble_eq_true rfl⟩ ⟨Nat.zero_le _, Nat.zero_le _⟩ hP hD hS hA [0, 1, 2, 3, 4, 5, 6, 7, 8, 9, 10, 11, 12, 13, 14, 15, 16, 17, 18, 19, 20, 21, 22] [] [0, 1, 2, 3, 4, 5, 6, 7, 8, 9, 10, 11, 12, 13, 14, 15, 16, 17, 18, 19, 20, 21, 22] rfl rfl rfl rfl rfl (by decide) rfl rfl rfl rfl rfl rfl hl.1 rfl rfl (Nat.le_of_ble_eq_true rfl) dX10_name_1 rfl (fun H locs hP hD hS => ?_)
  refine lv_aload_n hx hb dX10_name_4 rfl (lv_at hl 0 rfl) ?_
  refine va_get (ci := 10) (v := .ref a_names) (C := RX10) (T := TX10) (N := 12) hx hb hts inX10 hown hK hP 0 rfl rfl 1 (by decide) (hts _ tw_284) (fun _ h9 => h9) rfl dX10_name_5 ?_
  refine lv_iload_n hx hb dX10_name_8 rfl (lv_at hl 1 rfl) ?_
  obtain ⟨v9, hc9, hf⟩ := cb1_some hf
  refine kcRV (q0 := 8) (ci := 3) (As := [.int x1]) (rest := []) (st1 := [.int v9]) C (c_Na_has l D ct a_names a_names_odds a_names_lengths a_names_letters a_names_alike a_names_oddsTogether f_names_fault_1 f_names_size_1 x1 v9 hc9) ⟨rfl, rfl⟩ yn_yX3_has tw_496 tw_497 tw_495 ⟨Nat.le_of_ble_eq_true rfl, Nat.le_of_ble_eq_true rfl⟩ ⟨Nat.zero_le _, Nat.zero_le _⟩ hP [8] rfl rfl rfl rfl hl.1 rfl rfl (Nat.le_of_ble_eq_true rfl) dX10_name_9 rfl ?_
  refine lv_if_eq (tgt := 27) hx hb dX10_name_12 (by decide) (fun hc => ?_) (fun hc => ?_)
  · have hf := kpos hc hf
    refine lv_bipush (v := (-2)) hx hb dX10_name_27 (by decide) ?_
    obtain ⟨e1, e2, e3, e4, e5, e6, e7, e8, e9, e10, e11, e12, e13, e14, e15, e16, e17, e18, e19, e20, e21, e22, e23⟩ := ti23 hf
    subst e1; subst e2; subst e3; subst e4; subst e5; subst e6; subst e7; subst e8; subst e9; subst e10; subst e11; subst e12; subst e13; subst e14; subst e15; subst e16; subst e17; subst e18; subst e19; subst e20; subst e21; subst e22; subst e23
    exact kretM C hP hD hS dX10_name_29
  · have hf := kneg hc hf
    refine lv_iload_n hx hb dX10_name_15 rfl (lv_at hl 2 rfl) ?_
    refine lv_bipush (v := (-2)) hx hb dX10_name_16 (by decide) ?_
    refine lv_icmp_lt (tgt := 27) hx hb dX10_name_18 (by decide) (fun hc => ?_) (fun hc => ?_)
    · have hf := kpos hc hf
      refine lv_bipush (v := (-2)) hx hb dX10_name_27 (by decide) ?_
      obtain ⟨e1, e2, e3, e4, e5, e6, e7, e8, e9, e10, e11, e12, e13, e14, e15, e16, e17, e18, e19, e20, e21, e22, e23⟩ := ti23 hf
      subst e1; subst e2; subst e3; subst e4; subst e5; subst e6; subst e7; subst e8; subst e9; subst e10; subst e11; subst e12; subst e13; subst e14; subst e15; subst e16; subst e17; subst e18; subst e19; subst e20; subst e21; subst e22; subst e23
      exact kretM C hP hD hS dX10_name_29
    · have hf := kneg hc hf
      refine lv_iload_n hx hb dX10_name_21 rfl (lv_at hl 2 rfl) ?_
      refine lv_bipush (v := 6) hx hb dX10_name_22 (by decide) ?_
      refine lv_icmp_lt (tgt := 30) hx hb dX10_name_24 (by decide) (fun hc => ?_) (fun hc => ?_)
      · have hf := kpos hc hf
        refine lv_iload_n hx hb dX10_name_30 rfl (lv_at hl 2 rfl) ?_
        refine lv_bipush (v := (-2)) hx hb dX10_name_31 (by decide) ?_
        refine lv_icmp_ne (tgt := 45) hx hb dX10_name_33 (by decide) (fun hc => ?_) (fun hc => ?_)
        · have hf := kneg hc hf
          refine lv_iload_n hx hb dX10_name_45 rfl (lv_at hl 2 rfl) ?_
          refine lv_iconst (v := (-1)) hx hb dX10_name_46 (by decide) ?_
          refine lv_icmp_ne (tgt := 61) hx hb dX10_name_47 (by decide) (fun hc => ?_) (fun hc => ?_)
          · have hf := kneg hc hf
            refine lv_aload_n hx hb dX10_name_61 rfl (lv_at hl 0 rfl) ?_
            refine va_get (ci := 10) (v := .ref a_names) (C := RX10) (T := TX10) (N := 12) hx hb hts inX10 hown hK hP 0 rfl rfl 1 (by decide) (hts _ tw_284) (fun _ h9 => h9) rfl dX10_name_62 ?_
            refine lv_iload_n hx hb dX10_name_65 rfl (lv_at hl 1 rfl) ?_
            refine lv_iload_n hx hb dX10_name_66 rfl (lv_at hl 2 rfl) ?_
            obtain ⟨v67, hc67, hf⟩ := cb1_some hf
            refine kcRV (q0 := 8) (ci := 3) (As := [.int x1, .int x2]) (rest := []) (st1 := [.int v67]) C (c_Na_letterAt l D ct a_names a_names_odds a_names_lengths a_names_letters a_names_alike a_names_oddsTogether f_names_fault_1 f_names_size_1 f_names_lengths_1 f_names_letters_1 x1 x2 v67 hc67) ⟨rfl, rfl⟩ yn_yX3_letterAt tw_403 tw_404 tw_501 ⟨Nat.le_of_ble_eq_true rfl, Nat.le_of_ble_eq_true rfl⟩ ⟨Nat.zero_le _, Nat.zero_le _⟩ hP [8, 10, 11] rfl rfl rfl rfl hl.1 rfl rfl (Nat.le_of_ble_eq_true rfl) dX10_name_67 rfl ?_
            obtain ⟨e1, e2, e3, e4, e5, e6, e7, e8, e9, e10, e11, e12, e13, e14, e15, e16, e17, e18, e19, e20, e21, e22, e23⟩ := ti23 hf
            subst e1; subst e2; subst e3; subst e4; subst e5; subst e6; subst e7; subst e8; subst e9; subst e10; subst e11; subst e12; subst e13; subst e14; subst e15; subst e16; subst e17; subst e18; subst e19; subst e20; subst e21; subst e22; subst e23
            exact kretM C hP hD hS dX10_name_70
          · have hf := kpos hc hf
            refine lv_aload_n hx hb dX10_name_50 rfl (lv_at hl 0 rfl) ?_
            refine va_get (ci := 10) (v := .ref a_names) (C := RX10) (T := TX10) (N := 12) hx hb hts inX10 hown hK hP 0 rfl rfl 1 (by decide) (hts _ tw_284) (fun _ h9 => h9) rfl dX10_name_51 ?_
            refine lv_iload_n hx hb dX10_name_54 rfl (lv_at hl 1 rfl) ?_
            obtain ⟨v55, hc55, hf⟩ := cb1_some hf
            refine kcRV (q0 := 8) (ci := 3) (As := [.int x1]) (rest := []) (st1 := [.int v55]) C (c_Na_oddsOf l D ct a_names a_names_odds a_names_lengths a_names_letters a_names_alike a_names_oddsTogether f_names_fault_1 f_names_size_1 f_names_odds_1 x1 v55 hc55) ⟨rfl, rfl⟩ yn_yX3_oddsOf tw_476 tw_477 tw_500 ⟨Nat.le_of_ble_eq_true rfl, Nat.le_of_ble_eq_true rfl⟩ ⟨Nat.zero_le _, Nat.zero_le _⟩ hP [8, 9] rfl rfl rfl rfl hl.1 rfl rfl (Nat.le_of_ble_eq_true rfl) dX10_name_55 rfl ?_
            refine lv_goto (tgt := 70) hx hb dX10_name_58 (by decide) ?_
            obtain ⟨e1, e2, e3, e4, e5, e6, e7, e8, e9, e10, e11, e12, e13, e14, e15, e16, e17, e18, e19, e20, e21, e22, e23⟩ := ti23 hf
            subst e1; subst e2; subst e3; subst e4; subst e5; subst e6; subst e7; subst e8; subst e9; subst e10; subst e11; subst e12; subst e13; subst e14; subst e15; subst e16; subst e17; subst e18; subst e19; subst e20; subst e21; subst e22; subst e23
            exact kretM C hP hD hS dX10_name_70
        · have hf := kpos hc hf
          refine lv_aload_n hx hb dX10_name_36 rfl (lv_at hl 0 rfl) ?_
          refine va_get (ci := 10) (v := .ref a_names) (C := RX10) (T := TX10) (N := 12) hx hb hts inX10 hown hK hP 0 rfl rfl 1 (by decide) (hts _ tw_284) (fun _ h9 => h9) rfl dX10_name_37 ?_
          refine lv_iload_n hx hb dX10_name_40 rfl (lv_at hl 1 rfl) ?_
          obtain ⟨v41, hc41, hf⟩ := cb1_some hf
          refine kcRV (q0 := 8) (ci := 3) (As := [.int x1]) (rest := []) (st1 := [.int v41]) C (c_Na_lengthOf l D ct a_names a_names_odds a_names_lengths a_names_letters a_names_alike a_names_oddsTogether f_names_fault_1 f_names_size_1 f_names_lengths_1 x1 v41 hc41) ⟨rfl, rfl⟩ yn_yX3_lengthOf tw_453 tw_454 tw_499 ⟨Nat.le_of_ble_eq_true rfl, Nat.le_of_ble_eq_true rfl⟩ ⟨Nat.zero_le _, Nat.zero_le _⟩ hP [8, 10] rfl rfl rfl rfl hl.1 rfl rfl (Nat.le_of_ble_eq_true rfl) dX10_name_41 rfl ?_
          obtain ⟨e1, e2, e3, e4, e5, e6, e7, e8, e9, e10, e11, e12, e13, e14, e15, e16, e17, e18, e19, e20, e21, e22, e23⟩ := ti23 hf
          subst e1; subst e2; subst e3; subst e4; subst e5; subst e6; subst e7; subst e8; subst e9; subst e10; subst e11; subst e12; subst e13; subst e14; subst e15; subst e16; subst e17; subst e18; subst e19; subst e20; subst e21; subst e22; subst e23
          exact kretM C hP hD hS dX10_name_44
      · have hf := kneg hc hf
        refine lv_bipush (v := (-2)) hx hb dX10_name_27 (by decide) ?_
        obtain ⟨e1, e2, e3, e4, e5, e6, e7, e8, e9, e10, e11, e12, e13, e14, e15, e16, e17, e18, e19, e20, e21, e22, e23⟩ := ti23 hf
        subst e1; subst e2; subst e3; subst e4; subst e5; subst e6; subst e7; subst e8; subst e9; subst e10; subst e11; subst e12; subst e13; subst e14; subst e15; subst e16; subst e17; subst e18; subst e19; subst e20; subst e21; subst e22; subst e23
        exact kretM C hP hD hS dX10_name_29
def RM_ND_mayBeGuessed : Room := { frames := 0, cells := 0, slots := 0, locals := 0 }
set_option maxHeartbeats 4000000 in
set_option maxRecDepth 100000 in
theorem c_ND_mayBeGuessed (l : Launch) (D : va_G) (ct : Nat → ClassId) (x0 : Int32) (r : Int32) (hf : ND_mayBeGuessed x0 = some r) : Met l yX10_mayBeGuessed (WS yX10_mayBeGuessed cX10_mayBeGuessed 1 (some .boolean)) RM_ND_mayBeGuessed (va_Pc [.int x0] (PR D ct (w_ND_mayBeGuessed ct))) (QR (some (.int r))) 0 0 (fun _ => False) := by
  refine kMetR yn_yX10_mayBeGuessed rfl (Nat.le_of_ble_eq_true rfl) ?_
  intro p e s m args below meth c C hP ls hl
  have hl : lv_has ls 1 [(0, .int x0)] := hl
  obtain ⟨hx, hb, hr, hml, hown, hts, hlk, hK, hN⟩ := id C
  unfold ND_mayBeGuessed at hf
  refine lv_iload_n hx hb dX10_mayBeGuessed_0 rfl (lv_at hl 0 rfl) ?_
  refine lv_if_lt (tgt := 14) hx hb dX10_mayBeGuessed_1 (by decide) (fun hc => ?_) (fun hc => ?_)
  · have hf := kpos hc hf
    refine lv_iconst (v := 0) hx hb dX10_mayBeGuessed_14 (by decide) ?_
    have e1 := Option.some.inj hf
    subst e1
    exact kretRz C (by decide) dX10_mayBeGuessed_15
  · have hf := kneg hc hf
    refine lv_iload_n hx hb dX10_mayBeGuessed_4 rfl (lv_at hl 0 rfl) ?_
    refine lv_bipush (v := 10) hx hb dX10_mayBeGuessed_5 (by decide) ?_
    refine lv_icmp_ge (tgt := 14) hx hb dX10_mayBeGuessed_7 (by decide) (fun hc => ?_) (fun hc => ?_)
    · have hf := kpos hc hf
      refine lv_iconst (v := 0) hx hb dX10_mayBeGuessed_14 (by decide) ?_
      have e1 := Option.some.inj hf
      subst e1
      exact kretRz C (by decide) dX10_mayBeGuessed_15
    · have hf := kneg hc hf
      refine lv_iconst (v := 1) hx hb dX10_mayBeGuessed_10 (by decide) ?_
      refine lv_goto (tgt := 15) hx hb dX10_mayBeGuessed_11 (by decide) ?_
      have e1 := Option.some.inj hf
      subst e1
      exact kretRz C (by decide) dX10_mayBeGuessed_15
def RM_Gu_isFull : Room := { frames := 0, cells := 0, slots := 0, locals := 0 }
set_option maxHeartbeats 4000000 in
set_option maxRecDepth 100000 in
theorem c_Gu_isFull (l : Launch) (D : va_G) (ct : Nat → ClassId) (a_this a_list : Nat) (f_size : Int32) (r : Int32) (hf : Gu_isFull f_size = some r) : Met l yX2_isFull (WS yX2_isFull cX2_isFull 1 (some .boolean)) RM_Gu_isFull (va_Pc [.ref a_this] (PR D ct (w_Gu_isFull ct a_this a_list f_size))) (QR (some (.int r))) 0 0 (fun _ => False) := by
  refine kMetR yn_yX2_isFull rfl (Nat.le_of_ble_eq_true rfl) ?_
  intro p e s m args below meth c C hP ls hl
  have hl : lv_has ls 1 [(0, .ref a_this)] := hl
  obtain ⟨hx, hb, hr, hml, hown, hts, hlk, hK, hN⟩ := id C
  unfold Gu_isFull at hf
  refine lv_aload_n hx hb dX2_isFull_0 rfl (lv_at hl 0 rfl) ?_
  refine va_get (ci := 2) (v := .int f_size) (C := RX2) (T := TX2) (N := 2) hx hb hts inX2 hown hK hP 0 rfl rfl 1 (by decide) (hts _ tw_222) (fun _ h9 => h9) rfl dX2_isFull_1 ?_
  refine lv_bipush (v := 12) hx hb dX2_isFull_4 (by decide) ?_
  refine lv_icmp_lt (tgt := 13) hx hb dX2_isFull_6 (by decide) (fun hc => ?_) (fun hc => ?_)
  · have hf := kpos hc hf
    refine lv_iconst (v := 0) hx hb dX2_isFull_13 (by decide) ?_
    have e1 := Option.some.inj hf
    subst e1
    exact kretRz C (by decide) dX2_isFull_14
  · have hf := kneg hc hf
    refine lv_iconst (v := 1) hx hb dX2_isFull_9 (by decide) ?_
    refine lv_goto (tgt := 14) hx hb dX2_isFull_10 (by decide) ?_
    have e1 := Option.some.inj hf
    subst e1
    exact kretRz C (by decide) dX2_isFull_14
def RM_Gu_append : Room := { frames := 0, cells := 0, slots := 0, locals := 0 }
set_option maxHeartbeats 4000000 in
set_option maxRecDepth 100000 in
theorem c_Gu_append (l : Launch) (D : va_G) (ct : Nat → ClassId) (a_this a_list : Nat) (f_size : Int32) (f_list : Nat → Int32) (x1 : Int32) (r_size : Int32) (r_list : Nat → Int32) (sz : Nat) (hf : Gu_append f_size f_list x1 = some (r_size, r_list)) : Met l yX2_append (WS yX2_append cX2_append 2 none) RM_Gu_append (va_Pc [.ref a_this, .int x1] (PM D ct sz (w_Gu_append ct a_this a_list f_size f_list))) (QM D none (w_Gu_append ct a_this a_list r_size r_list) (va_A (w_Gu_append ct a_this a_list f_size f_list) sz)) 0 0 (va_A (w_Gu_append ct a_this a_list f_size f_list) sz) := by
  refine kMetM yn_yX2_append rfl (Nat.le_of_ble_eq_true rfl) ?_
  intro p e s m args below meth c A C hA hP hD ls hl
  have hl : lv_has ls 2 [(0, .ref a_this), (1, .int x1)] := hl
  have hS : va_S A s.heap s.heap [] := va_S.rf
  obtain ⟨hx, hb, hr, hml, hown, hts, hlk, hK, hN⟩ := id C
  unfold Gu_append at hf
  refine lv_aload_n hx hb dX2_append_0 rfl (lv_at hl 0 rfl) ?_
  refine va_get (ci := 2) (v := .int f_size) (C := RX2) (T := TX2) (N := 2) hx hb hts inX2 hown hK hP 0 rfl rfl 1 (by decide) (hts _ tw_222) (fun _ h9 => h9) rfl dX2_append_1 ?_
  refine lv_if_lt (tgt := 36) hx hb dX2_append_4 (by decide) (fun hc => ?_) (fun hc => ?_)
  · have hf := kpos hc hf
    obtain ⟨e1, e2⟩ := ti2 hf
    subst e1; subst e2
    exact kretMv C hP hD hS dX2_append_36
  · have hf := kneg hc hf
    refine lv_aload_n hx hb dX2_append_7 rfl (lv_at hl 0 rfl) ?_
    refine va_get (ci := 2) (v := .int f_size) (C := RX2) (T := TX2) (N := 2) hx hb hts inX2 hown hK hP 0 rfl rfl 1 (by decide) (hts _ tw_222) (fun _ h9 => h9) rfl dX2_append_8 ?_
    refine lv_bipush (v := 12) hx hb dX2_append_11 (by decide) ?_
    refine lv_icmp_ge (tgt := 36) hx hb dX2_append_13 (by decide) (fun hc => ?_) (fun hc => ?_)
    · have hf := kpos hc hf
      obtain ⟨e1, e2⟩ := ti2 hf
      subst e1; subst e2
      exact kretMv C hP hD hS dX2_append_36
    · have hf := kneg hc hf
      refine lv_aload_n hx hb dX2_append_16 rfl (lv_at hl 0 rfl) ?_
      refine va_get (ci := 2) (v := .ref a_list) (C := RX2) (T := TX2) (N := 2) hx hb hts inX2 hown hK hP 0 rfl rfl 0 (by decide) (hts _ tw_221) (fun _ h9 => h9) rfl dX2_append_17 ?_
      refine lv_aload_n hx hb dX2_append_20 rfl (lv_at hl 0 rfl) ?_
      refine va_get (ci := 2) (v := .int f_size) (C := RX2) (T := TX2) (N := 2) hx hb hts inX2 hown hK hP 0 rfl rfl 1 (by decide) (hts _ tw_222) (fun _ h9 => h9) rfl dX2_append_21 ?_
      refine lv_iload_n hx hb dX2_append_24 rfl (lv_at hl 1 rfl) ?_
      obtain ⟨hin, f_list_25, ev25, hf⟩ := wr_ex hf
      refine kiast hx hb hK hP hD hS 1 0 rfl rfl hin ev25 dX2_append_25 (fun H locs hP hD hS => ?_)
      have hP : va_P D vwCl (w_Gu_append ct a_this a_list f_size f_list_25) H := hP
      have hD : va_D A (w_Gu_append ct a_this a_list f_size f_list_25) := hD
      refine lv_aload_n hx hb dX2_append_26 rfl (lv_at hl 0 rfl) ?_
      refine lv_dup hx hb dX2_append_27 rfl ?_
      refine va_get (ci := 2) (v := .int f_size) (C := RX2) (T := TX2) (N := 2) hx hb hts inX2 hown hK hP 0 rfl rfl 1 (by decide) (hts _ tw_222) (fun _ h9 => h9) rfl dX2_append_28 ?_
      refine lv_iconst (v := 1) hx hb dX2_append_31 (by decide) ?_
      refine lv_iadd hx hb dX2_append_32 ?_
      refine va_put (ci := 2) (v := .int (f_size + 1)) (ty := .int) (C := RX2) (T := TX2) (N := 2) hx hb hts inX2 tyX2 tyX2_ok nmX2 hown hK hP hD hS 0 rfl rfl 1 (by decide) (hts _ tw_222) (fun _ h9 => h9) rfl (tyX2_ok 1 (by decide)) rfl rfl (Nat.le_of_ble_eq_true rfl) dX2_append_33 (fun H locs hP hD hS => ?_)
      have hP : va_P D vwCl (w_Gu_append ct a_this a_list (f_size + 1) f_list_25) H := hP
      have hD : va_D A (w_Gu_append ct a_this a_list (f_size + 1) f_list_25) := hD
      obtain ⟨e1, e2⟩ := ti2 hf
      subst e1; subst e2
      exact kretMv C hP hD hS dX2_append_36
def RM_Gu_size : Room := { frames := 0, cells := 0, slots := 0, locals := 0 }
set_option maxHeartbeats 4000000 in
set_option maxRecDepth 100000 in
theorem c_Gu_size (l : Launch) (D : va_G) (ct : Nat → ClassId) (a_this a_list : Nat) (f_size : Int32) (r : Int32) (hf : Gu_size f_size = some r) : Met l yX2_size (WS yX2_size cX2_size 1 (some .int)) RM_Gu_size (va_Pc [.ref a_this] (PR D ct (w_Gu_size ct a_this a_list f_size))) (QR (some (.int r))) 0 0 (fun _ => False) := by
  refine kMetR yn_yX2_size rfl (Nat.le_of_ble_eq_true rfl) ?_
  intro p e s m args below meth c C hP ls hl
  have hl : lv_has ls 1 [(0, .ref a_this)] := hl
  obtain ⟨hx, hb, hr, hml, hown, hts, hlk, hK, hN⟩ := id C
  unfold Gu_size at hf
  refine lv_aload_n hx hb dX2_size_0 rfl (lv_at hl 0 rfl) ?_
  refine va_get (ci := 2) (v := .int f_size) (C := RX2) (T := TX2) (N := 2) hx hb hts inX2 hown hK hP 0 rfl rfl 1 (by decide) (hts _ tw_222) (fun _ h9 => h9) rfl dX2_size_1 ?_
  have e1 := Option.some.inj hf
  subst e1
  exact kretR C dX2_size_4
def RM_ND_guess : Room := { frames := 1, cells := 0, slots := 0, locals := 21 }
set_option maxHeartbeats 4000000 in
set_option maxRecDepth 100000 in
theorem c_ND_guess (l : Launch) (D : va_G) (ct : Nat → ClassId) (a_this a_texts a_names a_pieces a_song a_fitting a_deal a_guesses a_wise a_spy a_sheets a_guesses_list : Nat) (f_stale : Int32) (f_finding : Int32) (f_guesses_size : Int32) (f_guesses_list : Nat → Int32) (x1 : Int32) (r : Int32) (r_guesses_size : Int32) (r_guesses_list : Nat → Int32) (sz : Nat) (hf : ND_guess f_guesses_size f_guesses_list x1 = some (r, r_guesses_size, r_guesses_list)) : Met l yX10_guess (WS yX10_guess cX10_guess 2 (some .int)) RM_ND_guess (va_Pc [.ref a_this, .int x1] (PM D ct sz (w_ND_guess ct a_this a_texts a_names a_pieces a_song a_fitting a_deal a_guesses a_wise a_spy a_sheets a_guesses_list f_stale f_finding f_guesses_size f_guesses_list))) (QM D (some (.int r)) (w_ND_guess ct a_this a_texts a_names a_pieces a_song a_fitting a_deal a_guesses a_wise a_spy a_sheets a_guesses_list f_stale f_finding r_guesses_size r_guesses_list) (va_A (w_ND_guess ct a_this a_texts a_names a_pieces a_song a_fitting a_deal a_guesses a_wise a_spy a_sheets a_guesses_list f_stale f_finding f_guesses_size f_guesses_list) sz)) 0 0 (va_A (w_ND_guess ct a_this a_texts a_names a_pieces a_song a_fitting a_deal a_guesses a_wise a_spy a_sheets a_guesses_list f_stale f_finding f_guesses_size f_guesses_list) sz) := by
  refine kMetM yn_yX10_guess rfl (Nat.le_of_ble_eq_true rfl) ?_
  intro p e s m args below meth c A C hA hP hD ls hl
  have hl : lv_has ls 2 [(0, .ref a_this), (1, .int x1)] := hl
  have hS : va_S A s.heap s.heap [] := va_S.rf
  obtain ⟨hx, hb, hr, hml, hown, hts, hlk, hK, hN⟩ := id C
  unfold ND_guess at hf
  refine lv_iload_n hx hb dX10_guess_0 rfl (lv_at hl 1 rfl) ?_
  obtain ⟨v1, hc1, hf⟩ := cb1_some hf
  refine kcRS (As := [.int x1]) (rest := []) (st1 := [.int v1]) C (c_ND_mayBeGuessed l D ct x1 v1 hc1) ⟨rfl, rfl⟩ yn_yX10_mayBeGuessed tw_523 tw_522 ⟨Nat.le_of_ble_eq_true rfl, Nat.le_of_ble_eq_true rfl⟩ ⟨Nat.zero_le _, Nat.zero_le _⟩ hP [] rfl hl.1 rfl rfl (Nat.le_of_ble_eq_true rfl) dX10_guess_1 rfl ?_
  refine lv_if_ne (tgt := 10) hx hb dX10_guess_4 (by decide) (fun hc => ?_) (fun hc => ?_)
  · have hf := kneg hc hf
    refine lv_aload_n hx hb dX10_guess_10 rfl (lv_at hl 0 rfl) ?_
    refine va_get (ci := 10) (v := .ref a_guesses) (C := RX10) (T := TX10) (N := 12) hx hb hts inX10 hown hK hP 0 rfl rfl 6 (by decide) (hts _ tw_289) (fun _ h9 => h9) rfl dX10_guess_11 ?_
    obtain ⟨v14, hc14, hf⟩ := cb1_some hf
    refine kcRV (q0 := 1) (ci := 2) (As := []) (rest := []) (st1 := [.int v14]) C (c_Gu_isFull l D ct a_guesses a_guesses_list f_guesses_size v14 hc14) ⟨rfl, rfl⟩ yn_yX2_isFull tw_526 tw_527 tw_525 ⟨Nat.le_of_ble_eq_true rfl, Nat.le_of_ble_eq_true rfl⟩ ⟨Nat.zero_le _, Nat.zero_le _⟩ hP [1] rfl rfl rfl rfl hl.1 rfl rfl (Nat.le_of_ble_eq_true rfl) dX10_guess_14 rfl ?_
    refine lv_if_eq (tgt := 23) hx hb dX10_guess_17 (by decide) (fun hc => ?_) (fun hc => ?_)
    · have hf := kpos hc hf
      refine lv_aload_n hx hb dX10_guess_23 rfl (lv_at hl 0 rfl) ?_
      refine va_get (ci := 10) (v := .ref a_guesses) (C := RX10) (T := TX10) (N := 12) hx hb hts inX10 hown hK hP 0 rfl rfl 6 (by decide) (hts _ tw_289) (fun _ h9 => h9) rfl dX10_guess_24 ?_
      refine lv_iload_n hx hb dX10_guess_27 rfl (lv_at hl 1 rfl) ?_
      obtain ⟨f_guesses_size_28, f_guesses_list_28, hc28, hf⟩ := cb2_some hf
      refine kcMV (q0 := 1) (ci := 2) (As := [.int x1]) (rest := []) (st1 := []) (wf := (w_ND_guess ct a_this a_texts a_names a_pieces a_song a_fitting a_deal a_guesses a_wise a_spy a_sheets a_guesses_list f_stale f_finding f_guesses_size_28 f_guesses_list_28)) C (c_Gu_append l D ct a_guesses a_guesses_list f_guesses_size f_guesses_list x1 f_guesses_size_28 f_guesses_list_28 _ hc28) ⟨rfl, rfl⟩ yn_yX2_append tw_530 tw_531 tw_529 ⟨Nat.le_of_ble_eq_true rfl, Nat.le_of_ble_eq_true rfl⟩ ⟨Nat.zero_le _, Nat.zero_le _⟩ hP hD hS hA [1, 2] [0] [0, 1, 2] rfl rfl rfl rfl rfl (by decide) rfl rfl rfl rfl rfl rfl hl.1 rfl rfl (Nat.le_of_ble_eq_true rfl) dX10_guess_28 rfl (fun H locs hP hD hS => ?_)
      refine lv_aload_n hx hb dX10_guess_31 rfl (lv_at hl 0 rfl) ?_
      refine va_get (ci := 10) (v := .ref a_guesses) (C := RX10) (T := TX10) (N := 12) hx hb hts inX10 hown hK hP 0 rfl rfl 6 (by decide) (hts _ tw_289) (fun _ h9 => h9) rfl dX10_guess_32 ?_
      obtain ⟨v35, hc35, hf⟩ := cb1_some hf
      refine kcRV (q0 := 1) (ci := 2) (As := []) (rest := []) (st1 := [.int v35]) C (c_Gu_size l D ct a_guesses a_guesses_list f_guesses_size_28 v35 hc35) ⟨rfl, rfl⟩ yn_yX2_size tw_534 tw_535 tw_533 ⟨Nat.le_of_ble_eq_true rfl, Nat.le_of_ble_eq_true rfl⟩ ⟨Nat.zero_le _, Nat.zero_le _⟩ hP [1] rfl rfl rfl rfl hl.1 rfl rfl (Nat.le_of_ble_eq_true rfl) dX10_guess_35 rfl ?_
      obtain ⟨e1, e2, e3⟩ := ti3 hf
      subst e1; subst e2; subst e3
      exact kretM C hP hD hS dX10_guess_38
    · have hf := kneg hc hf
      refine lv_bipush (v := (-4)) hx hb dX10_guess_20 (by decide) ?_
      obtain ⟨e1, e2, e3⟩ := ti3 hf
      subst e1; subst e2; subst e3
      exact kretM C hP hD hS dX10_guess_22
  · have hf := kpos hc hf
    refine lv_bipush (v := (-2)) hx hb dX10_guess_7 (by decide) ?_
    obtain ⟨e1, e2, e3⟩ := ti3 hf
    subst e1; subst e2; subst e3
    exact kretM C hP hD hS dX10_guess_9
def RM_Gu_dropLast : Room := { frames := 0, cells := 0, slots := 0, locals := 0 }
set_option maxHeartbeats 4000000 in
set_option maxRecDepth 100000 in
theorem c_Gu_dropLast (l : Launch) (D : va_G) (ct : Nat → ClassId) (a_this a_list : Nat) (f_size : Int32) (r_size : Int32) (sz : Nat) (hf : Gu_dropLast f_size = some r_size) : Met l yX2_dropLast (WS yX2_dropLast cX2_dropLast 1 none) RM_Gu_dropLast (va_Pc [.ref a_this] (PM D ct sz (w_Gu_dropLast ct a_this a_list f_size))) (QM D none (w_Gu_dropLast ct a_this a_list r_size) (va_A (w_Gu_dropLast ct a_this a_list f_size) sz)) 0 0 (va_A (w_Gu_dropLast ct a_this a_list f_size) sz) := by
  refine kMetM yn_yX2_dropLast rfl (Nat.le_of_ble_eq_true rfl) ?_
  intro p e s m args below meth c A C hA hP hD ls hl
  have hl : lv_has ls 1 [(0, .ref a_this)] := hl
  have hS : va_S A s.heap s.heap [] := va_S.rf
  obtain ⟨hx, hb, hr, hml, hown, hts, hlk, hK, hN⟩ := id C
  unfold Gu_dropLast at hf
  refine lv_aload_n hx hb dX2_dropLast_0 rfl (lv_at hl 0 rfl) ?_
  refine va_get (ci := 2) (v := .int f_size) (C := RX2) (T := TX2) (N := 2) hx hb hts inX2 hown hK hP 0 rfl rfl 1 (by decide) (hts _ tw_222) (fun _ h9 => h9) rfl dX2_dropLast_1 ?_
  refine lv_if_le (tgt := 17) hx hb dX2_dropLast_4 (by decide) (fun hc => ?_) (fun hc => ?_)
  · have hf := kpos hc hf
    have e1 := Option.some.inj hf
    subst e1
    exact kretMv C hP hD hS dX2_dropLast_17
  · have hf := kneg hc hf
    refine lv_aload_n hx hb dX2_dropLast_7 rfl (lv_at hl 0 rfl) ?_
    refine lv_dup hx hb dX2_dropLast_8 rfl ?_
    refine va_get (ci := 2) (v := .int f_size) (C := RX2) (T := TX2) (N := 2) hx hb hts inX2 hown hK hP 0 rfl rfl 1 (by decide) (hts _ tw_222) (fun _ h9 => h9) rfl dX2_dropLast_9 ?_
    refine lv_iconst (v := 1) hx hb dX2_dropLast_12 (by decide) ?_
    refine lv_isub hx hb dX2_dropLast_13 ?_
    refine va_put (ci := 2) (v := .int (f_size - 1)) (ty := .int) (C := RX2) (T := TX2) (N := 2) hx hb hts inX2 tyX2 tyX2_ok nmX2 hown hK hP hD hS 0 rfl rfl 1 (by decide) (hts _ tw_222) (fun _ h9 => h9) rfl (tyX2_ok 1 (by decide)) rfl rfl (Nat.le_of_ble_eq_true rfl) dX2_dropLast_14 (fun H locs hP hD hS => ?_)
    have hP : va_P D vwCl (w_Gu_dropLast ct a_this a_list (f_size - 1)) H := hP
    have hD : va_D A (w_Gu_dropLast ct a_this a_list (f_size - 1)) := hD
    have e1 := Option.some.inj hf
    subst e1
    exact kretMv C hP hD hS dX2_dropLast_17
def RM_ND_unguess : Room := { frames := 1, cells := 0, slots := 0, locals := 20 }
set_option maxHeartbeats 4000000 in
set_option maxRecDepth 100000 in
theorem c_ND_unguess (l : Launch) (D : va_G) (ct : Nat → ClassId) (a_this a_texts a_names a_pieces a_song a_fitting a_deal a_guesses a_wise a_spy a_sheets a_guesses_list : Nat) (f_stale : Int32) (f_finding : Int32) (f_guesses_size : Int32) (r : Int32) (r_guesses_size : Int32) (sz : Nat) (hf : ND_unguess f_guesses_size = some (r, r_guesses_size)) : Met l yX10_unguess (WS yX10_unguess cX10_unguess 1 (some .int)) RM_ND_unguess (va_Pc [.ref a_this] (PM D ct sz (w_ND_unguess ct a_this a_texts a_names a_pieces a_song a_fitting a_deal a_guesses a_wise a_spy a_sheets a_guesses_list f_stale f_finding f_guesses_size))) (QM D (some (.int r)) (w_ND_unguess ct a_this a_texts a_names a_pieces a_song a_fitting a_deal a_guesses a_wise a_spy a_sheets a_guesses_list f_stale f_finding r_guesses_size) (va_A (w_ND_unguess ct a_this a_texts a_names a_pieces a_song a_fitting a_deal a_guesses a_wise a_spy a_sheets a_guesses_list f_stale f_finding f_guesses_size) sz)) 0 0 (va_A (w_ND_unguess ct a_this a_texts a_names a_pieces a_song a_fitting a_deal a_guesses a_wise a_spy a_sheets a_guesses_list f_stale f_finding f_guesses_size) sz) := by
  refine kMetM yn_yX10_unguess rfl (Nat.le_of_ble_eq_true rfl) ?_
  intro p e s m args below meth c A C hA hP hD ls hl
  have hl : lv_has ls 1 [(0, .ref a_this)] := hl
  have hS : va_S A s.heap s.heap [] := va_S.rf
  obtain ⟨hx, hb, hr, hml, hown, hts, hlk, hK, hN⟩ := id C
  unfold ND_unguess at hf
  refine lv_aload_n hx hb dX10_unguess_0 rfl (lv_at hl 0 rfl) ?_
  refine va_get (ci := 10) (v := .ref a_guesses) (C := RX10) (T := TX10) (N := 12) hx hb hts inX10 hown hK hP 0 rfl rfl 6 (by decide) (hts _ tw_289) (fun _ h9 => h9) rfl dX10_unguess_1 ?_
  obtain ⟨v4, hc4, hf⟩ := cb1_some hf
  refine kcRV (q0 := 1) (ci := 2) (As := []) (rest := []) (st1 := [.int v4]) C (c_Gu_size l D ct a_guesses a_guesses_list f_guesses_size v4 hc4) ⟨rfl, rfl⟩ yn_yX2_size tw_534 tw_535 tw_533 ⟨Nat.le_of_ble_eq_true rfl, Nat.le_of_ble_eq_true rfl⟩ ⟨Nat.zero_le _, Nat.zero_le _⟩ hP [1] rfl rfl rfl rfl hl.1 rfl rfl (Nat.le_of_ble_eq_true rfl) dX10_unguess_4 rfl ?_
  refine lv_if_ne (tgt := 13) hx hb dX10_unguess_7 (by decide) (fun hc => ?_) (fun hc => ?_)
  · have hf := kneg hc hf
    refine lv_aload_n hx hb dX10_unguess_13 rfl (lv_at hl 0 rfl) ?_
    refine va_get (ci := 10) (v := .ref a_guesses) (C := RX10) (T := TX10) (N := 12) hx hb hts inX10 hown hK hP 0 rfl rfl 6 (by decide) (hts _ tw_289) (fun _ h9 => h9) rfl dX10_unguess_14 ?_
    obtain ⟨f_guesses_size_17, hc17, hf⟩ := cb1_some hf
    refine kcMV (q0 := 1) (ci := 2) (As := []) (rest := []) (st1 := []) (wf := (w_ND_unguess ct a_this a_texts a_names a_pieces a_song a_fitting a_deal a_guesses a_wise a_spy a_sheets a_guesses_list f_stale f_finding f_guesses_size_17)) C (c_Gu_dropLast l D ct a_guesses a_guesses_list f_guesses_size f_guesses_size_17 _ hc17) ⟨rfl, rfl⟩ yn_yX2_dropLast tw_542 tw_543 tw_541 ⟨Nat.le_of_ble_eq_true rfl, Nat.le_of_ble_eq_true rfl⟩ ⟨Nat.zero_le _, Nat.zero_le _⟩ hP hD hS hA [1] [0] [0, 1] rfl rfl rfl rfl rfl (by decide) rfl rfl rfl rfl rfl rfl hl.1 rfl rfl (Nat.le_of_ble_eq_true rfl) dX10_unguess_17 rfl (fun H locs hP hD hS => ?_)
    refine lv_aload_n hx hb dX10_unguess_20 rfl (lv_at hl 0 rfl) ?_
    refine va_get (ci := 10) (v := .ref a_guesses) (C := RX10) (T := TX10) (N := 12) hx hb hts inX10 hown hK hP 0 rfl rfl 6 (by decide) (hts _ tw_289) (fun _ h9 => h9) rfl dX10_unguess_21 ?_
    obtain ⟨v24, hc24, hf⟩ := cb1_some hf
    refine kcRV (q0 := 1) (ci := 2) (As := []) (rest := []) (st1 := [.int v24]) C (c_Gu_size l D ct a_guesses a_guesses_list f_guesses_size_17 v24 hc24) ⟨rfl, rfl⟩ yn_yX2_size tw_534 tw_535 tw_533 ⟨Nat.le_of_ble_eq_true rfl, Nat.le_of_ble_eq_true rfl⟩ ⟨Nat.zero_le _, Nat.zero_le _⟩ hP [1] rfl rfl rfl rfl hl.1 rfl rfl (Nat.le_of_ble_eq_true rfl) dX10_unguess_24 rfl ?_
    obtain ⟨e1, e2⟩ := ti2 hf
    subst e1; subst e2
    exact kretM C hP hD hS dX10_unguess_27
  · have hf := kpos hc hf
    refine lv_bipush (v := (-3)) hx hb dX10_unguess_10 (by decide) ?_
    obtain ⟨e1, e2⟩ := ti2 hf
    subst e1; subst e2
    exact kretM C hP hD hS dX10_unguess_12
def RM_ND_isSheet : Room := { frames := 0, cells := 0, slots := 0, locals := 0 }
set_option maxHeartbeats 4000000 in
set_option maxRecDepth 100000 in
theorem c_ND_isSheet (l : Launch) (D : va_G) (ct : Nat → ClassId) (x0 : Int32) (r : Int32) (hf : ND_isSheet x0 = some r) : Met l yX10_isSheet (WS yX10_isSheet cX10_isSheet 1 (some .boolean)) RM_ND_isSheet (va_Pc [.int x0] (PR D ct (w_ND_isSheet ct))) (QR (some (.int r))) 0 0 (fun _ => False) := by
  refine kMetR yn_yX10_isSheet rfl (Nat.le_of_ble_eq_true rfl) ?_
  intro p e s m args below meth c C hP ls hl
  have hl : lv_has ls 1 [(0, .int x0)] := hl
  obtain ⟨hx, hb, hr, hml, hown, hts, hlk, hK, hN⟩ := id C
  unfold ND_isSheet at hf
  refine lv_iload_n hx hb dX10_isSheet_0 rfl (lv_at hl 0 rfl) ?_
  refine lv_if_lt (tgt := 13) hx hb dX10_isSheet_1 (by decide) (fun hc => ?_) (fun hc => ?_)
  · have hf := kpos hc hf
    refine lv_iconst (v := 0) hx hb dX10_isSheet_13 (by decide) ?_
    have e1 := Option.some.inj hf
    subst e1
    exact kretRz C (by decide) dX10_isSheet_14
  · have hf := kneg hc hf
    refine lv_iload_n hx hb dX10_isSheet_4 rfl (lv_at hl 0 rfl) ?_
    refine lv_iconst (v := 4) hx hb dX10_isSheet_5 (by decide) ?_
    refine lv_icmp_ge (tgt := 13) hx hb dX10_isSheet_6 (by decide) (fun hc => ?_) (fun hc => ?_)
    · have hf := kpos hc hf
      refine lv_iconst (v := 0) hx hb dX10_isSheet_13 (by decide) ?_
      have e1 := Option.some.inj hf
      subst e1
      exact kretRz C (by decide) dX10_isSheet_14
    · have hf := kneg hc hf
      refine lv_iconst (v := 1) hx hb dX10_isSheet_9 (by decide) ?_
      refine lv_goto (tgt := 14) hx hb dX10_isSheet_10 (by decide) ?_
      have e1 := Option.some.inj hf
      subst e1
      exact kretRz C (by decide) dX10_isSheet_14
def RM_Sh_isLost : Room := { frames := 0, cells := 0, slots := 0, locals := 0 }
set_option maxHeartbeats 4000000 in
set_option maxRecDepth 100000 in
theorem c_Sh_isLost (l : Launch) (D : va_G) (ct : Nat → ClassId) (a_this a_items : Nat) (f_form : Int32) (f_size : Int32) (r : Int32) (hf : Sh_isLost f_size = some r) : Met l yX5_isLost (WS yX5_isLost cX5_isLost 1 (some .boolean)) RM_Sh_isLost (va_Pc [.ref a_this] (PR D ct (w_Sh_isLost ct a_this a_items f_form f_size))) (QR (some (.int r))) 0 0 (fun _ => False) := by
  refine kMetR yn_yX5_isLost rfl (Nat.le_of_ble_eq_true rfl) ?_
  intro p e s m args below meth c C hP ls hl
  have hl : lv_has ls 1 [(0, .ref a_this)] := hl
  obtain ⟨hx, hb, hr, hml, hown, hts, hlk, hK, hN⟩ := id C
  unfold Sh_isLost at hf
  refine lv_aload_n hx hb dX5_isLost_0 rfl (lv_at hl 0 rfl) ?_
  refine va_get (ci := 5) (v := .int f_size) (C := RX5) (T := TX5) (N := 3) hx hb hts inX5 hown hK hP 0 rfl rfl 2 (by decide) (hts _ tw_275) (fun _ h9 => h9) rfl dX5_isLost_1 ?_
  refine lv_iconst (v := (-1)) hx hb dX5_isLost_4 (by decide) ?_
  refine lv_icmp_ne (tgt := 12) hx hb dX5_isLost_5 (by decide) (fun hc => ?_) (fun hc => ?_)
  · have hf := kneg hc hf
    refine lv_iconst (v := 0) hx hb dX5_isLost_12 (by decide) ?_
    have e1 := Option.some.inj hf
    subst e1
    exact kretRz C (by decide) dX5_isLost_13
  · have hf := kpos hc hf
    refine lv_iconst (v := 1) hx hb dX5_isLost_8 (by decide) ?_
    refine lv_goto (tgt := 13) hx hb dX5_isLost_9 (by decide) ?_
    have e1 := Option.some.inj hf
    subst e1
    exact kretRz C (by decide) dX5_isLost_13
def RM_ND_found : Room := { frames := 0, cells := 0, slots := 0, locals := 0 }
set_option maxHeartbeats 4000000 in
set_option maxRecDepth 100000 in
theorem c_ND_found (l : Launch) (D : va_G) (ct : Nat → ClassId) (a_this a_texts a_names a_pieces a_song a_fitting a_deal a_guesses a_wise a_spy a_sheets : Nat) (f_stale : Int32) (f_finding : Int32) (x1 : Int32) (r : Int32) (r_finding : Int32) (sz : Nat) (hf : ND_found f_finding x1 = some (r, r_finding)) : Met l yX10_found (WS yX10_found cX10_found 2 (some .int)) RM_ND_found (va_Pc [.ref a_this, .int x1] (PM D ct sz (w_ND_found ct a_this a_texts a_names a_pieces a_song a_fitting a_deal a_guesses a_wise a_spy a_sheets f_stale f_finding))) (QM D (some (.int r)) (w_ND_found ct a_this a_texts a_names a_pieces a_song a_fitting a_deal a_guesses a_wise a_spy a_sheets f_stale r_finding) (va_A (w_ND_found ct a_this a_texts a_names a_pieces a_song a_fitting a_deal a_guesses a_wise a_spy a_sheets f_stale f_finding) sz)) 0 0 (va_A (w_ND_found ct a_this a_texts a_names a_pieces a_song a_fitting a_deal a_guesses a_wise a_spy a_sheets f_stale f_finding) sz) := by
  refine kMetM yn_yX10_found rfl (Nat.le_of_ble_eq_true rfl) ?_
  intro p e s m args below meth c A C hA hP hD ls hl
  have hl : lv_has ls 2 [(0, .ref a_this), (1, .int x1)] := hl
  have hS : va_S A s.heap s.heap [] := va_S.rf
  obtain ⟨hx, hb, hr, hml, hown, hts, hlk, hK, hN⟩ := id C
  unfold ND_found at hf
  refine lv_aload_n hx hb dX10_found_0 rfl (lv_at hl 0 rfl) ?_
  refine lv_iload_n hx hb dX10_found_1 rfl (lv_at hl 1 rfl) ?_
  refine va_put (ci := 10) (v := .int x1) (ty := .int) (C := RX10) (T := TX10) (N := 12) hx hb hts inX10 tyX10 tyX10_ok nmX10 hown hK hP hD hS 0 rfl rfl 11 (by decide) (hts _ tw_294) (fun _ h9 => h9) rfl (tyX10_ok 11 (by decide)) rfl rfl (Nat.le_of_ble_eq_true rfl) dX10_found_2 (fun H locs hP hD hS => ?_)
  have hP : va_P D vwCl (w_ND_found ct a_this a_texts a_names a_pieces a_song a_fitting a_deal a_guesses a_wise a_spy a_sheets f_stale x1) H := hP
  have hD : va_D A (w_ND_found ct a_this a_texts a_names a_pieces a_song a_fitting a_deal a_guesses a_wise a_spy a_sheets f_stale x1) := hD
  refine lv_bipush (v := (-10)) hx hb dX10_found_5 (by decide) ?_
  refine lv_iload_n hx hb dX10_found_7 rfl (lv_at hl 1 rfl) ?_
  refine lv_isub hx hb dX10_found_8 ?_
  obtain ⟨e1, e2⟩ := ti2 hf
  subst e1; subst e2
  exact kretM C hP hD hS dX10_found_9
def RM_Gu_empty : Room := { frames := 0, cells := 0, slots := 0, locals := 0 }
set_option maxHeartbeats 4000000 in
set_option maxRecDepth 100000 in
theorem c_Gu_empty (l : Launch) (D : va_G) (ct : Nat → ClassId) (a_this a_list : Nat) (f_size : Int32) (r_size : Int32) (sz : Nat) (hf : Gu_empty f_size = some r_size) : Met l yX2_empty (WS yX2_empty cX2_empty 1 none) RM_Gu_empty (va_Pc [.ref a_this] (PM D ct sz (w_Gu_empty ct a_this a_list f_size))) (QM D none (w_Gu_empty ct a_this a_list r_size) (va_A (w_Gu_empty ct a_this a_list f_size) sz)) 0 0 (va_A (w_Gu_empty ct a_this a_list f_size) sz) := by
  refine kMetM yn_yX2_empty rfl (Nat.le_of_ble_eq_true rfl) ?_
  intro p e s m args below meth c A C hA hP hD ls hl
  have hl : lv_has ls 1 [(0, .ref a_this)] := hl
  have hS : va_S A s.heap s.heap [] := va_S.rf
  obtain ⟨hx, hb, hr, hml, hown, hts, hlk, hK, hN⟩ := id C
  unfold Gu_empty at hf
  refine lv_aload_n hx hb dX2_empty_0 rfl (lv_at hl 0 rfl) ?_
  refine lv_iconst (v := 0) hx hb dX2_empty_1 (by decide) ?_
  refine va_put (ci := 2) (v := .int 0) (ty := .int) (C := RX2) (T := TX2) (N := 2) hx hb hts inX2 tyX2 tyX2_ok nmX2 hown hK hP hD hS 0 rfl rfl 1 (by decide) (hts _ tw_222) (fun _ h9 => h9) rfl (tyX2_ok 1 (by decide)) rfl rfl (Nat.le_of_ble_eq_true rfl) dX2_empty_2 (fun H locs hP hD hS => ?_)
  have hP : va_P D vwCl (w_Gu_empty ct a_this a_list 0) H := hP
  have hD : va_D A (w_Gu_empty ct a_this a_list 0) := hD
  have e1 := Option.some.inj hf
  subst e1
  exact kretMv C hP hD hS dX2_empty_5
def RM_Sh_size : Room := { frames := 0, cells := 0, slots := 0, locals := 0 }
set_option maxHeartbeats 4000000 in
set_option maxRecDepth 100000 in
theorem c_Sh_size (l : Launch) (D : va_G) (ct : Nat → ClassId) (a_this a_items : Nat) (f_form : Int32) (f_size : Int32) (r : Int32) (hf : Sh_size f_size = some r) : Met l yX5_size (WS yX5_size cX5_size 1 (some .int)) RM_Sh_size (va_Pc [.ref a_this] (PR D ct (w_Sh_size ct a_this a_items f_form f_size))) (QR (some (.int r))) 0 0 (fun _ => False) := by
  refine kMetR yn_yX5_size rfl (Nat.le_of_ble_eq_true rfl) ?_
  intro p e s m args below meth c C hP ls hl
  have hl : lv_has ls 1 [(0, .ref a_this)] := hl
  obtain ⟨hx, hb, hr, hml, hown, hts, hlk, hK, hN⟩ := id C
  unfold Sh_size at hf
  refine lv_aload_n hx hb dX5_size_0 rfl (lv_at hl 0 rfl) ?_
  refine va_get (ci := 5) (v := .int f_size) (C := RX5) (T := TX5) (N := 3) hx hb hts inX5 hown hK hP 0 rfl rfl 2 (by decide) (hts _ tw_275) (fun _ h9 => h9) rfl dX5_size_1 ?_
  have e1 := Option.some.inj hf
  subst e1
  exact kretR C dX5_size_4
def RM_Sh_item : Room := { frames := 0, cells := 0, slots := 0, locals := 0 }
set_option maxHeartbeats 4000000 in
set_option maxRecDepth 100000 in
theorem c_Sh_item (l : Launch) (D : va_G) (ct : Nat → ClassId) (a_this a_items : Nat) (f_form : Int32) (f_size : Int32) (f_items : Nat → Int32) (x1 : Int32) (r : Int32) (hf : Sh_item f_size f_items x1 = some r) : Met l yX5_item (WS yX5_item cX5_item 2 (some .int)) RM_Sh_item (va_Pc [.ref a_this, .int x1] (PR D ct (w_Sh_item ct a_this a_items f_form f_size f_items))) (QR (some (.int r))) 0 0 (fun _ => False) := by
  refine kMetR yn_yX5_item rfl (Nat.le_of_ble_eq_true rfl) ?_
  intro p e s m args below meth c C hP ls hl
  have hl : lv_has ls 2 [(0, .ref a_this), (1, .int x1)] := hl
  obtain ⟨hx, hb, hr, hml, hown, hts, hlk, hK, hN⟩ := id C
  unfold Sh_item at hf
  refine lv_iload_n hx hb dX5_item_0 rfl (lv_at hl 1 rfl) ?_
  refine lv_if_lt (tgt := 30) hx hb dX5_item_1 (by decide) (fun hc => ?_) (fun hc => ?_)
  · have hf := kpos hc hf
    refine lv_iconst (v := 0) hx hb dX5_item_30 (by decide) ?_
    have e1 := Option.some.inj hf
    subst e1
    exact kretR C dX5_item_31
  · have hf := kneg hc hf
    refine lv_iload_n hx hb dX5_item_4 rfl (lv_at hl 1 rfl) ?_
    refine lv_aload_n hx hb dX5_item_5 rfl (lv_at hl 0 rfl) ?_
    refine va_get (ci := 5) (v := .int f_size) (C := RX5) (T := TX5) (N := 3) hx hb hts inX5 hown hK hP 0 rfl rfl 2 (by decide) (hts _ tw_275) (fun _ h9 => h9) rfl dX5_item_6 ?_
    refine lv_icmp_ge (tgt := 30) hx hb dX5_item_9 (by decide) (fun hc => ?_) (fun hc => ?_)
    · have hf := kpos hc hf
      refine lv_iconst (v := 0) hx hb dX5_item_30 (by decide) ?_
      have e1 := Option.some.inj hf
      subst e1
      exact kretR C dX5_item_31
    · have hf := kneg hc hf
      refine lv_iload_n hx hb dX5_item_12 rfl (lv_at hl 1 rfl) ?_
      refine lv_aload_n hx hb dX5_item_13 rfl (lv_at hl 0 rfl) ?_
      refine va_get (ci := 5) (v := .ref a_items) (C := RX5) (T := TX5) (N := 3) hx hb hts inX5 hown hK hP 0 rfl rfl 0 (by decide) (hts _ tw_273) (fun _ h9 => h9) rfl dX5_item_14 ?_
      refine va_alen (v := 60) hx hb hK hP 1 0 rfl rfl rfl dX5_item_17 ?_
      refine lv_icmp_ge (tgt := 30) hx hb dX5_item_18 (by decide) (fun hc => ?_) (fun hc => ?_)
      · have hf := kpos hc hf
        refine lv_iconst (v := 0) hx hb dX5_item_30 (by decide) ?_
        have e1 := Option.some.inj hf
        subst e1
        exact kretR C dX5_item_31
      · have hf := kneg hc hf
        refine lv_aload_n hx hb dX5_item_21 rfl (lv_at hl 0 rfl) ?_
        refine va_get (ci := 5) (v := .ref a_items) (C := RX5) (T := TX5) (N := 3) hx hb hts inX5 hown hK hP 0 rfl rfl 0 (by decide) (hts _ tw_273) (fun _ h9 => h9) rfl dX5_item_22 ?_
        refine lv_iload_n hx hb dX5_item_25 rfl (lv_at hl 1 rfl) ?_
        obtain ⟨hin, hf⟩ := rd_some hf
        generalize ev26 : f_items (Int32.toNatClampNeg x1) = v26 at hf
        refine kiald hx hb hK hP 1 0 rfl rfl hin ev26 dX5_item_26 ?_
        refine lv_goto (tgt := 31) hx hb dX5_item_27 (by decide) ?_
        have e1 := Option.some.inj hf
        subst e1
        exact kretR C dX5_item_31
def RM_ND_read : Room := { frames := 1, cells := 0, slots := 0, locals := 21 }
set_option maxHeartbeats 4000000 in
set_option maxRecDepth 100000 in
theorem t_ND_read_b89v0 {p : Program} {l : Launch} {e : Env} {s : State} {m : MethodId} {args : Array Value} {below : List Frame} {meth : Method} {c : Code} {D : va_G} {ct : Nat → ClassId} (C : CX p s m args meth c RX10 cX10_read 4 (some .int) D ct) {A : Nat → Prop} (hA : ∀ q : Nat, s.heap.size ≤ q → A q) (a_this a_texts a_names a_pieces a_song a_fitting a_deal a_guesses a_wise a_spy a_sheets a_guesses_list a_sheets0 a_sheets1 a_sheets2 a_sheets3 a_sheets0_items a_sheets1_items a_sheets2_items a_sheets3_items : Nat) (f_stale : Int32) (f_sheets0_form : Int32) (f_sheets1_form : Int32) (f_sheets2_form : Int32) (f_sheets3_form : Int32) (F : Nat) (f_sheets0_size : Int32) (f_sheets0_items : Nat → Int32) (f_sheets1_size : Int32) (f_sheets1_items : Nat → Int32) (f_sheets2_size : Int32) (f_sheets2_items : Nat → Int32) (f_sheets3_size : Int32) (f_sheets3_items : Nat → Int32) (x1 : Int32) (r : Int32) (r_finding : Int32) (r_guesses_size : Int32) (r_guesses_list : Nat → Int32) (hs_1 : x1 = 3) : ∀ (f_finding : Int32) (f_guesses_size : Int32) (f_guesses_list : Nat → Int32), ND_read_b89v0 F f_sheets0_size f_sheets0_items f_sheets1_size f_sheets1_items f_sheets2_size f_sheets2_items f_sheets3_size f_sheets3_items x1 f_finding f_guesses_size f_guesses_list = some (r, r_finding, r_guesses_size, r_guesses_list) → ∀ (H : Heap) (locs : List Loc), va_P D vwCl (w_ND_read ct a_this a_texts a_names a_pieces a_song a_fitting a_deal a_guesses a_wise a_spy a_sheets a_guesses_list a_sheets0 a_sheets1 a_sheets2 a_sheets3 a_sheets0_items a_sheets1_items a_sheets2_items a_sheets3_items f_stale f_finding f_guesses_size f_guesses_list f_sheets0_form f_sheets0_size f_sheets0_items f_sheets1_form f_sheets1_size f_sheets1_items f_sheets2_form f_sheets2_size f_sheets2_items f_sheets3_form f_sheets3_size f_sheets3_items) H → va_D A (w_ND_read ct a_this a_texts a_names a_pieces a_song a_fitting a_deal a_guesses a_wise a_spy a_sheets a_guesses_list a_sheets0 a_sheets1 a_sheets2 a_sheets3 a_sheets0_items a_sheets1_items a_sheets2_items a_sheets3_items f_stale f_finding f_guesses_size f_guesses_list f_sheets0_form f_sheets0_size f_sheets0_items f_sheets1_form f_sheets1_size f_sheets1_items f_sheets2_form f_sheets2_size f_sheets2_items f_sheets3_form f_sheets3_size f_sheets3_items) → va_S A s.heap H locs → ∀ ls : Array Slot, lv_has ls 4 [(0, .ref a_this)] → W p l e RM_ND_read s m args below meth c H locs 0 0 (MQ below (QM D (some (.int r)) (w_ND_read ct a_this a_texts a_names a_pieces a_song a_fitting a_deal a_guesses a_wise a_spy a_sheets a_guesses_list a_sheets0 a_sheets1 a_sheets2 a_sheets3 a_sheets0_items a_sheets1_items a_sheets2_items a_sheets3_items f_stale r_finding r_guesses_size r_guesses_list f_sheets0_form f_sheets0_size f_sheets0_items f_sheets1_form f_sheets1_size f_sheets1_items f_sheets2_form f_sheets2_size f_sheets2_items f_sheets3_form f_sheets3_size f_sheets3_items) A) args s 0 0 A) (F0 m 89 ls []) := by
  obtain ⟨hx, hb, hr, hml, hown, hts, hlk, hK, hN⟩ := id C
  intro f_finding f_guesses_size f_guesses_list hf H locs hP hD hS ls hl
  unfold ND_read_b89v0 at hf
  refine lv_aload_n hx hb dX10_read_89 rfl (lv_at hl 0 rfl) ?_
  refine va_get (ci := 10) (v := .ref a_guesses) (C := RX10) (T := TX10) (N := 12) hx hb hts inX10 hown hK hP 0 rfl rfl 6 (by decide) (hts _ tw_289) (fun _ h9 => h9) rfl dX10_read_90 ?_
  obtain ⟨v93, hc93, hf⟩ := cb1_some hf
  refine kcRV (q0 := 1) (ci := 2) (As := []) (rest := []) (st1 := [.int v93]) C (c_Gu_size l D ct a_guesses a_guesses_list f_guesses_size v93 hc93) ⟨rfl, rfl⟩ yn_yX2_size tw_534 tw_535 tw_533 ⟨Nat.le_of_ble_eq_true rfl, Nat.le_of_ble_eq_true rfl⟩ ⟨Nat.zero_le _, Nat.zero_le _⟩ hP [1] rfl rfl rfl rfl hl.1 rfl rfl (Nat.le_of_ble_eq_true rfl) dX10_read_93 rfl ?_
  obtain ⟨e1, e2, e3, e4⟩ := ti4 hf
  subst e1; subst e2; subst e3; subst e4
  exact kretM C hP hD hS dX10_read_96
set_option maxHeartbeats 4000000 in
set_option maxRecDepth 100000 in
theorem t_ND_read_b89v1 {p : Program} {l : Launch} {e : Env} {s : State} {m : MethodId} {args : Array Value} {below : List Frame} {meth : Method} {c : Code} {D : va_G} {ct : Nat → ClassId} (C : CX p s m args meth c RX10 cX10_read 4 (some .int) D ct) {A : Nat → Prop} (hA : ∀ q : Nat, s.heap.size ≤ q → A q) (a_this a_texts a_names a_pieces a_song a_fitting a_deal a_guesses a_wise a_spy a_sheets a_guesses_list a_sheets0 a_sheets1 a_sheets2 a_sheets3 a_sheets0_items a_sheets1_items a_sheets2_items a_sheets3_items : Nat) (f_stale : Int32) (f_sheets0_form : Int32) (f_sheets1_form : Int32) (f_sheets2_form : Int32) (f_sheets3_form : Int32) (F : Nat) (f_sheets0_size : Int32) (f_sheets0_items : Nat → Int32) (f_sheets1_size : Int32) (f_sheets1_items : Nat → Int32) (f_sheets2_size : Int32) (f_sheets2_items : Nat → Int32) (f_sheets3_size : Int32) (f_sheets3_items : Nat → Int32) (x1 : Int32) (r : Int32) (r_finding : Int32) (r_guesses_size : Int32) (r_guesses_list : Nat → Int32) (hs_1 : x1 = 2) : ∀ (f_finding : Int32) (f_guesses_size : Int32) (f_guesses_list : Nat → Int32), ND_read_b89v1 F f_sheets0_size f_sheets0_items f_sheets1_size f_sheets1_items f_sheets2_size f_sheets2_items f_sheets3_size f_sheets3_items x1 f_finding f_guesses_size f_guesses_list = some (r, r_finding, r_guesses_size, r_guesses_list) → ∀ (H : Heap) (locs : List Loc), va_P D vwCl (w_ND_read ct a_this a_texts a_names a_pieces a_song a_fitting a_deal a_guesses a_wise a_spy a_sheets a_guesses_list a_sheets0 a_sheets1 a_sheets2 a_sheets3 a_sheets0_items a_sheets1_items a_sheets2_items a_sheets3_items f_stale f_finding f_guesses_size f_guesses_list f_sheets0_form f_sheets0_size f_sheets0_items f_sheets1_form f_sheets1_size f_sheets1_items f_sheets2_form f_sheets2_size f_sheets2_items f_sheets3_form f_sheets3_size f_sheets3_items) H → va_D A (w_ND_read ct a_this a_texts a_names a_pieces a_song a_fitting a_deal a_guesses a_wise a_spy a_sheets a_guesses_list a_sheets0 a_sheets1 a_sheets2 a_sheets3 a_sheets0_items a_sheets1_items a_sheets2_items a_sheets3_items f_stale f_finding f_guesses_size f_guesses_list f_sheets0_form f_sheets0_size f_sheets0_items f_sheets1_form f_sheets1_size f_sheets1_items f_sheets2_form f_sheets2_size f_sheets2_items f_sheets3_form f_sheets3_size f_sheets3_items) → va_S A s.heap H locs → ∀ ls : Array Slot, lv_has ls 4 [(0, .ref a_this)] → W p l e RM_ND_read s m args below meth c H locs 0 0 (MQ below (QM D (some (.int r)) (w_ND_read ct a_this a_texts a_names a_pieces a_song a_fitting a_deal a_guesses a_wise a_spy a_sheets a_guesses_list a_sheets0 a_sheets1 a_sheets2 a_sheets3 a_sheets0_items a_sheets1_items a_sheets2_items a_sheets3_items f_stale r_finding r_guesses_size r_guesses_list f_sheets0_form f_sheets0_size f_sheets0_items f_sheets1_form f_sheets1_size f_sheets1_items f_sheets2_form f_sheets2_size f_sheets2_items f_sheets3_form f_sheets3_size f_sheets3_items) A) args s 0 0 A) (F0 m 89 ls []) := by
  obtain ⟨hx, hb, hr, hml, hown, hts, hlk, hK, hN⟩ := id C
  intro f_finding f_guesses_size f_guesses_list hf H locs hP hD hS ls hl
  unfold ND_read_b89v1 at hf
  refine lv_aload_n hx hb dX10_read_89 rfl (lv_at hl 0 rfl) ?_
  refine va_get (ci := 10) (v := .ref a_guesses) (C := RX10) (T := TX10) (N := 12) hx hb hts inX10 hown hK hP 0 rfl rfl 6 (by decide) (hts _ tw_289) (fun _ h9 => h9) rfl dX10_read_90 ?_
  obtain ⟨v93, hc93, hf⟩ := cb1_some hf
  refine kcRV (q0 := 1) (ci := 2) (As := []) (rest := []) (st1 := [.int v93]) C (c_Gu_size l D ct a_guesses a_guesses_list f_guesses_size v93 hc93) ⟨rfl, rfl⟩ yn_yX2_size tw_534 tw_535 tw_533 ⟨Nat.le_of_ble_eq_true rfl, Nat.le_of_ble_eq_true rfl⟩ ⟨Nat.zero_le _, Nat.zero_le _⟩ hP [1] rfl rfl rfl rfl hl.1 rfl rfl (Nat.le_of_ble_eq_true rfl) dX10_read_93 rfl ?_
  obtain ⟨e1, e2, e3, e4⟩ := ti4 hf
  subst e1; subst e2; subst e3; subst e4
  exact kretM C hP hD hS dX10_read_96
set_option maxHeartbeats 4000000 in
set_option maxRecDepth 100000 in
theorem t_ND_read_b89v2 {p : Program} {l : Launch} {e : Env} {s : State} {m : MethodId} {args : Array Value} {below : List Frame} {meth : Method} {c : Code} {D : va_G} {ct : Nat → ClassId} (C : CX p s m args meth c RX10 cX10_read 4 (some .int) D ct) {A : Nat → Prop} (hA : ∀ q : Nat, s.heap.size ≤ q → A q) (a_this a_texts a_names a_pieces a_song a_fitting a_deal a_guesses a_wise a_spy a_sheets a_guesses_list a_sheets0 a_sheets1 a_sheets2 a_sheets3 a_sheets0_items a_sheets1_items a_sheets2_items a_sheets3_items : Nat) (f_stale : Int32) (f_sheets0_form : Int32) (f_sheets1_form : Int32) (f_sheets2_form : Int32) (f_sheets3_form : Int32) (F : Nat) (f_sheets0_size : Int32) (f_sheets0_items : Nat → Int32) (f_sheets1_size : Int32) (f_sheets1_items : Nat → Int32) (f_sheets2_size : Int32) (f_sheets2_items : Nat → Int32) (f_sheets3_size : Int32) (f_sheets3_items : Nat → Int32) (x1 : Int32) (r : Int32) (r_finding : Int32) (r_guesses_size : Int32) (r_guesses_list : Nat → Int32) (hs_1 : x1 = 1) : ∀ (f_finding : Int32) (f_guesses_size : Int32) (f_guesses_list : Nat → Int32), ND_read_b89v2 F f_sheets0_size f_sheets0_items f_sheets1_size f_sheets1_items f_sheets2_size f_sheets2_items f_sheets3_size f_sheets3_items x1 f_finding f_guesses_size f_guesses_list = some (r, r_finding, r_guesses_size, r_guesses_list) → ∀ (H : Heap) (locs : List Loc), va_P D vwCl (w_ND_read ct a_this a_texts a_names a_pieces a_song a_fitting a_deal a_guesses a_wise a_spy a_sheets a_guesses_list a_sheets0 a_sheets1 a_sheets2 a_sheets3 a_sheets0_items a_sheets1_items a_sheets2_items a_sheets3_items f_stale f_finding f_guesses_size f_guesses_list f_sheets0_form f_sheets0_size f_sheets0_items f_sheets1_form f_sheets1_size f_sheets1_items f_sheets2_form f_sheets2_size f_sheets2_items f_sheets3_form f_sheets3_size f_sheets3_items) H → va_D A (w_ND_read ct a_this a_texts a_names a_pieces a_song a_fitting a_deal a_guesses a_wise a_spy a_sheets a_guesses_list a_sheets0 a_sheets1 a_sheets2 a_sheets3 a_sheets0_items a_sheets1_items a_sheets2_items a_sheets3_items f_stale f_finding f_guesses_size f_guesses_list f_sheets0_form f_sheets0_size f_sheets0_items f_sheets1_form f_sheets1_size f_sheets1_items f_sheets2_form f_sheets2_size f_sheets2_items f_sheets3_form f_sheets3_size f_sheets3_items) → va_S A s.heap H locs → ∀ ls : Array Slot, lv_has ls 4 [(0, .ref a_this)] → W p l e RM_ND_read s m args below meth c H locs 0 0 (MQ below (QM D (some (.int r)) (w_ND_read ct a_this a_texts a_names a_pieces a_song a_fitting a_deal a_guesses a_wise a_spy a_sheets a_guesses_list a_sheets0 a_sheets1 a_sheets2 a_sheets3 a_sheets0_items a_sheets1_items a_sheets2_items a_sheets3_items f_stale r_finding r_guesses_size r_guesses_list f_sheets0_form f_sheets0_size f_sheets0_items f_sheets1_form f_sheets1_size f_sheets1_items f_sheets2_form f_sheets2_size f_sheets2_items f_sheets3_form f_sheets3_size f_sheets3_items) A) args s 0 0 A) (F0 m 89 ls []) := by
  obtain ⟨hx, hb, hr, hml, hown, hts, hlk, hK, hN⟩ := id C
  intro f_finding f_guesses_size f_guesses_list hf H locs hP hD hS ls hl
  unfold ND_read_b89v2 at hf
  refine lv_aload_n hx hb dX10_read_89 rfl (lv_at hl 0 rfl) ?_
  refine va_get (ci := 10) (v := .ref a_guesses) (C := RX10) (T := TX10) (N := 12) hx hb hts inX10 hown hK hP 0 rfl rfl 6 (by decide) (hts _ tw_289) (fun _ h9 => h9) rfl dX10_read_90 ?_
  obtain ⟨v93, hc93, hf⟩ := cb1_some hf
  refine kcRV (q0 := 1) (ci := 2) (As := []) (rest := []) (st1 := [.int v93]) C (c_Gu_size l D ct a_guesses a_guesses_list f_guesses_size v93 hc93) ⟨rfl, rfl⟩ yn_yX2_size tw_534 tw_535 tw_533 ⟨Nat.le_of_ble_eq_true rfl, Nat.le_of_ble_eq_true rfl⟩ ⟨Nat.zero_le _, Nat.zero_le _⟩ hP [1] rfl rfl rfl rfl hl.1 rfl rfl (Nat.le_of_ble_eq_true rfl) dX10_read_93 rfl ?_
  obtain ⟨e1, e2, e3, e4⟩ := ti4 hf
  subst e1; subst e2; subst e3; subst e4
  exact kretM C hP hD hS dX10_read_96
set_option maxHeartbeats 4000000 in
set_option maxRecDepth 100000 in
theorem t_ND_read_b89v3 {p : Program} {l : Launch} {e : Env} {s : State} {m : MethodId} {args : Array Value} {below : List Frame} {meth : Method} {c : Code} {D : va_G} {ct : Nat → ClassId} (C : CX p s m args meth c RX10 cX10_read 4 (some .int) D ct) {A : Nat → Prop} (hA : ∀ q : Nat, s.heap.size ≤ q → A q) (a_this a_texts a_names a_pieces a_song a_fitting a_deal a_guesses a_wise a_spy a_sheets a_guesses_list a_sheets0 a_sheets1 a_sheets2 a_sheets3 a_sheets0_items a_sheets1_items a_sheets2_items a_sheets3_items : Nat) (f_stale : Int32) (f_sheets0_form : Int32) (f_sheets1_form : Int32) (f_sheets2_form : Int32) (f_sheets3_form : Int32) (F : Nat) (f_sheets0_size : Int32) (f_sheets0_items : Nat → Int32) (f_sheets1_size : Int32) (f_sheets1_items : Nat → Int32) (f_sheets2_size : Int32) (f_sheets2_items : Nat → Int32) (f_sheets3_size : Int32) (f_sheets3_items : Nat → Int32) (x1 : Int32) (r : Int32) (r_finding : Int32) (r_guesses_size : Int32) (r_guesses_list : Nat → Int32) (hs_1 : x1 = 0) : ∀ (f_finding : Int32) (f_guesses_size : Int32) (f_guesses_list : Nat → Int32), ND_read_b89v3 F f_sheets0_size f_sheets0_items f_sheets1_size f_sheets1_items f_sheets2_size f_sheets2_items f_sheets3_size f_sheets3_items x1 f_finding f_guesses_size f_guesses_list = some (r, r_finding, r_guesses_size, r_guesses_list) → ∀ (H : Heap) (locs : List Loc), va_P D vwCl (w_ND_read ct a_this a_texts a_names a_pieces a_song a_fitting a_deal a_guesses a_wise a_spy a_sheets a_guesses_list a_sheets0 a_sheets1 a_sheets2 a_sheets3 a_sheets0_items a_sheets1_items a_sheets2_items a_sheets3_items f_stale f_finding f_guesses_size f_guesses_list f_sheets0_form f_sheets0_size f_sheets0_items f_sheets1_form f_sheets1_size f_sheets1_items f_sheets2_form f_sheets2_size f_sheets2_items f_sheets3_form f_sheets3_size f_sheets3_items) H → va_D A (w_ND_read ct a_this a_texts a_names a_pieces a_song a_fitting a_deal a_guesses a_wise a_spy a_sheets a_guesses_list a_sheets0 a_sheets1 a_sheets2 a_sheets3 a_sheets0_items a_sheets1_items a_sheets2_items a_sheets3_items f_stale f_finding f_guesses_size f_guesses_list f_sheets0_form f_sheets0_size f_sheets0_items f_sheets1_form f_sheets1_size f_sheets1_items f_sheets2_form f_sheets2_size f_sheets2_items f_sheets3_form f_sheets3_size f_sheets3_items) → va_S A s.heap H locs → ∀ ls : Array Slot, lv_has ls 4 [(0, .ref a_this)] → W p l e RM_ND_read s m args below meth c H locs 0 0 (MQ below (QM D (some (.int r)) (w_ND_read ct a_this a_texts a_names a_pieces a_song a_fitting a_deal a_guesses a_wise a_spy a_sheets a_guesses_list a_sheets0 a_sheets1 a_sheets2 a_sheets3 a_sheets0_items a_sheets1_items a_sheets2_items a_sheets3_items f_stale r_finding r_guesses_size r_guesses_list f_sheets0_form f_sheets0_size f_sheets0_items f_sheets1_form f_sheets1_size f_sheets1_items f_sheets2_form f_sheets2_size f_sheets2_items f_sheets3_form f_sheets3_size f_sheets3_items) A) args s 0 0 A) (F0 m 89 ls []) := by
  obtain ⟨hx, hb, hr, hml, hown, hts, hlk, hK, hN⟩ := id C
  intro f_finding f_guesses_size f_guesses_list hf H locs hP hD hS ls hl
  unfold ND_read_b89v3 at hf
  refine lv_aload_n hx hb dX10_read_89 rfl (lv_at hl 0 rfl) ?_
  refine va_get (ci := 10) (v := .ref a_guesses) (C := RX10) (T := TX10) (N := 12) hx hb hts inX10 hown hK hP 0 rfl rfl 6 (by decide) (hts _ tw_289) (fun _ h9 => h9) rfl dX10_read_90 ?_
  obtain ⟨v93, hc93, hf⟩ := cb1_some hf
  refine kcRV (q0 := 1) (ci := 2) (As := []) (rest := []) (st1 := [.int v93]) C (c_Gu_size l D ct a_guesses a_guesses_list f_guesses_size v93 hc93) ⟨rfl, rfl⟩ yn_yX2_size tw_534 tw_535 tw_533 ⟨Nat.le_of_ble_eq_true rfl, Nat.le_of_ble_eq_true rfl⟩ ⟨Nat.zero_le _, Nat.zero_le _⟩ hP [1] rfl rfl rfl rfl hl.1 rfl rfl (Nat.le_of_ble_eq_true rfl) dX10_read_93 rfl ?_
  obtain ⟨e1, e2, e3, e4⟩ := ti4 hf
  subst e1; subst e2; subst e3; subst e4
  exact kretM C hP hD hS dX10_read_96
set_option maxHeartbeats 4000000 in
set_option maxRecDepth 100000 in
theorem t_ND_read_b68v0 {p : Program} {l : Launch} {e : Env} {s : State} {m : MethodId} {args : Array Value} {below : List Frame} {meth : Method} {c : Code} {D : va_G} {ct : Nat → ClassId} (C : CX p s m args meth c RX10 cX10_read 4 (some .int) D ct) {A : Nat → Prop} (hA : ∀ q : Nat, s.heap.size ≤ q → A q) (a_this a_texts a_names a_pieces a_song a_fitting a_deal a_guesses a_wise a_spy a_sheets a_guesses_list a_sheets0 a_sheets1 a_sheets2 a_sheets3 a_sheets0_items a_sheets1_items a_sheets2_items a_sheets3_items : Nat) (f_stale : Int32) (f_sheets0_form : Int32) (f_sheets1_form : Int32) (f_sheets2_form : Int32) (f_sheets3_form : Int32) (F : Nat) (f_sheets0_size : Int32) (f_sheets0_items : Nat → Int32) (f_sheets1_size : Int32) (f_sheets1_items : Nat → Int32) (f_sheets2_size : Int32) (f_sheets2_items : Nat → Int32) (f_sheets3_size : Int32) (f_sheets3_items : Nat → Int32) (x1 : Int32) (r : Int32) (r_finding : Int32) (r_guesses_size : Int32) (r_guesses_list : Nat → Int32) (hs_1 : x1 = 3) : ∀ (f_finding : Int32) (f_guesses_size : Int32) (f_guesses_list : Nat → Int32), ND_read_b68v0 F f_sheets0_size f_sheets0_items f_sheets1_size f_sheets1_items f_sheets2_size f_sheets2_items f_sheets3_size f_sheets3_items x1 f_finding f_guesses_size f_guesses_list = some (r, r_finding, r_guesses_size, r_guesses_list) → ∀ (H : Heap) (locs : List Loc), va_P D vwCl (w_ND_read ct a_this a_texts a_names a_pieces a_song a_fitting a_deal a_guesses a_wise a_spy a_sheets a_guesses_list a_sheets0 a_sheets1 a_sheets2 a_sheets3 a_sheets0_items a_sheets1_items a_sheets2_items a_sheets3_items f_stale f_finding f_guesses_size f_guesses_list f_sheets0_form f_sheets0_size f_sheets0_items f_sheets1_form f_sheets1_size f_sheets1_items f_sheets2_form f_sheets2_size f_sheets2_items f_sheets3_form f_sheets3_size f_sheets3_items) H → va_D A (w_ND_read ct a_this a_texts a_names a_pieces a_song a_fitting a_deal a_guesses a_wise a_spy a_sheets a_guesses_list a_sheets0 a_sheets1 a_sheets2 a_sheets3 a_sheets0_items a_sheets1_items a_sheets2_items a_sheets3_items f_stale f_finding f_guesses_size f_guesses_list f_sheets0_form f_sheets0_size f_sheets0_items f_sheets1_form f_sheets1_size f_sheets1_items f_sheets2_form f_sheets2_size f_sheets2_items f_sheets3_form f_sheets3_size f_sheets3_items) → va_S A s.heap H locs → ∀ ls : Array Slot, lv_has ls 4 [(0, .ref a_this)] → W p l e RM_ND_read s m args below meth c H locs 0 0 (MQ below (QM D (some (.int r)) (w_ND_read ct a_this a_texts a_names a_pieces a_song a_fitting a_deal a_guesses a_wise a_spy a_sheets a_guesses_list a_sheets0 a_sheets1 a_sheets2 a_sheets3 a_sheets0_items a_sheets1_items a_sheets2_items a_sheets3_items f_stale r_finding r_guesses_size r_guesses_list f_sheets0_form f_sheets0_size f_sheets0_items f_sheets1_form f_sheets1_size f_sheets1_items f_sheets2_form f_sheets2_size f_sheets2_items f_sheets3_form f_sheets3_size f_sheets3_items) A) args s 0 0 A) (F0 m 68 ls []) := by
  obtain ⟨hx, hb, hr, hml, hown, hts, hlk, hK, hN⟩ := id C
  intro f_finding f_guesses_size f_guesses_list hf H locs hP hD hS ls hl
  unfold ND_read_b68v0 at hf
  refine lv_goto (tgt := 89) hx hb dX10_read_68 (by decide) ?_
  exact t_ND_read_b89v0 C hA a_this a_texts a_names a_pieces a_song a_fitting a_deal a_guesses a_wise a_spy a_sheets a_guesses_list a_sheets0 a_sheets1 a_sheets2 a_sheets3 a_sheets0_items a_sheets1_items a_sheets2_items a_sheets3_items f_stale f_sheets0_form f_sheets1_form f_sheets2_form f_sheets3_form F f_sheets0_size f_sheets0_items f_sheets1_size f_sheets1_items f_sheets2_size f_sheets2_items f_sheets3_size f_sheets3_items x1 r r_finding r_guesses_size r_guesses_list hs_1 f_finding f_guesses_size f_guesses_list hf _ _ hP hD hS _ (lv_sub hl [0] rfl)
set_option maxHeartbeats 4000000 in
set_option maxRecDepth 100000 in
theorem t_ND_read_b68v1 {p : Program} {l : Launch} {e : Env} {s : State} {m : MethodId} {args : Array Value} {below : List Frame} {meth : Method} {c : Code} {D : va_G} {ct : Nat → ClassId} (C : CX p s m args meth c RX10 cX10_read 4 (some .int) D ct) {A : Nat → Prop} (hA : ∀ q : Nat, s.heap.size ≤ q → A q) (a_this a_texts a_names a_pieces a_song a_fitting a_deal a_guesses a_wise a_spy a_sheets a_guesses_list a_sheets0 a_sheets1 a_sheets2 a_sheets3 a_sheets0_items a_sheets1_items a_sheets2_items a_sheets3_items : Nat) (f_stale : Int32) (f_sheets0_form : Int32) (f_sheets1_form : Int32) (f_sheets2_form : Int32) (f_sheets3_form : Int32) (F : Nat) (f_sheets0_size : Int32) (f_sheets0_items : Nat → Int32) (f_sheets1_size : Int32) (f_sheets1_items : Nat → Int32) (f_sheets2_size : Int32) (f_sheets2_items : Nat → Int32) (f_sheets3_size : Int32) (f_sheets3_items : Nat → Int32) (x1 : Int32) (r : Int32) (r_finding : Int32) (r_guesses_size : Int32) (r_guesses_list : Nat → Int32) (hs_1 : x1 = 2) : ∀ (f_finding : Int32) (f_guesses_size : Int32) (f_guesses_list : Nat → Int32), ND_read_b68v1 F f_sheets0_size f_sheets0_items f_sheets1_size f_sheets1_items f_sheets2_size f_sheets2_items f_sheets3_size f_sheets3_items x1 f_finding f_guesses_size f_guesses_list = some (r, r_finding, r_guesses_size, r_guesses_list) → ∀ (H : Heap) (locs : List Loc), va_P D vwCl (w_ND_read ct a_this a_texts a_names a_pieces a_song a_fitting a_deal a_guesses a_wise a_spy a_sheets a_guesses_list a_sheets0 a_sheets1 a_sheets2 a_sheets3 a_sheets0_items a_sheets1_items a_sheets2_items a_sheets3_items f_stale f_finding f_guesses_size f_guesses_list f_sheets0_form f_sheets0_size f_sheets0_items f_sheets1_form f_sheets1_size f_sheets1_items f_sheets2_form f_sheets2_size f_sheets2_items f_sheets3_form f_sheets3_size f_sheets3_items) H → va_D A (w_ND_read ct a_this a_texts a_names a_pieces a_song a_fitting a_deal a_guesses a_wise a_spy a_sheets a_guesses_list a_sheets0 a_sheets1 a_sheets2 a_sheets3 a_sheets0_items a_sheets1_items a_sheets2_items a_sheets3_items f_stale f_finding f_guesses_size f_guesses_list f_sheets0_form f_sheets0_size f_sheets0_items f_sheets1_form f_sheets1_size f_sheets1_items f_sheets2_form f_sheets2_size f_sheets2_items f_sheets3_form f_sheets3_size f_sheets3_items) → va_S A s.heap H locs → ∀ ls : Array Slot, lv_has ls 4 [(0, .ref a_this)] → W p l e RM_ND_read s m args below meth c H locs 0 0 (MQ below (QM D (some (.int r)) (w_ND_read ct a_this a_texts a_names a_pieces a_song a_fitting a_deal a_guesses a_wise a_spy a_sheets a_guesses_list a_sheets0 a_sheets1 a_sheets2 a_sheets3 a_sheets0_items a_sheets1_items a_sheets2_items a_sheets3_items f_stale r_finding r_guesses_size r_guesses_list f_sheets0_form f_sheets0_size f_sheets0_items f_sheets1_form f_sheets1_size f_sheets1_items f_sheets2_form f_sheets2_size f_sheets2_items f_sheets3_form f_sheets3_size f_sheets3_items) A) args s 0 0 A) (F0 m 68 ls []) := by
  obtain ⟨hx, hb, hr, hml, hown, hts, hlk, hK, hN⟩ := id C
  intro f_finding f_guesses_size f_guesses_list hf H locs hP hD hS ls hl
  unfold ND_read_b68v1 at hf
  refine lv_goto (tgt := 89) hx hb dX10_read_68 (by decide) ?_
  exact t_ND_read_b89v1 C hA a_this a_texts a_names a_pieces a_song a_fitting a_deal a_guesses a_wise a_spy a_sheets a_guesses_list a_sheets0 a_sheets1 a_sheets2 a_sheets3 a_sheets0_items a_sheets1_items a_sheets2_items a_sheets3_items f_stale f_sheets0_form f_sheets1_form f_sheets2_form f_sheets3_form F f_sheets0_size f_sheets0_items f_sheets1_size f_sheets1_items f_sheets2_size f_sheets2_items f_sheets3_size f_sheets3_items x1 r r_finding r_guesses_size r_guesses_list hs_1 f_finding f_guesses_size f_guesses_list hf _ _ hP hD hS _ (lv_sub hl [0] rfl)
set_option maxHeartbeats 4000000 in
set_option maxRecDepth 100000 in
theorem t_ND_read_b68v2 {p : Program} {l : Launch} {e : Env} {s : State} {m : MethodId} {args : Array Value} {below : List Frame} {meth : Method} {c : Code} {D : va_G} {ct : Nat → ClassId} (C : CX p s m args meth c RX10 cX10_read 4 (some .int) D ct) {A : Nat → Prop} (hA : ∀ q : Nat, s.heap.size ≤ q → A q) (a_this a_texts a_names a_pieces a_song a_fitting a_deal a_guesses a_wise a_spy a_sheets a_guesses_list a_sheets0 a_sheets1 a_sheets2 a_sheets3 a_sheets0_items a_sheets1_items a_sheets2_items a_sheets3_items : Nat) (f_stale : Int32) (f_sheets0_form : Int32) (f_sheets1_form : Int32) (f_sheets2_form : Int32) (f_sheets3_form : Int32) (F : Nat) (f_sheets0_size : Int32) (f_sheets0_items : Nat → Int32) (f_sheets1_size : Int32) (f_sheets1_items : Nat → Int32) (f_sheets2_size : Int32) (f_sheets2_items : Nat → Int32) (f_sheets3_size : Int32) (f_sheets3_items : Nat → Int32) (x1 : Int32) (r : Int32) (r_finding : Int32) (r_guesses_size : Int32) (r_guesses_list : Nat → Int32) (hs_1 : x1 = 1) : ∀ (f_finding : Int32) (f_guesses_size : Int32) (f_guesses_list : Nat → Int32), ND_read_b68v2 F f_sheets0_size f_sheets0_items f_sheets1_size f_sheets1_items f_sheets2_size f_sheets2_items f_sheets3_size f_sheets3_items x1 f_finding f_guesses_size f_guesses_list = some (r, r_finding, r_guesses_size, r_guesses_list) → ∀ (H : Heap) (locs : List Loc), va_P D vwCl (w_ND_read ct a_this a_texts a_names a_pieces a_song a_fitting a_deal a_guesses a_wise a_spy a_sheets a_guesses_list a_sheets0 a_sheets1 a_sheets2 a_sheets3 a_sheets0_items a_sheets1_items a_sheets2_items a_sheets3_items f_stale f_finding f_guesses_size f_guesses_list f_sheets0_form f_sheets0_size f_sheets0_items f_sheets1_form f_sheets1_size f_sheets1_items f_sheets2_form f_sheets2_size f_sheets2_items f_sheets3_form f_sheets3_size f_sheets3_items) H → va_D A (w_ND_read ct a_this a_texts a_names a_pieces a_song a_fitting a_deal a_guesses a_wise a_spy a_sheets a_guesses_list a_sheets0 a_sheets1 a_sheets2 a_sheets3 a_sheets0_items a_sheets1_items a_sheets2_items a_sheets3_items f_stale f_finding f_guesses_size f_guesses_list f_sheets0_form f_sheets0_size f_sheets0_items f_sheets1_form f_sheets1_size f_sheets1_items f_sheets2_form f_sheets2_size f_sheets2_items f_sheets3_form f_sheets3_size f_sheets3_items) → va_S A s.heap H locs → ∀ ls : Array Slot, lv_has ls 4 [(0, .ref a_this)] → W p l e RM_ND_read s m args below meth c H locs 0 0 (MQ below (QM D (some (.int r)) (w_ND_read ct a_this a_texts a_names a_pieces a_song a_fitting a_deal a_guesses a_wise a_spy a_sheets a_guesses_list a_sheets0 a_sheets1 a_sheets2 a_sheets3 a_sheets0_items a_sheets1_items a_sheets2_items a_sheets3_items f_stale r_finding r_guesses_size r_guesses_list f_sheets0_form f_sheets0_size f_sheets0_items f_sheets1_form f_sheets1_size f_sheets1_items f_sheets2_form f_sheets2_size f_sheets2_items f_sheets3_form f_sheets3_size f_sheets3_items) A) args s 0 0 A) (F0 m 68 ls []) := by
  obtain ⟨hx, hb, hr, hml, hown, hts, hlk, hK, hN⟩ := id C
  intro f_finding f_guesses_size f_guesses_list hf H locs hP hD hS ls hl
  unfold ND_read_b68v2 at hf
  refine lv_goto (tgt := 89) hx hb dX10_read_68 (by decide) ?_
  exact t_ND_read_b89v2 C hA a_this a_texts a_names a_pieces a_song a_fitting a_deal a_guesses a_wise a_spy a_sheets a_guesses_list a_sheets0 a_sheets1 a_sheets2 a_sheets3 a_sheets0_items a_sheets1_items a_sheets2_items a_sheets3_items f_stale f_sheets0_form f_sheets1_form f_sheets2_form f_sheets3_form F f_sheets0_size f_sheets0_items f_sheets1_size f_sheets1_items f_sheets2_size f_sheets2_items f_sheets3_size f_sheets3_items x1 r r_finding r_guesses_size r_guesses_list hs_1 f_finding f_guesses_size f_guesses_list hf _ _ hP hD hS _ (lv_sub hl [0] rfl)
set_option maxHeartbeats 4000000 in
set_option maxRecDepth 100000 in
theorem t_ND_read_b68v3 {p : Program} {l : Launch} {e : Env} {s : State} {m : MethodId} {args : Array Value} {below : List Frame} {meth : Method} {c : Code} {D : va_G} {ct : Nat → ClassId} (C : CX p s m args meth c RX10 cX10_read 4 (some .int) D ct) {A : Nat → Prop} (hA : ∀ q : Nat, s.heap.size ≤ q → A q) (a_this a_texts a_names a_pieces a_song a_fitting a_deal a_guesses a_wise a_spy a_sheets a_guesses_list a_sheets0 a_sheets1 a_sheets2 a_sheets3 a_sheets0_items a_sheets1_items a_sheets2_items a_sheets3_items : Nat) (f_stale : Int32) (f_sheets0_form : Int32) (f_sheets1_form : Int32) (f_sheets2_form : Int32) (f_sheets3_form : Int32) (F : Nat) (f_sheets0_size : Int32) (f_sheets0_items : Nat → Int32) (f_sheets1_size : Int32) (f_sheets1_items : Nat → Int32) (f_sheets2_size : Int32) (f_sheets2_items : Nat → Int32) (f_sheets3_size : Int32) (f_sheets3_items : Nat → Int32) (x1 : Int32) (r : Int32) (r_finding : Int32) (r_guesses_size : Int32) (r_guesses_list : Nat → Int32) (hs_1 : x1 = 0) : ∀ (f_finding : Int32) (f_guesses_size : Int32) (f_guesses_list : Nat → Int32), ND_read_b68v3 F f_sheets0_size f_sheets0_items f_sheets1_size f_sheets1_items f_sheets2_size f_sheets2_items f_sheets3_size f_sheets3_items x1 f_finding f_guesses_size f_guesses_list = some (r, r_finding, r_guesses_size, r_guesses_list) → ∀ (H : Heap) (locs : List Loc), va_P D vwCl (w_ND_read ct a_this a_texts a_names a_pieces a_song a_fitting a_deal a_guesses a_wise a_spy a_sheets a_guesses_list a_sheets0 a_sheets1 a_sheets2 a_sheets3 a_sheets0_items a_sheets1_items a_sheets2_items a_sheets3_items f_stale f_finding f_guesses_size f_guesses_list f_sheets0_form f_sheets0_size f_sheets0_items f_sheets1_form f_sheets1_size f_sheets1_items f_sheets2_form f_sheets2_size f_sheets2_items f_sheets3_form f_sheets3_size f_sheets3_items) H → va_D A (w_ND_read ct a_this a_texts a_names a_pieces a_song a_fitting a_deal a_guesses a_wise a_spy a_sheets a_guesses_list a_sheets0 a_sheets1 a_sheets2 a_sheets3 a_sheets0_items a_sheets1_items a_sheets2_items a_sheets3_items f_stale f_finding f_guesses_size f_guesses_list f_sheets0_form f_sheets0_size f_sheets0_items f_sheets1_form f_sheets1_size f_sheets1_items f_sheets2_form f_sheets2_size f_sheets2_items f_sheets3_form f_sheets3_size f_sheets3_items) → va_S A s.heap H locs → ∀ ls : Array Slot, lv_has ls 4 [(0, .ref a_this)] → W p l e RM_ND_read s m args below meth c H locs 0 0 (MQ below (QM D (some (.int r)) (w_ND_read ct a_this a_texts a_names a_pieces a_song a_fitting a_deal a_guesses a_wise a_spy a_sheets a_guesses_list a_sheets0 a_sheets1 a_sheets2 a_sheets3 a_sheets0_items a_sheets1_items a_sheets2_items a_sheets3_items f_stale r_finding r_guesses_size r_guesses_list f_sheets0_form f_sheets0_size f_sheets0_items f_sheets1_form f_sheets1_size f_sheets1_items f_sheets2_form f_sheets2_size f_sheets2_items f_sheets3_form f_sheets3_size f_sheets3_items) A) args s 0 0 A) (F0 m 68 ls []) := by
  obtain ⟨hx, hb, hr, hml, hown, hts, hlk, hK, hN⟩ := id C
  intro f_finding f_guesses_size f_guesses_list hf H locs hP hD hS ls hl
  unfold ND_read_b68v3 at hf
  refine lv_goto (tgt := 89) hx hb dX10_read_68 (by decide) ?_
  exact t_ND_read_b89v3 C hA a_this a_texts a_names a_pieces a_song a_fitting a_deal a_guesses a_wise a_spy a_sheets a_guesses_list a_sheets0 a_sheets1 a_sheets2 a_sheets3 a_sheets0_items a_sheets1_items a_sheets2_items a_sheets3_items f_stale f_sheets0_form f_sheets1_form f_sheets2_form f_sheets3_form F f_sheets0_size f_sheets0_items f_sheets1_size f_sheets1_items f_sheets2_size f_sheets2_items f_sheets3_size f_sheets3_items x1 r r_finding r_guesses_size r_guesses_list hs_1 f_finding f_guesses_size f_guesses_list hf _ _ hP hD hS _ (lv_sub hl [0] rfl)
set_option maxHeartbeats 4000000 in
set_option maxRecDepth 100000 in
theorem t_ND_read_b39v0 {p : Program} {l : Launch} {e : Env} {s : State} {m : MethodId} {args : Array Value} {below : List Frame} {meth : Method} {c : Code} {D : va_G} {ct : Nat → ClassId} (C : CX p s m args meth c RX10 cX10_read 4 (some .int) D ct) {A : Nat → Prop} (hA : ∀ q : Nat, s.heap.size ≤ q → A q) (a_this a_texts a_names a_pieces a_song a_fitting a_deal a_guesses a_wise a_spy a_sheets a_guesses_list a_sheets0 a_sheets1 a_sheets2 a_sheets3 a_sheets0_items a_sheets1_items a_sheets2_items a_sheets3_items : Nat) (f_stale : Int32) (f_sheets0_form : Int32) (f_sheets1_form : Int32) (f_sheets2_form : Int32) (f_sheets3_form : Int32) (F : Nat) (f_sheets0_size : Int32) (f_sheets0_items : Nat → Int32) (f_sheets1_size : Int32) (f_sheets1_items : Nat → Int32) (f_sheets2_size : Int32) (f_sheets2_items : Nat → Int32) (f_sheets3_size : Int32) (f_sheets3_items : Nat → Int32) (x1 : Int32) (r : Int32) (r_finding : Int32) (r_guesses_size : Int32) (r_guesses_list : Nat → Int32) (rec39 : Int32 → Int32 → Int32 → (Nat → Int32) → Option (Int32 × Int32 × Int32 × (Nat → Int32))) (hr39 : ∀ (x3 : Int32) (f_finding : Int32) (f_guesses_size : Int32) (f_guesses_list : Nat → Int32), rec39 x3 f_finding f_guesses_size f_guesses_list = some (r, r_finding, r_guesses_size, r_guesses_list) → ∀ (H : Heap) (locs : List Loc), va_P D vwCl (w_ND_read ct a_this a_texts a_names a_pieces a_song a_fitting a_deal a_guesses a_wise a_spy a_sheets a_guesses_list a_sheets0 a_sheets1 a_sheets2 a_sheets3 a_sheets0_items a_sheets1_items a_sheets2_items a_sheets3_items f_stale f_finding f_guesses_size f_guesses_list f_sheets0_form f_sheets0_size f_sheets0_items f_sheets1_form f_sheets1_size f_sheets1_items f_sheets2_form f_sheets2_size f_sheets2_items f_sheets3_form f_sheets3_size f_sheets3_items) H → va_D A (w_ND_read ct a_this a_texts a_names a_pieces a_song a_fitting a_deal a_guesses a_wise a_spy a_sheets a_guesses_list a_sheets0 a_sheets1 a_sheets2 a_sheets3 a_sheets0_items a_sheets1_items a_sheets2_items a_sheets3_items f_stale f_finding f_guesses_size f_guesses_list f_sheets0_form f_sheets0_size f_sheets0_items f_sheets1_form f_sheets1_size f_sheets1_items f_sheets2_form f_sheets2_size f_sheets2_items f_sheets3_form f_sheets3_size f_sheets3_items) → va_S A s.heap H locs → ∀ ls : Array Slot, lv_has ls 4 [(0, .ref a_this), (2, .ref a_sheets3), (3, .int x3)] → W p l e RM_ND_read s m args below meth c H locs 0 0 (MQ below (QM D (some (.int r)) (w_ND_read ct a_this a_texts a_names a_pieces a_song a_fitting a_deal a_guesses a_wise a_spy a_sheets a_guesses_list a_sheets0 a_sheets1 a_sheets2 a_sheets3 a_sheets0_items a_sheets1_items a_sheets2_items a_sheets3_items f_stale r_finding r_guesses_size r_guesses_list f_sheets0_form f_sheets0_size f_sheets0_items f_sheets1_form f_sheets1_size f_sheets1_items f_sheets2_form f_sheets2_size f_sheets2_items f_sheets3_form f_sheets3_size f_sheets3_items) A) args s 0 0 A) (F0 m 39 ls [])) (hs_1 : x1 = 3) : ∀ (x3 : Int32) (f_finding : Int32) (f_guesses_size : Int32) (f_guesses_list : Nat → Int32), ND_read_b39v0 F f_sheets0_size f_sheets0_items f_sheets1_size f_sheets1_items f_sheets2_size f_sheets2_items f_sheets3_size f_sheets3_items x1 rec39 x3 f_finding f_guesses_size f_guesses_list = some (r, r_finding, r_guesses_size, r_guesses_list) → ∀ (H : Heap) (locs : List Loc), va_P D vwCl (w_ND_read ct a_this a_texts a_names a_pieces a_song a_fitting a_deal a_guesses a_wise a_spy a_sheets a_guesses_list a_sheets0 a_sheets1 a_sheets2 a_sheets3 a_sheets0_items a_sheets1_items a_sheets2_items a_sheets3_items f_stale f_finding f_guesses_size f_guesses_list f_sheets0_form f_sheets0_size f_sheets0_items f_sheets1_form f_sheets1_size f_sheets1_items f_sheets2_form f_sheets2_size f_sheets2_items f_sheets3_form f_sheets3_size f_sheets3_items) H → va_D A (w_ND_read ct a_this a_texts a_names a_pieces a_song a_fitting a_deal a_guesses a_wise a_spy a_sheets a_guesses_list a_sheets0 a_sheets1 a_sheets2 a_sheets3 a_sheets0_items a_sheets1_items a_sheets2_items a_sheets3_items f_stale f_finding f_guesses_size f_guesses_list f_sheets0_form f_sheets0_size f_sheets0_items f_sheets1_form f_sheets1_size f_sheets1_items f_sheets2_form f_sheets2_size f_sheets2_items f_sheets3_form f_sheets3_size f_sheets3_items) → va_S A s.heap H locs → ∀ ls : Array Slot, lv_has ls 4 [(0, .ref a_this), (2, .ref a_sheets3), (3, .int x3)] → W p l e RM_ND_read s m args below meth c H locs 0 0 (MQ below (QM D (some (.int r)) (w_ND_read ct a_this a_texts a_names a_pieces a_song a_fitting a_deal a_guesses a_wise a_spy a_sheets a_guesses_list a_sheets0 a_sheets1 a_sheets2 a_sheets3 a_sheets0_items a_sheets1_items a_sheets2_items a_sheets3_items f_stale r_finding r_guesses_size r_guesses_list f_sheets0_form f_sheets0_size f_sheets0_items f_sheets1_form f_sheets1_size f_sheets1_items f_sheets2_form f_sheets2_size f_sheets2_items f_sheets3_form f_sheets3_size f_sheets3_items) A) args s 0 0 A) (F0 m 39 ls []) := by
  obtain ⟨hx, hb, hr, hml, hown, hts, hlk, hK, hN⟩ := id C
  intro x3 f_finding f_guesses_size f_guesses_list hf H locs hP hD hS ls hl
  unfold ND_read_b39v0 at hf
  refine lv_iload_n hx hb dX10_read_39 rfl (lv_at hl 2 rfl) ?_
  refine lv_aload_n hx hb dX10_read_40 rfl (lv_at hl 1 rfl) ?_
  obtain ⟨v41, hc41, hf⟩ := cb1_some hf
  refine kcRV (q0 := 10) (ci := 5) (As := []) (rest := [.int x3]) (st1 := [.int v41, .int x3]) C (c_Sh_size l D ct a_sheets3 a_sheets3_items f_sheets3_form f_sheets3_size v41 hc41) ⟨rfl, rfl⟩ yn_yX5_size tw_565 tw_566 tw_564 ⟨Nat.le_of_ble_eq_true rfl, Nat.le_of_ble_eq_true rfl⟩ ⟨Nat.zero_le _, Nat.zero_le _⟩ hP [10] rfl rfl rfl rfl hl.1 rfl rfl (Nat.le_of_ble_eq_true rfl) dX10_read_41 rfl ?_
  refine lv_icmp_ge (tgt := 89) hx hb dX10_read_44 (by decide) (fun hc => ?_) (fun hc => ?_)
  · have hf := kpos hc hf
    exact t_ND_read_b89v0 C hA a_this a_texts a_names a_pieces a_song a_fitting a_deal a_guesses a_wise a_spy a_sheets a_guesses_list a_sheets0 a_sheets1 a_sheets2 a_sheets3 a_sheets0_items a_sheets1_items a_sheets2_items a_sheets3_items f_stale f_sheets0_form f_sheets1_form f_sheets2_form f_sheets3_form F f_sheets0_size f_sheets0_items f_sheets1_size f_sheets1_items f_sheets2_size f_sheets2_items f_sheets3_size f_sheets3_items x1 r r_finding r_guesses_size r_guesses_list hs_1 f_finding f_guesses_size f_guesses_list hf _ _ hP hD hS _ (lv_sub hl [0] rfl)
  · have hf := kneg hc hf
    refine lv_aload_n hx hb dX10_read_47 rfl (lv_at hl 0 rfl) ?_
    refine va_get (ci := 10) (v := .ref a_guesses) (C := RX10) (T := TX10) (N := 12) hx hb hts inX10 hown hK hP 0 rfl rfl 6 (by decide) (hts _ tw_289) (fun _ h9 => h9) rfl dX10_read_48 ?_
    obtain ⟨v51, hc51, hf⟩ := cb1_some hf
    refine kcRV (q0 := 1) (ci := 2) (As := []) (rest := []) (st1 := [.int v51]) C (c_Gu_isFull l D ct a_guesses a_guesses_list f_guesses_size v51 hc51) ⟨rfl, rfl⟩ yn_yX2_isFull tw_526 tw_527 tw_525 ⟨Nat.le_of_ble_eq_true rfl, Nat.le_of_ble_eq_true rfl⟩ ⟨Nat.zero_le _, Nat.zero_le _⟩ hP [1] rfl rfl rfl rfl hl.1 rfl rfl (Nat.le_of_ble_eq_true rfl) dX10_read_51 rfl ?_
    refine lv_if_ne (tgt := 89) hx hb dX10_read_54 (by decide) (fun hc => ?_) (fun hc => ?_)
    · have hf := kneg hc hf
      exact t_ND_read_b89v0 C hA a_this a_texts a_names a_pieces a_song a_fitting a_deal a_guesses a_wise a_spy a_sheets a_guesses_list a_sheets0 a_sheets1 a_sheets2 a_sheets3 a_sheets0_items a_sheets1_items a_sheets2_items a_sheets3_items f_stale f_sheets0_form f_sheets1_form f_sheets2_form f_sheets3_form F f_sheets0_size f_sheets0_items f_sheets1_size f_sheets1_items f_sheets2_size f_sheets2_items f_sheets3_size f_sheets3_items x1 r r_finding r_guesses_size r_guesses_list hs_1 f_finding f_guesses_size f_guesses_list hf _ _ hP hD hS _ (lv_sub hl [0] rfl)
    · have hf := kpos hc hf
      refine lv_aload_n hx hb dX10_read_57 rfl (lv_at hl 1 rfl) ?_
      refine lv_iload_n hx hb dX10_read_58 rfl (lv_at hl 2 rfl) ?_
      obtain ⟨v59, hc59, hf⟩ := cb1_some hf
      refine kcRV (q0 := 10) (ci := 5) (As := [.int x3]) (rest := []) (st1 := [.int v59]) C (c_Sh_item l D ct a_sheets3 a_sheets3_items f_sheets3_form f_sheets3_size f_sheets3_items x3 v59 hc59) ⟨rfl, rfl⟩ yn_yX5_item tw_569 tw_570 tw_568 ⟨Nat.le_of_ble_eq_true rfl, Nat.le_of_ble_eq_true rfl⟩ ⟨Nat.zero_le _, Nat.zero_le _⟩ hP [10, 11] rfl rfl rfl rfl hl.1 rfl rfl (Nat.le_of_ble_eq_true rfl) dX10_read_59 rfl ?_
      obtain ⟨v62, hc62, hf⟩ := cb1_some hf
      refine kcRS (As := [.int v59]) (rest := []) (st1 := [.int v62]) C (c_ND_mayBeGuessed l D ct v59 v62 hc62) ⟨rfl, rfl⟩ yn_yX10_mayBeGuessed tw_523 tw_522 ⟨Nat.le_of_ble_eq_true rfl, Nat.le_of_ble_eq_true rfl⟩ ⟨Nat.zero_le _, Nat.zero_le _⟩ hP [] rfl hl.1 rfl rfl (Nat.le_of_ble_eq_true rfl) dX10_read_62 rfl ?_
      refine lv_if_ne (tgt := 71) hx hb dX10_read_65 (by decide) (fun hc => ?_) (fun hc => ?_)
      · have hf := kneg hc hf
        refine lv_aload_n hx hb dX10_read_71 rfl (lv_at hl 0 rfl) ?_
        refine va_get (ci := 10) (v := .ref a_guesses) (C := RX10) (T := TX10) (N := 12) hx hb hts inX10 hown hK hP 0 rfl rfl 6 (by decide) (hts _ tw_289) (fun _ h9 => h9) rfl dX10_read_72 ?_
        refine lv_aload_n hx hb dX10_read_75 rfl (lv_at hl 1 rfl) ?_
        refine lv_iload_n hx hb dX10_read_76 rfl (lv_at hl 2 rfl) ?_
        obtain ⟨v77, hc77, hf⟩ := cb1_some hf
        refine kcRV (q0 := 10) (ci := 5) (As := [.int x3]) (rest := [.ref a_guesses]) (st1 := [.int v77, .ref a_guesses]) C (c_Sh_item l D ct a_sheets3 a_sheets3_items f_sheets3_form f_sheets3_size f_sheets3_items x3 v77 hc77) ⟨rfl, rfl⟩ yn_yX5_item tw_569 tw_570 tw_568 ⟨Nat.le_of_ble_eq_true rfl, Nat.le_of_ble_eq_true rfl⟩ ⟨Nat.zero_le _, Nat.zero_le _⟩ hP [10, 11] rfl rfl rfl rfl hl.1 rfl rfl (Nat.le_of_ble_eq_true rfl) dX10_read_77 rfl ?_
        obtain ⟨f_guesses_size_80, f_guesses_list_80, hc80, hf⟩ := cb2_some hf
        refine kcMV (q0 := 1) (ci := 2) (As := [.int v77]) (rest := []) (st1 := []) (wf := (w_ND_read ct a_this a_texts a_names a_pieces a_song a_fitting a_deal a_guesses a_wise a_spy a_sheets a_guesses_list a_sheets0 a_sheets1 a_sheets2 a_sheets3 a_sheets0_items a_sheets1_items a_sheets2_items a_sheets3_items f_stale f_finding f_guesses_size_80 f_guesses_list_80 f_sheets0_form f_sheets0_size f_sheets0_items f_sheets1_form f_sheets1_size f_sheets1_items f_sheets2_form f_sheets2_size f_sheets2_items f_sheets3_form f_sheets3_size f_sheets3_items)) C (c_Gu_append l D ct a_guesses a_guesses_list f_guesses_size f_guesses_list v77 f_guesses_size_80 f_guesses_list_80 _ hc80) ⟨rfl, rfl⟩ yn_yX2_append tw_530 tw_531 tw_529 ⟨Nat.le_of_ble_eq_true rfl, Nat.le_of_ble_eq_true rfl⟩ ⟨Nat.zero_le _, Nat.zero_le _⟩ hP hD hS hA [1, 2] [0, 3, 4, 5, 6, 7, 8, 9, 10, 11] [0, 10, 11, 1, 2, 3, 4, 5, 6, 7, 8, 9] rfl rfl rfl rfl rfl (by decide) rfl rfl rfl rfl rfl rfl hl.1 rfl rfl (Nat.le_of_ble_eq_true rfl) dX10_read_80 rfl (fun H locs hP hD hS => ?_)
        refine lv_iinc (v := x3 + 1) (lv' := [(3, .int (x3 + 1)), (0, .ref a_this), (2, .ref a_sheets3)]) hx hb dX10_read_83 hl (k := 2) rfl rfl (by decide) rfl (fun ls hl => ?_)
        refine lv_goto (tgt := 39) hx hb dX10_read_86 (by decide) ?_
        exact hr39 (x3 + 1) f_finding f_guesses_size_80 f_guesses_list_80 hf _ _ hP hD hS _ (lv_sub hl [1, 2, 0] rfl)
      · have hf := kpos hc hf
        exact t_ND_read_b68v0 C hA a_this a_texts a_names a_pieces a_song a_fitting a_deal a_guesses a_wise a_spy a_sheets a_guesses_list a_sheets0 a_sheets1 a_sheets2 a_sheets3 a_sheets0_items a_sheets1_items a_sheets2_items a_sheets3_items f_stale f_sheets0_form f_sheets1_form f_sheets2_form f_sheets3_form F f_sheets0_size f_sheets0_items f_sheets1_size f_sheets1_items f_sheets2_size f_sheets2_items f_sheets3_size f_sheets3_items x1 r r_finding r_guesses_size r_guesses_list hs_1 f_finding f_guesses_size f_guesses_list hf _ _ hP hD hS _ (lv_sub hl [0] rfl)
set_option maxHeartbeats 4000000 in
set_option maxRecDepth 100000 in
theorem t_ND_read_l39v0 {p : Program} {l : Launch} {e : Env} {s : State} {m : MethodId} {args : Array Value} {below : List Frame} {meth : Method} {c : Code} {D : va_G} {ct : Nat → ClassId} (C : CX p s m args meth c RX10 cX10_read 4 (some .int) D ct) {A : Nat → Prop} (hA : ∀ q : Nat, s.heap.size ≤ q → A q) (a_this a_texts a_names a_pieces a_song a_fitting a_deal a_guesses a_wise a_spy a_sheets a_guesses_list a_sheets0 a_sheets1 a_sheets2 a_sheets3 a_sheets0_items a_sheets1_items a_sheets2_items a_sheets3_items : Nat) (f_stale : Int32) (f_sheets0_form : Int32) (f_sheets1_form : Int32) (f_sheets2_form : Int32) (f_sheets3_form : Int32) (F : Nat) (f_sheets0_size : Int32) (f_sheets0_items : Nat → Int32) (f_sheets1_size : Int32) (f_sheets1_items : Nat → Int32) (f_sheets2_size : Int32) (f_sheets2_items : Nat → Int32) (f_sheets3_size : Int32) (f_sheets3_items : Nat → Int32) (x1 : Int32) (r : Int32) (r_finding : Int32) (r_guesses_size : Int32) (r_guesses_list : Nat → Int32) (hs_1 : x1 = 3) : ∀ (n : Nat) (x3 : Int32) (f_finding : Int32) (f_guesses_size : Int32) (f_guesses_list : Nat → Int32), ND_read_l39v0 F f_sheets0_size f_sheets0_items f_sheets1_size f_sheets1_items f_sheets2_size f_sheets2_items f_sheets3_size f_sheets3_items x1 n x3 f_finding f_guesses_size f_guesses_list = some (r, r_finding, r_guesses_size, r_guesses_list) → ∀ (H : Heap) (locs : List Loc), va_P D vwCl (w_ND_read ct a_this a_texts a_names a_pieces a_song a_fitting a_deal a_guesses a_wise a_spy a_sheets a_guesses_list a_sheets0 a_sheets1 a_sheets2 a_sheets3 a_sheets0_items a_sheets1_items a_sheets2_items a_sheets3_items f_stale f_finding f_guesses_size f_guesses_list f_sheets0_form f_sheets0_size f_sheets0_items f_sheets1_form f_sheets1_size f_sheets1_items f_sheets2_form f_sheets2_size f_sheets2_items f_sheets3_form f_sheets3_size f_sheets3_items) H → va_D A (w_ND_read ct a_this a_texts a_names a_pieces a_song a_fitting a_deal a_guesses a_wise a_spy a_sheets a_guesses_list a_sheets0 a_sheets1 a_sheets2 a_sheets3 a_sheets0_items a_sheets1_items a_sheets2_items a_sheets3_items f_stale f_finding f_guesses_size f_guesses_list f_sheets0_form f_sheets0_size f_sheets0_items f_sheets1_form f_sheets1_size f_sheets1_items f_sheets2_form f_sheets2_size f_sheets2_items f_sheets3_form f_sheets3_size f_sheets3_items) → va_S A s.heap H locs → ∀ ls : Array Slot, lv_has ls 4 [(0, .ref a_this), (2, .ref a_sheets3), (3, .int x3)] → W p l e RM_ND_read s m args below meth c H locs 0 0 (MQ below (QM D (some (.int r)) (w_ND_read ct a_this a_texts a_names a_pieces a_song a_fitting a_deal a_guesses a_wise a_spy a_sheets a_guesses_list a_sheets0 a_sheets1 a_sheets2 a_sheets3 a_sheets0_items a_sheets1_items a_sheets2_items a_sheets3_items f_stale r_finding r_guesses_size r_guesses_list f_sheets0_form f_sheets0_size f_sheets0_items f_sheets1_form f_sheets1_size f_sheets1_items f_sheets2_form f_sheets2_size f_sheets2_items f_sheets3_form f_sheets3_size f_sheets3_items) A) args s 0 0 A) (F0 m 39 ls []) := by
  intro n
  induction n with
  | zero =>
    intro x3 f_finding f_guesses_size f_guesses_list hf
    exact absurd hf (by simp [ND_read_l39v0])
  | succ n ih =>
    intro x3 f_finding f_guesses_size f_guesses_list hf
    exact t_ND_read_b39v0 C hA a_this a_texts a_names a_pieces a_song a_fitting a_deal a_guesses a_wise a_spy a_sheets a_guesses_list a_sheets0 a_sheets1 a_sheets2 a_sheets3 a_sheets0_items a_sheets1_items a_sheets2_items a_sheets3_items f_stale f_sheets0_form f_sheets1_form f_sheets2_form f_sheets3_form F f_sheets0_size f_sheets0_items f_sheets1_size f_sheets1_items f_sheets2_size f_sheets2_items f_sheets3_size f_sheets3_items x1 r r_finding r_guesses_size r_guesses_list (ND_read_l39v0 F f_sheets0_size f_sheets0_items f_sheets1_size f_sheets1_items f_sheets2_size f_sheets2_items f_sheets3_size f_sheets3_items x1 n) ih hs_1 x3 f_finding f_guesses_size f_guesses_list hf
set_option maxHeartbeats 4000000 in
set_option maxRecDepth 100000 in
theorem t_ND_read_b39v1 {p : Program} {l : Launch} {e : Env} {s : State} {m : MethodId} {args : Array Value} {below : List Frame} {meth : Method} {c : Code} {D : va_G} {ct : Nat → ClassId} (C : CX p s m args meth c RX10 cX10_read 4 (some .int) D ct) {A : Nat → Prop} (hA : ∀ q : Nat, s.heap.size ≤ q → A q) (a_this a_texts a_names a_pieces a_song a_fitting a_deal a_guesses a_wise a_spy a_sheets a_guesses_list a_sheets0 a_sheets1 a_sheets2 a_sheets3 a_sheets0_items a_sheets1_items a_sheets2_items a_sheets3_items : Nat) (f_stale : Int32) (f_sheets0_form : Int32) (f_sheets1_form : Int32) (f_sheets2_form : Int32) (f_sheets3_form : Int32) (F : Nat) (f_sheets0_size : Int32) (f_sheets0_items : Nat → Int32) (f_sheets1_size : Int32) (f_sheets1_items : Nat → Int32) (f_sheets2_size : Int32) (f_sheets2_items : Nat → Int32) (f_sheets3_size : Int32) (f_sheets3_items : Nat → Int32) (x1 : Int32) (r : Int32) (r_finding : Int32) (r_guesses_size : Int32) (r_guesses_list : Nat → Int32) (rec39 : Int32 → Int32 → Int32 → (Nat → Int32) → Option (Int32 × Int32 × Int32 × (Nat → Int32))) (hr39 : ∀ (x3 : Int32) (f_finding : Int32) (f_guesses_size : Int32) (f_guesses_list : Nat → Int32), rec39 x3 f_finding f_guesses_size f_guesses_list = some (r, r_finding, r_guesses_size, r_guesses_list) → ∀ (H : Heap) (locs : List Loc), va_P D vwCl (w_ND_read ct a_this a_texts a_names a_pieces a_song a_fitting a_deal a_guesses a_wise a_spy a_sheets a_guesses_list a_sheets0 a_sheets1 a_sheets2 a_sheets3 a_sheets0_items a_sheets1_items a_sheets2_items a_sheets3_items f_stale f_finding f_guesses_size f_guesses_list f_sheets0_form f_sheets0_size f_sheets0_items f_sheets1_form f_sheets1_size f_sheets1_items f_sheets2_form f_sheets2_size f_sheets2_items f_sheets3_form f_sheets3_size f_sheets3_items) H → va_D A (w_ND_read ct a_this a_texts a_names a_pieces a_song a_fitting a_deal a_guesses a_wise a_spy a_sheets a_guesses_list a_sheets0 a_sheets1 a_sheets2 a_sheets3 a_sheets0_items a_sheets1_items a_sheets2_items a_sheets3_items f_stale f_finding f_guesses_size f_guesses_list f_sheets0_form f_sheets0_size f_sheets0_items f_sheets1_form f_sheets1_size f_sheets1_items f_sheets2_form f_sheets2_size f_sheets2_items f_sheets3_form f_sheets3_size f_sheets3_items) → va_S A s.heap H locs → ∀ ls : Array Slot, lv_has ls 4 [(0, .ref a_this), (2, .ref a_sheets2), (3, .int x3)] → W p l e RM_ND_read s m args below meth c H locs 0 0 (MQ below (QM D (some (.int r)) (w_ND_read ct a_this a_texts a_names a_pieces a_song a_fitting a_deal a_guesses a_wise a_spy a_sheets a_guesses_list a_sheets0 a_sheets1 a_sheets2 a_sheets3 a_sheets0_items a_sheets1_items a_sheets2_items a_sheets3_items f_stale r_finding r_guesses_size r_guesses_list f_sheets0_form f_sheets0_size f_sheets0_items f_sheets1_form f_sheets1_size f_sheets1_items f_sheets2_form f_sheets2_size f_sheets2_items f_sheets3_form f_sheets3_size f_sheets3_items) A) args s 0 0 A) (F0 m 39 ls [])) (hs_1 : x1 = 2) : ∀ (x3 : Int32) (f_finding : Int32) (f_guesses_size : Int32) (f_guesses_list : Nat → Int32), ND_read_b39v1 F f_sheets0_size f_sheets0_items f_sheets1_size f_sheets1_items f_sheets2_size f_sheets2_items f_sheets3_size f_sheets3_items x1 rec39 x3 f_finding f_guesses_size f_guesses_list = some (r, r_finding, r_guesses_size, r_guesses_list) → ∀ (H : Heap) (locs : List Loc), va_P D vwCl (w_ND_read ct a_this a_texts a_names a_pieces a_song a_fitting a_deal a_guesses a_wise a_spy a_sheets a_guesses_list a_sheets0 a_sheets1 a_sheets2 a_sheets3 a_sheets0_items a_sheets1_items a_sheets2_items a_sheets3_items f_stale f_finding f_guesses_size f_guesses_list f_sheets0_form f_sheets0_size f_sheets0_items f_sheets1_form f_sheets1_size f_sheets1_items f_sheets2_form f_sheets2_size f_sheets2_items f_sheets3_form f_sheets3_size f_sheets3_items) H → va_D A (w_ND_read ct a_this a_texts a_names a_pieces a_song a_fitting a_deal a_guesses a_wise a_spy a_sheets a_guesses_list a_sheets0 a_sheets1 a_sheets2 a_sheets3 a_sheets0_items a_sheets1_items a_sheets2_items a_sheets3_items f_stale f_finding f_guesses_size f_guesses_list f_sheets0_form f_sheets0_size f_sheets0_items f_sheets1_form f_sheets1_size f_sheets1_items f_sheets2_form f_sheets2_size f_sheets2_items f_sheets3_form f_sheets3_size f_sheets3_items) → va_S A s.heap H locs → ∀ ls : Array Slot, lv_has ls 4 [(0, .ref a_this), (2, .ref a_sheets2), (3, .int x3)] → W p l e RM_ND_read s m args below meth c H locs 0 0 (MQ below (QM D (some (.int r)) (w_ND_read ct a_this a_texts a_names a_pieces a_song a_fitting a_deal a_guesses a_wise a_spy a_sheets a_guesses_list a_sheets0 a_sheets1 a_sheets2 a_sheets3 a_sheets0_items a_sheets1_items a_sheets2_items a_sheets3_items f_stale r_finding r_guesses_size r_guesses_list f_sheets0_form f_sheets0_size f_sheets0_items f_sheets1_form f_sheets1_size f_sheets1_items f_sheets2_form f_sheets2_size f_sheets2_items f_sheets3_form f_sheets3_size f_sheets3_items) A) args s 0 0 A) (F0 m 39 ls []) := by
  obtain ⟨hx, hb, hr, hml, hown, hts, hlk, hK, hN⟩ := id C
  intro x3 f_finding f_guesses_size f_guesses_list hf H locs hP hD hS ls hl
  unfold ND_read_b39v1 at hf
  refine lv_iload_n hx hb dX10_read_39 rfl (lv_at hl 2 rfl) ?_
  refine lv_aload_n hx hb dX10_read_40 rfl (lv_at hl 1 rfl) ?_
  obtain ⟨v41, hc41, hf⟩ := cb1_some hf
  refine kcRV (q0 := 8) (ci := 5) (As := []) (rest := [.int x3]) (st1 := [.int v41, .int x3]) C (c_Sh_size l D ct a_sheets2 a_sheets2_items f_sheets2_form f_sheets2_size v41 hc41) ⟨rfl, rfl⟩ yn_yX5_size tw_565 tw_566 tw_564 ⟨Nat.le_of_ble_eq_true rfl, Nat.le_of_ble_eq_true rfl⟩ ⟨Nat.zero_le _, Nat.zero_le _⟩ hP [8] rfl rfl rfl rfl hl.1 rfl rfl (Nat.le_of_ble_eq_true rfl) dX10_read_41 rfl ?_
  refine lv_icmp_ge (tgt := 89) hx hb dX10_read_44 (by decide) (fun hc => ?_) (fun hc => ?_)
  · have hf := kpos hc hf
    exact t_ND_read_b89v1 C hA a_this a_texts a_names a_pieces a_song a_fitting a_deal a_guesses a_wise a_spy a_sheets a_guesses_list a_sheets0 a_sheets1 a_sheets2 a_sheets3 a_sheets0_items a_sheets1_items a_sheets2_items a_sheets3_items f_stale f_sheets0_form f_sheets1_form f_sheets2_form f_sheets3_form F f_sheets0_size f_sheets0_items f_sheets1_size f_sheets1_items f_sheets2_size f_sheets2_items f_sheets3_size f_sheets3_items x1 r r_finding r_guesses_size r_guesses_list hs_1 f_finding f_guesses_size f_guesses_list hf _ _ hP hD hS _ (lv_sub hl [0] rfl)
  · have hf := kneg hc hf
    refine lv_aload_n hx hb dX10_read_47 rfl (lv_at hl 0 rfl) ?_
    refine va_get (ci := 10) (v := .ref a_guesses) (C := RX10) (T := TX10) (N := 12) hx hb hts inX10 hown hK hP 0 rfl rfl 6 (by decide) (hts _ tw_289) (fun _ h9 => h9) rfl dX10_read_48 ?_
    obtain ⟨v51, hc51, hf⟩ := cb1_some hf
    refine kcRV (q0 := 1) (ci := 2) (As := []) (rest := []) (st1 := [.int v51]) C (c_Gu_isFull l D ct a_guesses a_guesses_list f_guesses_size v51 hc51) ⟨rfl, rfl⟩ yn_yX2_isFull tw_526 tw_527 tw_525 ⟨Nat.le_of_ble_eq_true rfl, Nat.le_of_ble_eq_true rfl⟩ ⟨Nat.zero_le _, Nat.zero_le _⟩ hP [1] rfl rfl rfl rfl hl.1 rfl rfl (Nat.le_of_ble_eq_true rfl) dX10_read_51 rfl ?_
    refine lv_if_ne (tgt := 89) hx hb dX10_read_54 (by decide) (fun hc => ?_) (fun hc => ?_)
    · have hf := kneg hc hf
      exact t_ND_read_b89v1 C hA a_this a_texts a_names a_pieces a_song a_fitting a_deal a_guesses a_wise a_spy a_sheets a_guesses_list a_sheets0 a_sheets1 a_sheets2 a_sheets3 a_sheets0_items a_sheets1_items a_sheets2_items a_sheets3_items f_stale f_sheets0_form f_sheets1_form f_sheets2_form f_sheets3_form F f_sheets0_size f_sheets0_items f_sheets1_size f_sheets1_items f_sheets2_size f_sheets2_items f_sheets3_size f_sheets3_items x1 r r_finding r_guesses_size r_guesses_list hs_1 f_finding f_guesses_size f_guesses_list hf _ _ hP hD hS _ (lv_sub hl [0] rfl)
    · have hf := kpos hc hf
      refine lv_aload_n hx hb dX10_read_57 rfl (lv_at hl 1 rfl) ?_
      refine lv_iload_n hx hb dX10_read_58 rfl (lv_at hl 2 rfl) ?_
      obtain ⟨v59, hc59, hf⟩ := cb1_some hf
      refine kcRV (q0 := 8) (ci := 5) (As := [.int x3]) (rest := []) (st1 := [.int v59]) C (c_Sh_item l D ct a_sheets2 a_sheets2_items f_sheets2_form f_sheets2_size f_sheets2_items x3 v59 hc59) ⟨rfl, rfl⟩ yn_yX5_item tw_569 tw_570 tw_568 ⟨Nat.le_of_ble_eq_true rfl, Nat.le_of_ble_eq_true rfl⟩ ⟨Nat.zero_le _, Nat.zero_le _⟩ hP [8, 9] rfl rfl rfl rfl hl.1 rfl rfl (Nat.le_of_ble_eq_true rfl) dX10_read_59 rfl ?_
      obtain ⟨v62, hc62, hf⟩ := cb1_some hf
      refine kcRS (As := [.int v59]) (rest := []) (st1 := [.int v62]) C (c_ND_mayBeGuessed l D ct v59 v62 hc62) ⟨rfl, rfl⟩ yn_yX10_mayBeGuessed tw_523 tw_522 ⟨Nat.le_of_ble_eq_true rfl, Nat.le_of_ble_eq_true rfl⟩ ⟨Nat.zero_le _, Nat.zero_le _⟩ hP [] rfl hl.1 rfl rfl (Nat.le_of_ble_eq_true rfl) dX10_read_62 rfl ?_
      refine lv_if_ne (tgt := 71) hx hb dX10_read_65 (by decide) (fun hc => ?_) (fun hc => ?_)
      · have hf := kneg hc hf
        refine lv_aload_n hx hb dX10_read_71 rfl (lv_at hl 0 rfl) ?_
        refine va_get (ci := 10) (v := .ref a_guesses) (C := RX10) (T := TX10) (N := 12) hx hb hts inX10 hown hK hP 0 rfl rfl 6 (by decide) (hts _ tw_289) (fun _ h9 => h9) rfl dX10_read_72 ?_
        refine lv_aload_n hx hb dX10_read_75 rfl (lv_at hl 1 rfl) ?_
        refine lv_iload_n hx hb dX10_read_76 rfl (lv_at hl 2 rfl) ?_
        obtain ⟨v77, hc77, hf⟩ := cb1_some hf
        refine kcRV (q0 := 8) (ci := 5) (As := [.int x3]) (rest := [.ref a_guesses]) (st1 := [.int v77, .ref a_guesses]) C (c_Sh_item l D ct a_sheets2 a_sheets2_items f_sheets2_form f_sheets2_size f_sheets2_items x3 v77 hc77) ⟨rfl, rfl⟩ yn_yX5_item tw_569 tw_570 tw_568 ⟨Nat.le_of_ble_eq_true rfl, Nat.le_of_ble_eq_true rfl⟩ ⟨Nat.zero_le _, Nat.zero_le _⟩ hP [8, 9] rfl rfl rfl rfl hl.1 rfl rfl (Nat.le_of_ble_eq_true rfl) dX10_read_77 rfl ?_
        obtain ⟨f_guesses_size_80, f_guesses_list_80, hc80, hf⟩ := cb2_some hf
        refine kcMV (q0 := 1) (ci := 2) (As := [.int v77]) (rest := []) (st1 := []) (wf := (w_ND_read ct a_this a_texts a_names a_pieces a_song a_fitting a_deal a_guesses a_wise a_spy a_sheets a_guesses_list a_sheets0 a_sheets1 a_sheets2 a_sheets3 a_sheets0_items a_sheets1_items a_sheets2_items a_sheets3_items f_stale f_finding f_guesses_size_80 f_guesses_list_80 f_sheets0_form f_sheets0_size f_sheets0_items f_sheets1_form f_sheets1_size f_sheets1_items f_sheets2_form f_sheets2_size f_sheets2_items f_sheets3_form f_sheets3_size f_sheets3_items)) C (c_Gu_append l D ct a_guesses a_guesses_list f_guesses_size f_guesses_list v77 f_guesses_size_80 f_guesses_list_80 _ hc80) ⟨rfl, rfl⟩ yn_yX2_append tw_530 tw_531 tw_529 ⟨Nat.le_of_ble_eq_true rfl, Nat.le_of_ble_eq_true rfl⟩ ⟨Nat.zero_le _, Nat.zero_le _⟩ hP hD hS hA [1, 2] [0, 3, 4, 5, 6, 7, 8, 9, 10, 11] [0, 10, 11, 1, 2, 3, 4, 5, 6, 7, 8, 9] rfl rfl rfl rfl rfl (by decide) rfl rfl rfl rfl rfl rfl hl.1 rfl rfl (Nat.le_of_ble_eq_true rfl) dX10_read_80 rfl (fun H locs hP hD hS => ?_)
        refine lv_iinc (v := x3 + 1) (lv' := [(3, .int (x3 + 1)), (0, .ref a_this), (2, .ref a_sheets2)]) hx hb dX10_read_83 hl (k := 2) rfl rfl (by decide) rfl (fun ls hl => ?_)
        refine lv_goto (tgt := 39) hx hb dX10_read_86 (by decide) ?_
        exact hr39 (x3 + 1) f_finding f_guesses_size_80 f_guesses_list_80 hf _ _ hP hD hS _ (lv_sub hl [1, 2, 0] rfl)
      · have hf := kpos hc hf
        exact t_ND_read_b68v1 C hA a_this a_texts a_names a_pieces a_song a_fitting a_deal a_guesses a_wise a_spy a_sheets a_guesses_list a_sheets0 a_sheets1 a_sheets2 a_sheets3 a_sheets0_items a_sheets1_items a_sheets2_items a_sheets3_items f_stale f_sheets0_form f_sheets1_form f_sheets2_form f_sheets3_form F f_sheets0_size f_sheets0_items f_sheets1_size f_sheets1_items f_sheets2_size f_sheets2_items f_sheets3_size f_sheets3_items x1 r r_finding r_guesses_size r_guesses_list hs_1 f_finding f_guesses_size f_guesses_list hf _ _ hP hD hS _ (lv_sub hl [0] rfl)
set_option maxHeartbeats 4000000 in
set_option maxRecDepth 100000 in
theorem t_ND_read_l39v1 {p : Program} {l : Launch} {e : Env} {s : State} {m : MethodId} {args : Array Value} {below : List Frame} {meth : Method} {c : Code} {D : va_G} {ct : Nat → ClassId} (C : CX p s m args meth c RX10 cX10_read 4 (some .int) D ct) {A : Nat → Prop} (hA : ∀ q : Nat, s.heap.size ≤ q → A q) (a_this a_texts a_names a_pieces a_song a_fitting a_deal a_guesses a_wise a_spy a_sheets a_guesses_list a_sheets0 a_sheets1 a_sheets2 a_sheets3 a_sheets0_items a_sheets1_items a_sheets2_items a_sheets3_items : Nat) (f_stale : Int32) (f_sheets0_form : Int32) (f_sheets1_form : Int32) (f_sheets2_form : Int32) (f_sheets3_form : Int32) (F : Nat) (f_sheets0_size : Int32) (f_sheets0_items : Nat → Int32) (f_sheets1_size : Int32) (f_sheets1_items : Nat → Int32) (f_sheets2_size : Int32) (f_sheets2_items : Nat → Int32) (f_sheets3_size : Int32) (f_sheets3_items : Nat → Int32) (x1 : Int32) (r : Int32) (r_finding : Int32) (r_guesses_size : Int32) (r_guesses_list : Nat → Int32) (hs_1 : x1 = 2) : ∀ (n : Nat) (x3 : Int32) (f_finding : Int32) (f_guesses_size : Int32) (f_guesses_list : Nat → Int32), ND_read_l39v1 F f_sheets0_size f_sheets0_items f_sheets1_size f_sheets1_items f_sheets2_size f_sheets2_items f_sheets3_size f_sheets3_items x1 n x3 f_finding f_guesses_size f_guesses_list = some (r, r_finding, r_guesses_size, r_guesses_list) → ∀ (H : Heap) (locs : List Loc), va_P D vwCl (w_ND_read ct a_this a_texts a_names a_pieces a_song a_fitting a_deal a_guesses a_wise a_spy a_sheets a_guesses_list a_sheets0 a_sheets1 a_sheets2 a_sheets3 a_sheets0_items a_sheets1_items a_sheets2_items a_sheets3_items f_stale f_finding f_guesses_size f_guesses_list f_sheets0_form f_sheets0_size f_sheets0_items f_sheets1_form f_sheets1_size f_sheets1_items f_sheets2_form f_sheets2_size f_sheets2_items f_sheets3_form f_sheets3_size f_sheets3_items) H → va_D A (w_ND_read ct a_this a_texts a_names a_pieces a_song a_fitting a_deal a_guesses a_wise a_spy a_sheets a_guesses_list a_sheets0 a_sheets1 a_sheets2 a_sheets3 a_sheets0_items a_sheets1_items a_sheets2_items a_sheets3_items f_stale f_finding f_guesses_size f_guesses_list f_sheets0_form f_sheets0_size f_sheets0_items f_sheets1_form f_sheets1_size f_sheets1_items f_sheets2_form f_sheets2_size f_sheets2_items f_sheets3_form f_sheets3_size f_sheets3_items) → va_S A s.heap H locs → ∀ ls : Array Slot, lv_has ls 4 [(0, .ref a_this), (2, .ref a_sheets2), (3, .int x3)] → W p l e RM_ND_read s m args below meth c H locs 0 0 (MQ below (QM D (some (.int r)) (w_ND_read ct a_this a_texts a_names a_pieces a_song a_fitting a_deal a_guesses a_wise a_spy a_sheets a_guesses_list a_sheets0 a_sheets1 a_sheets2 a_sheets3 a_sheets0_items a_sheets1_items a_sheets2_items a_sheets3_items f_stale r_finding r_guesses_size r_guesses_list f_sheets0_form f_sheets0_size f_sheets0_items f_sheets1_form f_sheets1_size f_sheets1_items f_sheets2_form f_sheets2_size f_sheets2_items f_sheets3_form f_sheets3_size f_sheets3_items) A) args s 0 0 A) (F0 m 39 ls []) := by
  intro n
  induction n with
  | zero =>
    intro x3 f_finding f_guesses_size f_guesses_list hf
    exact absurd hf (by simp [ND_read_l39v1])
  | succ n ih =>
    intro x3 f_finding f_guesses_size f_guesses_list hf
    exact t_ND_read_b39v1 C hA a_this a_texts a_names a_pieces a_song a_fitting a_deal a_guesses a_wise a_spy a_sheets a_guesses_list a_sheets0 a_sheets1 a_sheets2 a_sheets3 a_sheets0_items a_sheets1_items a_sheets2_items a_sheets3_items f_stale f_sheets0_form f_sheets1_form f_sheets2_form f_sheets3_form F f_sheets0_size f_sheets0_items f_sheets1_size f_sheets1_items f_sheets2_size f_sheets2_items f_sheets3_size f_sheets3_items x1 r r_finding r_guesses_size r_guesses_list (ND_read_l39v1 F f_sheets0_size f_sheets0_items f_sheets1_size f_sheets1_items f_sheets2_size f_sheets2_items f_sheets3_size f_sheets3_items x1 n) ih hs_1 x3 f_finding f_guesses_size f_guesses_list hf
set_option maxHeartbeats 4000000 in
set_option maxRecDepth 100000 in
theorem t_ND_read_b39v2 {p : Program} {l : Launch} {e : Env} {s : State} {m : MethodId} {args : Array Value} {below : List Frame} {meth : Method} {c : Code} {D : va_G} {ct : Nat → ClassId} (C : CX p s m args meth c RX10 cX10_read 4 (some .int) D ct) {A : Nat → Prop} (hA : ∀ q : Nat, s.heap.size ≤ q → A q) (a_this a_texts a_names a_pieces a_song a_fitting a_deal a_guesses a_wise a_spy a_sheets a_guesses_list a_sheets0 a_sheets1 a_sheets2 a_sheets3 a_sheets0_items a_sheets1_items a_sheets2_items a_sheets3_items : Nat) (f_stale : Int32) (f_sheets0_form : Int32) (f_sheets1_form : Int32) (f_sheets2_form : Int32) (f_sheets3_form : Int32) (F : Nat) (f_sheets0_size : Int32) (f_sheets0_items : Nat → Int32) (f_sheets1_size : Int32) (f_sheets1_items : Nat → Int32) (f_sheets2_size : Int32) (f_sheets2_items : Nat → Int32) (f_sheets3_size : Int32) (f_sheets3_items : Nat → Int32) (x1 : Int32) (r : Int32) (r_finding : Int32) (r_guesses_size : Int32) (r_guesses_list : Nat → Int32) (rec39 : Int32 → Int32 → Int32 → (Nat → Int32) → Option (Int32 × Int32 × Int32 × (Nat → Int32))) (hr39 : ∀ (x3 : Int32) (f_finding : Int32) (f_guesses_size : Int32) (f_guesses_list : Nat → Int32), rec39 x3 f_finding f_guesses_size f_guesses_list = some (r, r_finding, r_guesses_size, r_guesses_list) → ∀ (H : Heap) (locs : List Loc), va_P D vwCl (w_ND_read ct a_this a_texts a_names a_pieces a_song a_fitting a_deal a_guesses a_wise a_spy a_sheets a_guesses_list a_sheets0 a_sheets1 a_sheets2 a_sheets3 a_sheets0_items a_sheets1_items a_sheets2_items a_sheets3_items f_stale f_finding f_guesses_size f_guesses_list f_sheets0_form f_sheets0_size f_sheets0_items f_sheets1_form f_sheets1_size f_sheets1_items f_sheets2_form f_sheets2_size f_sheets2_items f_sheets3_form f_sheets3_size f_sheets3_items) H → va_D A (w_ND_read ct a_this a_texts a_names a_pieces a_song a_fitting a_deal a_guesses a_wise a_spy a_sheets a_guesses_list a_sheets0 a_sheets1 a_sheets2 a_sheets3 a_sheets0_items a_sheets1_items a_sheets2_items a_sheets3_items f_stale f_finding f_guesses_size f_guesses_list f_sheets0_form f_sheets0_size f_sheets0_items f_sheets1_form f_sheets1_size f_sheets1_items f_sheets2_form f_sheets2_size f_sheets2_items f_sheets3_form f_sheets3_size f_sheets3_items) → va_S A s.heap H locs → ∀ ls : Array Slot, lv_has ls 4 [(0, .ref a_this), (2, .ref a_sheets1), (3, .int x3)] → W p l e RM_ND_read s m args below meth c H locs 0 0 (MQ below (QM D (some (.int r)) (w_ND_read ct a_this a_texts a_names a_pieces a_song a_fitting a_deal a_guesses a_wise a_spy a_sheets a_guesses_list a_sheets0 a_sheets1 a_sheets2 a_sheets3 a_sheets0_items a_sheets1_items a_sheets2_items a_sheets3_items f_stale r_finding r_guesses_size r_guesses_list f_sheets0_form f_sheets0_size f_sheets0_items f_sheets1_form f_sheets1_size f_sheets1_items f_sheets2_form f_sheets2_size f_sheets2_items f_sheets3_form f_sheets3_size f_sheets3_items) A) args s 0 0 A) (F0 m 39 ls [])) (hs_1 : x1 = 1) : ∀ (x3 : Int32) (f_finding : Int32) (f_guesses_size : Int32) (f_guesses_list : Nat → Int32), ND_read_b39v2 F f_sheets0_size f_sheets0_items f_sheets1_size f_sheets1_items f_sheets2_size f_sheets2_items f_sheets3_size f_sheets3_items x1 rec39 x3 f_finding f_guesses_size f_guesses_list = some (r, r_finding, r_guesses_size, r_guesses_list) → ∀ (H : Heap) (locs : List Loc), va_P D vwCl (w_ND_read ct a_this a_texts a_names a_pieces a_song a_fitting a_deal a_guesses a_wise a_spy a_sheets a_guesses_list a_sheets0 a_sheets1 a_sheets2 a_sheets3 a_sheets0_items a_sheets1_items a_sheets2_items a_sheets3_items f_stale f_finding f_guesses_size f_guesses_list f_sheets0_form f_sheets0_size f_sheets0_items f_sheets1_form f_sheets1_size f_sheets1_items f_sheets2_form f_sheets2_size f_sheets2_items f_sheets3_form f_sheets3_size f_sheets3_items) H → va_D A (w_ND_read ct a_this a_texts a_names a_pieces a_song a_fitting a_deal a_guesses a_wise a_spy a_sheets a_guesses_list a_sheets0 a_sheets1 a_sheets2 a_sheets3 a_sheets0_items a_sheets1_items a_sheets2_items a_sheets3_items f_stale f_finding f_guesses_size f_guesses_list f_sheets0_form f_sheets0_size f_sheets0_items f_sheets1_form f_sheets1_size f_sheets1_items f_sheets2_form f_sheets2_size f_sheets2_items f_sheets3_form f_sheets3_size f_sheets3_items) → va_S A s.heap H locs → ∀ ls : Array Slot, lv_has ls 4 [(0, .ref a_this), (2, .ref a_sheets1), (3, .int x3)] → W p l e RM_ND_read s m args below meth c H locs 0 0 (MQ below (QM D (some (.int r)) (w_ND_read ct a_this a_texts a_names a_pieces a_song a_fitting a_deal a_guesses a_wise a_spy a_sheets a_guesses_list a_sheets0 a_sheets1 a_sheets2 a_sheets3 a_sheets0_items a_sheets1_items a_sheets2_items a_sheets3_items f_stale r_finding r_guesses_size r_guesses_list f_sheets0_form f_sheets0_size f_sheets0_items f_sheets1_form f_sheets1_size f_sheets1_items f_sheets2_form f_sheets2_size f_sheets2_items f_sheets3_form f_sheets3_size f_sheets3_items) A) args s 0 0 A) (F0 m 39 ls []) := by
  obtain ⟨hx, hb, hr, hml, hown, hts, hlk, hK, hN⟩ := id C
  intro x3 f_finding f_guesses_size f_guesses_list hf H locs hP hD hS ls hl
  unfold ND_read_b39v2 at hf
  refine lv_iload_n hx hb dX10_read_39 rfl (lv_at hl 2 rfl) ?_
  refine lv_aload_n hx hb dX10_read_40 rfl (lv_at hl 1 rfl) ?_
  obtain ⟨v41, hc41, hf⟩ := cb1_some hf
  refine kcRV (q0 := 6) (ci := 5) (As := []) (rest := [.int x3]) (st1 := [.int v41, .int x3]) C (c_Sh_size l D ct a_sheets1 a_sheets1_items f_sheets1_form f_sheets1_size v41 hc41) ⟨rfl, rfl⟩ yn_yX5_size tw_565 tw_566 tw_564 ⟨Nat.le_of_ble_eq_true rfl, Nat.le_of_ble_eq_true rfl⟩ ⟨Nat.zero_le _, Nat.zero_le _⟩ hP [6] rfl rfl rfl rfl hl.1 rfl rfl (Nat.le_of_ble_eq_true rfl) dX10_read_41 rfl ?_
  refine lv_icmp_ge (tgt := 89) hx hb dX10_read_44 (by decide) (fun hc => ?_) (fun hc => ?_)
  · have hf := kpos hc hf
    exact t_ND_read_b89v2 C hA a_this a_texts a_names a_pieces a_song a_fitting a_deal a_guesses a_wise a_spy a_sheets a_guesses_list a_sheets0 a_sheets1 a_sheets2 a_sheets3 a_sheets0_items a_sheets1_items a_sheets2_items a_sheets3_items f_stale f_sheets0_form f_sheets1_form f_sheets2_form f_sheets3_form F f_sheets0_size f_sheets0_items f_sheets1_size f_sheets1_items f_sheets2_size f_sheets2_items f_sheets3_size f_sheets3_items x1 r r_finding r_guesses_size r_guesses_list hs_1 f_finding f_guesses_size f_guesses_list hf _ _ hP hD hS _ (lv_sub hl [0] rfl)
  · have hf := kneg hc hf
    refine lv_aload_n hx hb dX10_read_47 rfl (lv_at hl 0 rfl) ?_
    refine va_get (ci := 10) (v := .ref a_guesses) (C := RX10) (T := TX10) (N := 12) hx hb hts inX10 hown hK hP 0 rfl rfl 6 (by decide) (hts _ tw_289) (fun _ h9 => h9) rfl dX10_read_48 ?_
    obtain ⟨v51, hc51, hf⟩ := cb1_some hf
    refine kcRV (q0 := 1) (ci := 2) (As := []) (rest := []) (st1 := [.int v51]) C (c_Gu_isFull l D ct a_guesses a_guesses_list f_guesses_size v51 hc51) ⟨rfl, rfl⟩ yn_yX2_isFull tw_526 tw_527 tw_525 ⟨Nat.le_of_ble_eq_true rfl, Nat.le_of_ble_eq_true rfl⟩ ⟨Nat.zero_le _, Nat.zero_le _⟩ hP [1] rfl rfl rfl rfl hl.1 rfl rfl (Nat.le_of_ble_eq_true rfl) dX10_read_51 rfl ?_
    refine lv_if_ne (tgt := 89) hx hb dX10_read_54 (by decide) (fun hc => ?_) (fun hc => ?_)
    · have hf := kneg hc hf
      exact t_ND_read_b89v2 C hA a_this a_texts a_names a_pieces a_song a_fitting a_deal a_guesses a_wise a_spy a_sheets a_guesses_list a_sheets0 a_sheets1 a_sheets2 a_sheets3 a_sheets0_items a_sheets1_items a_sheets2_items a_sheets3_items f_stale f_sheets0_form f_sheets1_form f_sheets2_form f_sheets3_form F f_sheets0_size f_sheets0_items f_sheets1_size f_sheets1_items f_sheets2_size f_sheets2_items f_sheets3_size f_sheets3_items x1 r r_finding r_guesses_size r_guesses_list hs_1 f_finding f_guesses_size f_guesses_list hf _ _ hP hD hS _ (lv_sub hl [0] rfl)
    · have hf := kpos hc hf
      refine lv_aload_n hx hb dX10_read_57 rfl (lv_at hl 1 rfl) ?_
      refine lv_iload_n hx hb dX10_read_58 rfl (lv_at hl 2 rfl) ?_
      obtain ⟨v59, hc59, hf⟩ := cb1_some hf
      refine kcRV (q0 := 6) (ci := 5) (As := [.int x3]) (rest := []) (st1 := [.int v59]) C (c_Sh_item l D ct a_sheets1 a_sheets1_items f_sheets1_form f_sheets1_size f_sheets1_items x3 v59 hc59) ⟨rfl, rfl⟩ yn_yX5_item tw_569 tw_570 tw_568 ⟨Nat.le_of_ble_eq_true rfl, Nat.le_of_ble_eq_true rfl⟩ ⟨Nat.zero_le _, Nat.zero_le _⟩ hP [6, 7] rfl rfl rfl rfl hl.1 rfl rfl (Nat.le_of_ble_eq_true rfl) dX10_read_59 rfl ?_
      obtain ⟨v62, hc62, hf⟩ := cb1_some hf
      refine kcRS (As := [.int v59]) (rest := []) (st1 := [.int v62]) C (c_ND_mayBeGuessed l D ct v59 v62 hc62) ⟨rfl, rfl⟩ yn_yX10_mayBeGuessed tw_523 tw_522 ⟨Nat.le_of_ble_eq_true rfl, Nat.le_of_ble_eq_true rfl⟩ ⟨Nat.zero_le _, Nat.zero_le _⟩ hP [] rfl hl.1 rfl rfl (Nat.le_of_ble_eq_true rfl) dX10_read_62 rfl ?_
      refine lv_if_ne (tgt := 71) hx hb dX10_read_65 (by decide) (fun hc => ?_) (fun hc => ?_)
      · have hf := kneg hc hf
        refine lv_aload_n hx hb dX10_read_71 rfl (lv_at hl 0 rfl) ?_
        refine va_get (ci := 10) (v := .ref a_guesses) (C := RX10) (T := TX10) (N := 12) hx hb hts inX10 hown hK hP 0 rfl rfl 6 (by decide) (hts _ tw_289) (fun _ h9 => h9) rfl dX10_read_72 ?_
        refine lv_aload_n hx hb dX10_read_75 rfl (lv_at hl 1 rfl) ?_
        refine lv_iload_n hx hb dX10_read_76 rfl (lv_at hl 2 rfl) ?_
        obtain ⟨v77, hc77, hf⟩ := cb1_some hf
        refine kcRV (q0 := 6) (ci := 5) (As := [.int x3]) (rest := [.ref a_guesses]) (st1 := [.int v77, .ref a_guesses]) C (c_Sh_item l D ct a_sheets1 a_sheets1_items f_sheets1_form f_sheets1_size f_sheets1_items x3 v77 hc77) ⟨rfl, rfl⟩ yn_yX5_item tw_569 tw_570 tw_568 ⟨Nat.le_of_ble_eq_true rfl, Nat.le_of_ble_eq_true rfl⟩ ⟨Nat.zero_le _, Nat.zero_le _⟩ hP [6, 7] rfl rfl rfl rfl hl.1 rfl rfl (Nat.le_of_ble_eq_true rfl) dX10_read_77 rfl ?_
        obtain ⟨f_guesses_size_80, f_guesses_list_80, hc80, hf⟩ := cb2_some hf
        refine kcMV (q0 := 1) (ci := 2) (As := [.int v77]) (rest := []) (st1 := []) (wf := (w_ND_read ct a_this a_texts a_names a_pieces a_song a_fitting a_deal a_guesses a_wise a_spy a_sheets a_guesses_list a_sheets0 a_sheets1 a_sheets2 a_sheets3 a_sheets0_items a_sheets1_items a_sheets2_items a_sheets3_items f_stale f_finding f_guesses_size_80 f_guesses_list_80 f_sheets0_form f_sheets0_size f_sheets0_items f_sheets1_form f_sheets1_size f_sheets1_items f_sheets2_form f_sheets2_size f_sheets2_items f_sheets3_form f_sheets3_size f_sheets3_items)) C (c_Gu_append l D ct a_guesses a_guesses_list f_guesses_size f_guesses_list v77 f_guesses_size_80 f_guesses_list_80 _ hc80) ⟨rfl, rfl⟩ yn_yX2_append tw_530 tw_531 tw_529 ⟨Nat.le_of_ble_eq_true rfl, Nat.le_of_ble_eq_true rfl⟩ ⟨Nat.zero_le _, Nat.zero_le _⟩ hP hD hS hA [1, 2] [0, 3, 4, 5, 6, 7, 8, 9, 10, 11] [0, 10, 11, 1, 2, 3, 4, 5, 6, 7, 8, 9] rfl rfl rfl rfl rfl (by decide) rfl rfl rfl rfl rfl rfl hl.1 rfl rfl (Nat.le_of_ble_eq_true rfl) dX10_read_80 rfl (fun H locs hP hD hS => ?_)
        refine lv_iinc (v := x3 + 1) (lv' := [(3, .int (x3 + 1)), (0, .ref a_this), (2, .ref a_sheets1)]) hx hb dX10_read_83 hl (k := 2) rfl rfl (by decide) rfl (fun ls hl => ?_)
        refine lv_goto (tgt := 39) hx hb dX10_read_86 (by decide) ?_
        exact hr39 (x3 + 1) f_finding f_guesses_size_80 f_guesses_list_80 hf _ _ hP hD hS _ (lv_sub hl [1, 2, 0] rfl)
      · have hf := kpos hc hf
        exact t_ND_read_b68v2 C hA a_this a_texts a_names a_pieces a_song a_fitting a_deal a_guesses a_wise a_spy a_sheets a_guesses_list a_sheets0 a_sheets1 a_sheets2 a_sheets3 a_sheets0_items a_sheets1_items a_sheets2_items a_sheets3_items f_stale f_sheets0_form f_sheets1_form f_sheets2_form f_sheets3_form F f_sheets0_size f_sheets0_items f_sheets1_size f_sheets1_items f_sheets2_size f_sheets2_items f_sheets3_size f_sheets3_items x1 r r_finding r_guesses_size r_guesses_list hs_1 f_finding f_guesses_size f_guesses_list hf _ _ hP hD hS _ (lv_sub hl [0] rfl)
set_option maxHeartbeats 4000000 in
set_option maxRecDepth 100000 in
theorem t_ND_read_l39v2 {p : Program} {l : Launch} {e : Env} {s : State} {m : MethodId} {args : Array Value} {below : List Frame} {meth : Method} {c : Code} {D : va_G} {ct : Nat → ClassId} (C : CX p s m args meth c RX10 cX10_read 4 (some .int) D ct) {A : Nat → Prop} (hA : ∀ q : Nat, s.heap.size ≤ q → A q) (a_this a_texts a_names a_pieces a_song a_fitting a_deal a_guesses a_wise a_spy a_sheets a_guesses_list a_sheets0 a_sheets1 a_sheets2 a_sheets3 a_sheets0_items a_sheets1_items a_sheets2_items a_sheets3_items : Nat) (f_stale : Int32) (f_sheets0_form : Int32) (f_sheets1_form : Int32) (f_sheets2_form : Int32) (f_sheets3_form : Int32) (F : Nat) (f_sheets0_size : Int32) (f_sheets0_items : Nat → Int32) (f_sheets1_size : Int32) (f_sheets1_items : Nat → Int32) (f_sheets2_size : Int32) (f_sheets2_items : Nat → Int32) (f_sheets3_size : Int32) (f_sheets3_items : Nat → Int32) (x1 : Int32) (r : Int32) (r_finding : Int32) (r_guesses_size : Int32) (r_guesses_list : Nat → Int32) (hs_1 : x1 = 1) : ∀ (n : Nat) (x3 : Int32) (f_finding : Int32) (f_guesses_size : Int32) (f_guesses_list : Nat → Int32), ND_read_l39v2 F f_sheets0_size f_sheets0_items f_sheets1_size f_sheets1_items f_sheets2_size f_sheets2_items f_sheets3_size f_sheets3_items x1 n x3 f_finding f_guesses_size f_guesses_list = some (r, r_finding, r_guesses_size, r_guesses_list) → ∀ (H : Heap) (locs : List Loc), va_P D vwCl (w_ND_read ct a_this a_texts a_names a_pieces a_song a_fitting a_deal a_guesses a_wise a_spy a_sheets a_guesses_list a_sheets0 a_sheets1 a_sheets2 a_sheets3 a_sheets0_items a_sheets1_items a_sheets2_items a_sheets3_items f_stale f_finding f_guesses_size f_guesses_list f_sheets0_form f_sheets0_size f_sheets0_items f_sheets1_form f_sheets1_size f_sheets1_items f_sheets2_form f_sheets2_size f_sheets2_items f_sheets3_form f_sheets3_size f_sheets3_items) H → va_D A (w_ND_read ct a_this a_texts a_names a_pieces a_song a_fitting a_deal a_guesses a_wise a_spy a_sheets a_guesses_list a_sheets0 a_sheets1 a_sheets2 a_sheets3 a_sheets0_items a_sheets1_items a_sheets2_items a_sheets3_items f_stale f_finding f_guesses_size f_guesses_list f_sheets0_form f_sheets0_size f_sheets0_items f_sheets1_form f_sheets1_size f_sheets1_items f_sheets2_form f_sheets2_size f_sheets2_items f_sheets3_form f_sheets3_size f_sheets3_items) → va_S A s.heap H locs → ∀ ls : Array Slot, lv_has ls 4 [(0, .ref a_this), (2, .ref a_sheets1), (3, .int x3)] → W p l e RM_ND_read s m args below meth c H locs 0 0 (MQ below (QM D (some (.int r)) (w_ND_read ct a_this a_texts a_names a_pieces a_song a_fitting a_deal a_guesses a_wise a_spy a_sheets a_guesses_list a_sheets0 a_sheets1 a_sheets2 a_sheets3 a_sheets0_items a_sheets1_items a_sheets2_items a_sheets3_items f_stale r_finding r_guesses_size r_guesses_list f_sheets0_form f_sheets0_size f_sheets0_items f_sheets1_form f_sheets1_size f_sheets1_items f_sheets2_form f_sheets2_size f_sheets2_items f_sheets3_form f_sheets3_size f_sheets3_items) A) args s 0 0 A) (F0 m 39 ls []) := by
  intro n
  induction n with
  | zero =>
    intro x3 f_finding f_guesses_size f_guesses_list hf
    exact absurd hf (by simp [ND_read_l39v2])
  | succ n ih =>
    intro x3 f_finding f_guesses_size f_guesses_list hf
    exact t_ND_read_b39v2 C hA a_this a_texts a_names a_pieces a_song a_fitting a_deal a_guesses a_wise a_spy a_sheets a_guesses_list a_sheets0 a_sheets1 a_sheets2 a_sheets3 a_sheets0_items a_sheets1_items a_sheets2_items a_sheets3_items f_stale f_sheets0_form f_sheets1_form f_sheets2_form f_sheets3_form F f_sheets0_size f_sheets0_items f_sheets1_size f_sheets1_items f_sheets2_size f_sheets2_items f_sheets3_size f_sheets3_items x1 r r_finding r_guesses_size r_guesses_list (ND_read_l39v2 F f_sheets0_size f_sheets0_items f_sheets1_size f_sheets1_items f_sheets2_size f_sheets2_items f_sheets3_size f_sheets3_items x1 n) ih hs_1 x3 f_finding f_guesses_size f_guesses_list hf
set_option maxHeartbeats 4000000 in
set_option maxRecDepth 100000 in
theorem t_ND_read_b39v3 {p : Program} {l : Launch} {e : Env} {s : State} {m : MethodId} {args : Array Value} {below : List Frame} {meth : Method} {c : Code} {D : va_G} {ct : Nat → ClassId} (C : CX p s m args meth c RX10 cX10_read 4 (some .int) D ct) {A : Nat → Prop} (hA : ∀ q : Nat, s.heap.size ≤ q → A q) (a_this a_texts a_names a_pieces a_song a_fitting a_deal a_guesses a_wise a_spy a_sheets a_guesses_list a_sheets0 a_sheets1 a_sheets2 a_sheets3 a_sheets0_items a_sheets1_items a_sheets2_items a_sheets3_items : Nat) (f_stale : Int32) (f_sheets0_form : Int32) (f_sheets1_form : Int32) (f_sheets2_form : Int32) (f_sheets3_form : Int32) (F : Nat) (f_sheets0_size : Int32) (f_sheets0_items : Nat → Int32) (f_sheets1_size : Int32) (f_sheets1_items : Nat → Int32) (f_sheets2_size : Int32) (f_sheets2_items : Nat → Int32) (f_sheets3_size : Int32) (f_sheets3_items : Nat → Int32) (x1 : Int32) (r : Int32) (r_finding : Int32) (r_guesses_size : Int32) (r_guesses_list : Nat → Int32) (rec39 : Int32 → Int32 → Int32 → (Nat → Int32) → Option (Int32 × Int32 × Int32 × (Nat → Int32))) (hr39 : ∀ (x3 : Int32) (f_finding : Int32) (f_guesses_size : Int32) (f_guesses_list : Nat → Int32), rec39 x3 f_finding f_guesses_size f_guesses_list = some (r, r_finding, r_guesses_size, r_guesses_list) → ∀ (H : Heap) (locs : List Loc), va_P D vwCl (w_ND_read ct a_this a_texts a_names a_pieces a_song a_fitting a_deal a_guesses a_wise a_spy a_sheets a_guesses_list a_sheets0 a_sheets1 a_sheets2 a_sheets3 a_sheets0_items a_sheets1_items a_sheets2_items a_sheets3_items f_stale f_finding f_guesses_size f_guesses_list f_sheets0_form f_sheets0_size f_sheets0_items f_sheets1_form f_sheets1_size f_sheets1_items f_sheets2_form f_sheets2_size f_sheets2_items f_sheets3_form f_sheets3_size f_sheets3_items) H → va_D A (w_ND_read ct a_this a_texts a_names a_pieces a_song a_fitting a_deal a_guesses a_wise a_spy a_sheets a_guesses_list a_sheets0 a_sheets1 a_sheets2 a_sheets3 a_sheets0_items a_sheets1_items a_sheets2_items a_sheets3_items f_stale f_finding f_guesses_size f_guesses_list f_sheets0_form f_sheets0_size f_sheets0_items f_sheets1_form f_sheets1_size f_sheets1_items f_sheets2_form f_sheets2_size f_sheets2_items f_sheets3_form f_sheets3_size f_sheets3_items) → va_S A s.heap H locs → ∀ ls : Array Slot, lv_has ls 4 [(0, .ref a_this), (2, .ref a_sheets0), (3, .int x3)] → W p l e RM_ND_read s m args below meth c H locs 0 0 (MQ below (QM D (some (.int r)) (w_ND_read ct a_this a_texts a_names a_pieces a_song a_fitting a_deal a_guesses a_wise a_spy a_sheets a_guesses_list a_sheets0 a_sheets1 a_sheets2 a_sheets3 a_sheets0_items a_sheets1_items a_sheets2_items a_sheets3_items f_stale r_finding r_guesses_size r_guesses_list f_sheets0_form f_sheets0_size f_sheets0_items f_sheets1_form f_sheets1_size f_sheets1_items f_sheets2_form f_sheets2_size f_sheets2_items f_sheets3_form f_sheets3_size f_sheets3_items) A) args s 0 0 A) (F0 m 39 ls [])) (hs_1 : x1 = 0) : ∀ (x3 : Int32) (f_finding : Int32) (f_guesses_size : Int32) (f_guesses_list : Nat → Int32), ND_read_b39v3 F f_sheets0_size f_sheets0_items f_sheets1_size f_sheets1_items f_sheets2_size f_sheets2_items f_sheets3_size f_sheets3_items x1 rec39 x3 f_finding f_guesses_size f_guesses_list = some (r, r_finding, r_guesses_size, r_guesses_list) → ∀ (H : Heap) (locs : List Loc), va_P D vwCl (w_ND_read ct a_this a_texts a_names a_pieces a_song a_fitting a_deal a_guesses a_wise a_spy a_sheets a_guesses_list a_sheets0 a_sheets1 a_sheets2 a_sheets3 a_sheets0_items a_sheets1_items a_sheets2_items a_sheets3_items f_stale f_finding f_guesses_size f_guesses_list f_sheets0_form f_sheets0_size f_sheets0_items f_sheets1_form f_sheets1_size f_sheets1_items f_sheets2_form f_sheets2_size f_sheets2_items f_sheets3_form f_sheets3_size f_sheets3_items) H → va_D A (w_ND_read ct a_this a_texts a_names a_pieces a_song a_fitting a_deal a_guesses a_wise a_spy a_sheets a_guesses_list a_sheets0 a_sheets1 a_sheets2 a_sheets3 a_sheets0_items a_sheets1_items a_sheets2_items a_sheets3_items f_stale f_finding f_guesses_size f_guesses_list f_sheets0_form f_sheets0_size f_sheets0_items f_sheets1_form f_sheets1_size f_sheets1_items f_sheets2_form f_sheets2_size f_sheets2_items f_sheets3_form f_sheets3_size f_sheets3_items) → va_S A s.heap H locs → ∀ ls : Array Slot, lv_has ls 4 [(0, .ref a_this), (2, .ref a_sheets0), (3, .int x3)] → W p l e RM_ND_read s m args below meth c H locs 0 0 (MQ below (QM D (some (.int r)) (w_ND_read ct a_this a_texts a_names a_pieces a_song a_fitting a_deal a_guesses a_wise a_spy a_sheets a_guesses_list a_sheets0 a_sheets1 a_sheets2 a_sheets3 a_sheets0_items a_sheets1_items a_sheets2_items a_sheets3_items f_stale r_finding r_guesses_size r_guesses_list f_sheets0_form f_sheets0_size f_sheets0_items f_sheets1_form f_sheets1_size f_sheets1_items f_sheets2_form f_sheets2_size f_sheets2_items f_sheets3_form f_sheets3_size f_sheets3_items) A) args s 0 0 A) (F0 m 39 ls []) := by
  obtain ⟨hx, hb, hr, hml, hown, hts, hlk, hK, hN⟩ := id C
  intro x3 f_finding f_guesses_size f_guesses_list hf H locs hP hD hS ls hl
  unfold ND_read_b39v3 at hf
  refine lv_iload_n hx hb dX10_read_39 rfl (lv_at hl 2 rfl) ?_
  refine lv_aload_n hx hb dX10_read_40 rfl (lv_at hl 1 rfl) ?_
  obtain ⟨v41, hc41, hf⟩ := cb1_some hf
  refine kcRV (q0 := 4) (ci := 5) (As := []) (rest := [.int x3]) (st1 := [.int v41, .int x3]) C (c_Sh_size l D ct a_sheets0 a_sheets0_items f_sheets0_form f_sheets0_size v41 hc41) ⟨rfl, rfl⟩ yn_yX5_size tw_565 tw_566 tw_564 ⟨Nat.le_of_ble_eq_true rfl, Nat.le_of_ble_eq_true rfl⟩ ⟨Nat.zero_le _, Nat.zero_le _⟩ hP [4] rfl rfl rfl rfl hl.1 rfl rfl (Nat.le_of_ble_eq_true rfl) dX10_read_41 rfl ?_
  refine lv_icmp_ge (tgt := 89) hx hb dX10_read_44 (by decide) (fun hc => ?_) (fun hc => ?_)
  · have hf := kpos hc hf
    exact t_ND_read_b89v3 C hA a_this a_texts a_names a_pieces a_song a_fitting a_deal a_guesses a_wise a_spy a_sheets a_guesses_list a_sheets0 a_sheets1 a_sheets2 a_sheets3 a_sheets0_items a_sheets1_items a_sheets2_items a_sheets3_items f_stale f_sheets0_form f_sheets1_form f_sheets2_form f_sheets3_form F f_sheets0_size f_sheets0_items f_sheets1_size f_sheets1_items f_sheets2_size f_sheets2_items f_sheets3_size f_sheets3_items x1 r r_finding r_guesses_size r_guesses_list hs_1 f_finding f_guesses_size f_guesses_list hf _ _ hP hD hS _ (lv_sub hl [0] rfl)
  · have hf := kneg hc hf
    refine lv_aload_n hx hb dX10_read_47 rfl (lv_at hl 0 rfl) ?_
    refine va_get (ci := 10) (v := .ref a_guesses) (C := RX10) (T := TX10) (N := 12) hx hb hts inX10 hown hK hP 0 rfl rfl 6 (by decide) (hts _ tw_289) (fun _ h9 => h9) rfl dX10_read_48 ?_
    obtain ⟨v51, hc51, hf⟩ := cb1_some hf
    refine kcRV (q0 := 1) (ci := 2) (As := []) (rest := []) (st1 := [.int v51]) C (c_Gu_isFull l D ct a_guesses a_guesses_list f_guesses_size v51 hc51) ⟨rfl, rfl⟩ yn_yX2_isFull tw_526 tw_527 tw_525 ⟨Nat.le_of_ble_eq_true rfl, Nat.le_of_ble_eq_true rfl⟩ ⟨Nat.zero_le _, Nat.zero_le _⟩ hP [1] rfl rfl rfl rfl hl.1 rfl rfl (Nat.le_of_ble_eq_true rfl) dX10_read_51 rfl ?_
    refine lv_if_ne (tgt := 89) hx hb dX10_read_54 (by decide) (fun hc => ?_) (fun hc => ?_)
    · have hf := kneg hc hf
      exact t_ND_read_b89v3 C hA a_this a_texts a_names a_pieces a_song a_fitting a_deal a_guesses a_wise a_spy a_sheets a_guesses_list a_sheets0 a_sheets1 a_sheets2 a_sheets3 a_sheets0_items a_sheets1_items a_sheets2_items a_sheets3_items f_stale f_sheets0_form f_sheets1_form f_sheets2_form f_sheets3_form F f_sheets0_size f_sheets0_items f_sheets1_size f_sheets1_items f_sheets2_size f_sheets2_items f_sheets3_size f_sheets3_items x1 r r_finding r_guesses_size r_guesses_list hs_1 f_finding f_guesses_size f_guesses_list hf _ _ hP hD hS _ (lv_sub hl [0] rfl)
    · have hf := kpos hc hf
      refine lv_aload_n hx hb dX10_read_57 rfl (lv_at hl 1 rfl) ?_
      refine lv_iload_n hx hb dX10_read_58 rfl (lv_at hl 2 rfl) ?_
      obtain ⟨v59, hc59, hf⟩ := cb1_some hf
      refine kcRV (q0 := 4) (ci := 5) (As := [.int x3]) (rest := []) (st1 := [.int v59]) C (c_Sh_item l D ct a_sheets0 a_sheets0_items f_sheets0_form f_sheets0_size f_sheets0_items x3 v59 hc59) ⟨rfl, rfl⟩ yn_yX5_item tw_569 tw_570 tw_568 ⟨Nat.le_of_ble_eq_true rfl, Nat.le_of_ble_eq_true rfl⟩ ⟨Nat.zero_le _, Nat.zero_le _⟩ hP [4, 5] rfl rfl rfl rfl hl.1 rfl rfl (Nat.le_of_ble_eq_true rfl) dX10_read_59 rfl ?_
      obtain ⟨v62, hc62, hf⟩ := cb1_some hf
      refine kcRS (As := [.int v59]) (rest := []) (st1 := [.int v62]) C (c_ND_mayBeGuessed l D ct v59 v62 hc62) ⟨rfl, rfl⟩ yn_yX10_mayBeGuessed tw_523 tw_522 ⟨Nat.le_of_ble_eq_true rfl, Nat.le_of_ble_eq_true rfl⟩ ⟨Nat.zero_le _, Nat.zero_le _⟩ hP [] rfl hl.1 rfl rfl (Nat.le_of_ble_eq_true rfl) dX10_read_62 rfl ?_
      refine lv_if_ne (tgt := 71) hx hb dX10_read_65 (by decide) (fun hc => ?_) (fun hc => ?_)
      · have hf := kneg hc hf
        refine lv_aload_n hx hb dX10_read_71 rfl (lv_at hl 0 rfl) ?_
        refine va_get (ci := 10) (v := .ref a_guesses) (C := RX10) (T := TX10) (N := 12) hx hb hts inX10 hown hK hP 0 rfl rfl 6 (by decide) (hts _ tw_289) (fun _ h9 => h9) rfl dX10_read_72 ?_
        refine lv_aload_n hx hb dX10_read_75 rfl (lv_at hl 1 rfl) ?_
        refine lv_iload_n hx hb dX10_read_76 rfl (lv_at hl 2 rfl) ?_
        obtain ⟨v77, hc77, hf⟩ := cb1_some hf
        refine kcRV (q0 := 4) (ci := 5) (As := [.int x3]) (rest := [.ref a_guesses]) (st1 := [.int v77, .ref a_guesses]) C (c_Sh_item l D ct a_sheets0 a_sheets0_items f_sheets0_form f_sheets0_size f_sheets0_items x3 v77 hc77) ⟨rfl, rfl⟩ yn_yX5_item tw_569 tw_570 tw_568 ⟨Nat.le_of_ble_eq_true rfl, Nat.le_of_ble_eq_true rfl⟩ ⟨Nat.zero_le _, Nat.zero_le _⟩ hP [4, 5] rfl rfl rfl rfl hl.1 rfl rfl (Nat.le_of_ble_eq_true rfl) dX10_read_77 rfl ?_
        obtain ⟨f_guesses_size_80, f_guesses_list_80, hc80, hf⟩ := cb2_some hf
        refine kcMV (q0 := 1) (ci := 2) (As := [.int v77]) (rest := []) (st1 := []) (wf := (w_ND_read ct a_this a_texts a_names a_pieces a_song a_fitting a_deal a_guesses a_wise a_spy a_sheets a_guesses_list a_sheets0 a_sheets1 a_sheets2 a_sheets3 a_sheets0_items a_sheets1_items a_sheets2_items a_sheets3_items f_stale f_finding f_guesses_size_80 f_guesses_list_80 f_sheets0_form f_sheets0_size f_sheets0_items f_sheets1_form f_sheets1_size f_sheets1_items f_sheets2_form f_sheets2_size f_sheets2_items f_sheets3_form f_sheets3_size f_sheets3_items)) C (c_Gu_append l D ct a_guesses a_guesses_list f_guesses_size f_guesses_list v77 f_guesses_size_80 f_guesses_list_80 _ hc80) ⟨rfl, rfl⟩ yn_yX2_append tw_530 tw_531 tw_529 ⟨Nat.le_of_ble_eq_true rfl, Nat.le_of_ble_eq_true rfl⟩ ⟨Nat.zero_le _, Nat.zero_le _⟩ hP hD hS hA [1, 2] [0, 3, 4, 5, 6, 7, 8, 9, 10, 11] [0, 10, 11, 1, 2, 3, 4, 5, 6, 7, 8, 9] rfl rfl rfl rfl rfl (by decide) rfl rfl rfl rfl rfl rfl hl.1 rfl rfl (Nat.le_of_ble_eq_true rfl) dX10_read_80 rfl (fun H locs hP hD hS => ?_)
        refine lv_iinc (v := x3 + 1) (lv' := [(3, .int (x3 + 1)), (0, .ref a_this), (2, .ref a_sheets0)]) hx hb dX10_read_83 hl (k := 2) rfl rfl (by decide) rfl (fun ls hl => ?_)
        refine lv_goto (tgt := 39) hx hb dX10_read_86 (by decide) ?_
        exact hr39 (x3 + 1) f_finding f_guesses_size_80 f_guesses_list_80 hf _ _ hP hD hS _ (lv_sub hl [1, 2, 0] rfl)
      · have hf := kpos hc hf
        exact t_ND_read_b68v3 C hA a_this a_texts a_names a_pieces a_song a_fitting a_deal a_guesses a_wise a_spy a_sheets a_guesses_list a_sheets0 a_sheets1 a_sheets2 a_sheets3 a_sheets0_items a_sheets1_items a_sheets2_items a_sheets3_items f_stale f_sheets0_form f_sheets1_form f_sheets2_form f_sheets3_form F f_sheets0_size f_sheets0_items f_sheets1_size f_sheets1_items f_sheets2_size f_sheets2_items f_sheets3_size f_sheets3_items x1 r r_finding r_guesses_size r_guesses_list hs_1 f_finding f_guesses_size f_guesses_list hf _ _ hP hD hS _ (lv_sub hl [0] rfl)
set_option maxHeartbeats 4000000 in
set_option maxRecDepth 100000 in
theorem t_ND_read_l39v3 {p : Program} {l : Launch} {e : Env} {s : State} {m : MethodId} {args : Array Value} {below : List Frame} {meth : Method} {c : Code} {D : va_G} {ct : Nat → ClassId} (C : CX p s m args meth c RX10 cX10_read 4 (some .int) D ct) {A : Nat → Prop} (hA : ∀ q : Nat, s.heap.size ≤ q → A q) (a_this a_texts a_names a_pieces a_song a_fitting a_deal a_guesses a_wise a_spy a_sheets a_guesses_list a_sheets0 a_sheets1 a_sheets2 a_sheets3 a_sheets0_items a_sheets1_items a_sheets2_items a_sheets3_items : Nat) (f_stale : Int32) (f_sheets0_form : Int32) (f_sheets1_form : Int32) (f_sheets2_form : Int32) (f_sheets3_form : Int32) (F : Nat) (f_sheets0_size : Int32) (f_sheets0_items : Nat → Int32) (f_sheets1_size : Int32) (f_sheets1_items : Nat → Int32) (f_sheets2_size : Int32) (f_sheets2_items : Nat → Int32) (f_sheets3_size : Int32) (f_sheets3_items : Nat → Int32) (x1 : Int32) (r : Int32) (r_finding : Int32) (r_guesses_size : Int32) (r_guesses_list : Nat → Int32) (hs_1 : x1 = 0) : ∀ (n : Nat) (x3 : Int32) (f_finding : Int32) (f_guesses_size : Int32) (f_guesses_list : Nat → Int32), ND_read_l39v3 F f_sheets0_size f_sheets0_items f_sheets1_size f_sheets1_items f_sheets2_size f_sheets2_items f_sheets3_size f_sheets3_items x1 n x3 f_finding f_guesses_size f_guesses_list = some (r, r_finding, r_guesses_size, r_guesses_list) → ∀ (H : Heap) (locs : List Loc), va_P D vwCl (w_ND_read ct a_this a_texts a_names a_pieces a_song a_fitting a_deal a_guesses a_wise a_spy a_sheets a_guesses_list a_sheets0 a_sheets1 a_sheets2 a_sheets3 a_sheets0_items a_sheets1_items a_sheets2_items a_sheets3_items f_stale f_finding f_guesses_size f_guesses_list f_sheets0_form f_sheets0_size f_sheets0_items f_sheets1_form f_sheets1_size f_sheets1_items f_sheets2_form f_sheets2_size f_sheets2_items f_sheets3_form f_sheets3_size f_sheets3_items) H → va_D A (w_ND_read ct a_this a_texts a_names a_pieces a_song a_fitting a_deal a_guesses a_wise a_spy a_sheets a_guesses_list a_sheets0 a_sheets1 a_sheets2 a_sheets3 a_sheets0_items a_sheets1_items a_sheets2_items a_sheets3_items f_stale f_finding f_guesses_size f_guesses_list f_sheets0_form f_sheets0_size f_sheets0_items f_sheets1_form f_sheets1_size f_sheets1_items f_sheets2_form f_sheets2_size f_sheets2_items f_sheets3_form f_sheets3_size f_sheets3_items) → va_S A s.heap H locs → ∀ ls : Array Slot, lv_has ls 4 [(0, .ref a_this), (2, .ref a_sheets0), (3, .int x3)] → W p l e RM_ND_read s m args below meth c H locs 0 0 (MQ below (QM D (some (.int r)) (w_ND_read ct a_this a_texts a_names a_pieces a_song a_fitting a_deal a_guesses a_wise a_spy a_sheets a_guesses_list a_sheets0 a_sheets1 a_sheets2 a_sheets3 a_sheets0_items a_sheets1_items a_sheets2_items a_sheets3_items f_stale r_finding r_guesses_size r_guesses_list f_sheets0_form f_sheets0_size f_sheets0_items f_sheets1_form f_sheets1_size f_sheets1_items f_sheets2_form f_sheets2_size f_sheets2_items f_sheets3_form f_sheets3_size f_sheets3_items) A) args s 0 0 A) (F0 m 39 ls []) := by
  intro n
  induction n with
  | zero =>
    intro x3 f_finding f_guesses_size f_guesses_list hf
    exact absurd hf (by simp [ND_read_l39v3])
  | succ n ih =>
    intro x3 f_finding f_guesses_size f_guesses_list hf
    exact t_ND_read_b39v3 C hA a_this a_texts a_names a_pieces a_song a_fitting a_deal a_guesses a_wise a_spy a_sheets a_guesses_list a_sheets0 a_sheets1 a_sheets2 a_sheets3 a_sheets0_items a_sheets1_items a_sheets2_items a_sheets3_items f_stale f_sheets0_form f_sheets1_form f_sheets2_form f_sheets3_form F f_sheets0_size f_sheets0_items f_sheets1_size f_sheets1_items f_sheets2_size f_sheets2_items f_sheets3_size f_sheets3_items x1 r r_finding r_guesses_size r_guesses_list (ND_read_l39v3 F f_sheets0_size f_sheets0_items f_sheets1_size f_sheets1_items f_sheets2_size f_sheets2_items f_sheets3_size f_sheets3_items x1 n) ih hs_1 x3 f_finding f_guesses_size f_guesses_list hf
set_option maxHeartbeats 4000000 in
set_option maxRecDepth 100000 in
theorem c_ND_read (l : Launch) (D : va_G) (ct : Nat → ClassId) (a_this a_texts a_names a_pieces a_song a_fitting a_deal a_guesses a_wise a_spy a_sheets a_guesses_list a_sheets0 a_sheets1 a_sheets2 a_sheets3 a_sheets0_items a_sheets1_items a_sheets2_items a_sheets3_items : Nat) (f_stale : Int32) (f_sheets0_form : Int32) (f_sheets1_form : Int32) (f_sheets2_form : Int32) (f_sheets3_form : Int32) (F : Nat) (f_sheets0_size : Int32) (f_sheets0_items : Nat → Int32) (f_sheets1_size : Int32) (f_sheets1_items : Nat → Int32) (f_sheets2_size : Int32) (f_sheets2_items : Nat → Int32) (f_sheets3_size : Int32) (f_sheets3_items : Nat → Int32) (f_finding : Int32) (f_guesses_size : Int32) (f_guesses_list : Nat → Int32) (x1 : Int32) (r : Int32) (r_finding : Int32) (r_guesses_size : Int32) (r_guesses_list : Nat → Int32) (sz : Nat) (hf : ND_read F f_sheets0_size f_sheets0_items f_sheets1_size f_sheets1_items f_sheets2_size f_sheets2_items f_sheets3_size f_sheets3_items f_finding f_guesses_size f_guesses_list x1 = some (r, r_finding, r_guesses_size, r_guesses_list)) : Met l yX10_read (WS yX10_read cX10_read 4 (some .int)) RM_ND_read (va_Pc [.ref a_this, .int x1] (PM D ct sz (w_ND_read ct a_this a_texts a_names a_pieces a_song a_fitting a_deal a_guesses a_wise a_spy a_sheets a_guesses_list a_sheets0 a_sheets1 a_sheets2 a_sheets3 a_sheets0_items a_sheets1_items a_sheets2_items a_sheets3_items f_stale f_finding f_guesses_size f_guesses_list f_sheets0_form f_sheets0_size f_sheets0_items f_sheets1_form f_sheets1_size f_sheets1_items f_sheets2_form f_sheets2_size f_sheets2_items f_sheets3_form f_sheets3_size f_sheets3_items))) (QM D (some (.int r)) (w_ND_read ct a_this a_texts a_names a_pieces a_song a_fitting a_deal a_guesses a_wise a_spy a_sheets a_guesses_list a_sheets0 a_sheets1 a_sheets2 a_sheets3 a_sheets0_items a_sheets1_items a_sheets2_items a_sheets3_items f_stale r_finding r_guesses_size r_guesses_list f_sheets0_form f_sheets0_size f_sheets0_items f_sheets1_form f_sheets1_size f_sheets1_items f_sheets2_form f_sheets2_size f_sheets2_items f_sheets3_form f_sheets3_size f_sheets3_items) (va_A (w_ND_read ct a_this a_texts a_names a_pieces a_song a_fitting a_deal a_guesses a_wise a_spy a_sheets a_guesses_list a_sheets0 a_sheets1 a_sheets2 a_sheets3 a_sheets0_items a_sheets1_items a_sheets2_items a_sheets3_items f_stale f_finding f_guesses_size f_guesses_list f_sheets0_form f_sheets0_size f_sheets0_items f_sheets1_form f_sheets1_size f_sheets1_items f_sheets2_form f_sheets2_size f_sheets2_items f_sheets3_form f_sheets3_size f_sheets3_items) sz)) 0 0 (va_A (w_ND_read ct a_this a_texts a_names a_pieces a_song a_fitting a_deal a_guesses a_wise a_spy a_sheets a_guesses_list a_sheets0 a_sheets1 a_sheets2 a_sheets3 a_sheets0_items a_sheets1_items a_sheets2_items a_sheets3_items f_stale f_finding f_guesses_size f_guesses_list f_sheets0_form f_sheets0_size f_sheets0_items f_sheets1_form f_sheets1_size f_sheets1_items f_sheets2_form f_sheets2_size f_sheets2_items f_sheets3_form f_sheets3_size f_sheets3_items) sz) := by
  refine kMetM yn_yX10_read rfl (Nat.le_of_ble_eq_true rfl) ?_
  intro p e s m args below meth c A C hA hP hD ls hl
  have hl : lv_has ls 4 [(0, .ref a_this), (1, .int x1)] := hl
  have hS : va_S A s.heap s.heap [] := va_S.rf
  obtain ⟨hx, hb, hr, hml, hown, hts, hlk, hK, hN⟩ := id C
  unfold ND_read at hf
  refine lv_iload_n hx hb dX10_read_0 rfl (lv_at hl 1 rfl) ?_
  obtain ⟨v1, hc1, hf⟩ := cb1_some hf
  refine kcRS (As := [.int x1]) (rest := []) (st1 := [.int v1]) C (c_ND_isSheet l D ct x1 v1 hc1) ⟨rfl, rfl⟩ yn_yX10_isSheet tw_550 tw_549 ⟨Nat.le_of_ble_eq_true rfl, Nat.le_of_ble_eq_true rfl⟩ ⟨Nat.zero_le _, Nat.zero_le _⟩ hP [] rfl hl.1 rfl rfl (Nat.le_of_ble_eq_true rfl) dX10_read_1 rfl ?_
  refine lv_if_ne (tgt := 10) hx hb dX10_read_4 (by decide) (fun hc => ?_) (fun hc => ?_)
  · have hf := kneg hc hf
    refine lv_aload_n hx hb dX10_read_10 rfl (lv_at hl 0 rfl) ?_
    refine va_get (ci := 10) (v := .ref a_sheets) (C := RX10) (T := TX10) (N := 12) hx hb hts inX10 hown hK hP 0 rfl rfl 9 (by decide) (hts _ tw_292) (fun _ h9 => h9) rfl dX10_read_11 ?_
    refine lv_iload_n hx hb dX10_read_14 rfl (lv_at hl 1 rfl) ?_
    by_cases hs_1 : x1 = 0
    · have hf := kpos hs_1 hf
      refine kaald hx hb hK hP 3 4 rfl rfl (k := 0) (by rw [hs_1]; rfl) rfl (by decide) dX10_read_15 ?_
      refine lv_astore_n (lv' := [(2, .ref a_sheets0), (0, .ref a_this), (1, .int x1)]) hx hb dX10_read_16 rfl hl (by decide) rfl (fun ls hl => ?_)
      refine lv_aload_n hx hb dX10_read_17 rfl (lv_at hl 0 rfl) ?_
      obtain ⟨v18, hc18, hf⟩ := cb1_some hf
      refine kcRV (q0 := 4) (ci := 5) (As := []) (rest := []) (st1 := [.int v18]) C (c_Sh_isLost l D ct a_sheets0 a_sheets0_items f_sheets0_form f_sheets0_size v18 hc18) ⟨rfl, rfl⟩ yn_yX5_isLost tw_553 tw_554 tw_552 ⟨Nat.le_of_ble_eq_true rfl, Nat.le_of_ble_eq_true rfl⟩ ⟨Nat.zero_le _, Nat.zero_le _⟩ hP [4] rfl rfl rfl rfl hl.1 rfl rfl (Nat.le_of_ble_eq_true rfl) dX10_read_18 rfl ?_
      refine lv_if_eq (tgt := 30) hx hb dX10_read_21 (by decide) (fun hc => ?_) (fun hc => ?_)
      · have hf := kpos hc hf
        refine lv_aload_n hx hb dX10_read_30 rfl (lv_at hl 1 rfl) ?_
        refine va_get (ci := 10) (v := .ref a_guesses) (C := RX10) (T := TX10) (N := 12) hx hb hts inX10 hown hK hP 0 rfl rfl 6 (by decide) (hts _ tw_289) (fun _ h9 => h9) rfl dX10_read_31 ?_
        obtain ⟨f_guesses_size_34, hc34, hf⟩ := cb1_some hf
        refine kcMV (q0 := 1) (ci := 2) (As := []) (rest := []) (st1 := []) (wf := (w_ND_read ct a_this a_texts a_names a_pieces a_song a_fitting a_deal a_guesses a_wise a_spy a_sheets a_guesses_list a_sheets0 a_sheets1 a_sheets2 a_sheets3 a_sheets0_items a_sheets1_items a_sheets2_items a_sheets3_items f_stale f_finding f_guesses_size_34 f_guesses_list f_sheets0_form f_sheets0_size f_sheets0_items f_sheets1_form f_sheets1_size f_sheets1_items f_sheets2_form f_sheets2_size f_sheets2_items f_sheets3_form f_sheets3_size f_sheets3_items)) C (c_Gu_empty l D ct a_guesses a_guesses_list f_guesses_size f_guesses_size_34 _ hc34) ⟨rfl, rfl⟩ yn_yX2_empty tw_561 tw_562 tw_560 ⟨Nat.le_of_ble_eq_true rfl, Nat.le_of_ble_eq_true rfl⟩ ⟨Nat.zero_le _, Nat.zero_le _⟩ hP hD hS hA [1] [0, 2, 3, 4, 5, 6, 7, 8, 9, 10, 11] [0, 11, 1, 2, 3, 4, 5, 6, 7, 8, 9, 10] rfl rfl rfl rfl rfl (by decide) rfl rfl rfl rfl rfl rfl hl.1 rfl rfl (Nat.le_of_ble_eq_true rfl) dX10_read_34 rfl (fun H locs hP hD hS => ?_)
        refine lv_iconst (v := 0) hx hb dX10_read_37 (by decide) ?_
        refine lv_istore_n (lv' := [(3, .int 0), (2, .ref a_sheets0), (0, .ref a_this), (1, .int x1)]) hx hb dX10_read_38 rfl hl (by decide) rfl (fun ls hl => ?_)
        exact t_ND_read_l39v3 C hA a_this a_texts a_names a_pieces a_song a_fitting a_deal a_guesses a_wise a_spy a_sheets a_guesses_list a_sheets0 a_sheets1 a_sheets2 a_sheets3 a_sheets0_items a_sheets1_items a_sheets2_items a_sheets3_items f_stale f_sheets0_form f_sheets1_form f_sheets2_form f_sheets3_form F f_sheets0_size f_sheets0_items f_sheets1_size f_sheets1_items f_sheets2_size f_sheets2_items f_sheets3_size f_sheets3_items x1 r r_finding r_guesses_size r_guesses_list hs_1 F 0 f_finding f_guesses_size_34 f_guesses_list hf _ _ hP hD hS _ (lv_sub hl [2, 1, 0] rfl)
      · have hf := kneg hc hf
        refine lv_aload_n hx hb dX10_read_24 rfl (lv_at hl 1 rfl) ?_
        refine lv_iconst (v := 1) hx hb dX10_read_25 (by decide) ?_
        obtain ⟨v26, f_finding_26, hc26, hf⟩ := cb2_some hf
        refine kcMV (q0 := 0) (ci := 10) (As := [.int 1]) (rest := []) (st1 := [.int v26]) (wf := (w_ND_read ct a_this a_texts a_names a_pieces a_song a_fitting a_deal a_guesses a_wise a_spy a_sheets a_guesses_list a_sheets0 a_sheets1 a_sheets2 a_sheets3 a_sheets0_items a_sheets1_items a_sheets2_items a_sheets3_items f_stale f_finding_26 f_guesses_size f_guesses_list f_sheets0_form f_sheets0_size f_sheets0_items f_sheets1_form f_sheets1_size f_sheets1_items f_sheets2_form f_sheets2_size f_sheets2_items f_sheets3_form f_sheets3_size f_sheets3_items)) C (c_ND_found l D ct a_this a_texts a_names a_pieces a_song a_fitting a_deal a_guesses a_wise a_spy a_sheets f_stale f_finding 1 v26 f_finding_26 _ hc26) ⟨rfl, rfl⟩ yn_yX10_found tw_558 tw_10 tw_556 ⟨Nat.le_of_ble_eq_true rfl, Nat.le_of_ble_eq_true rfl⟩ ⟨Nat.zero_le _, Nat.zero_le _⟩ hP hD hS hA [0] [1, 2, 3, 4, 5, 6, 7, 8, 9, 10, 11] [11, 0, 1, 2, 3, 4, 5, 6, 7, 8, 9, 10] rfl rfl rfl rfl rfl (by decide) rfl rfl rfl rfl rfl rfl hl.1 rfl rfl (Nat.le_of_ble_eq_true rfl) dX10_read_26 rfl (fun H locs hP hD hS => ?_)
        obtain ⟨e1, e2, e3, e4⟩ := ti4 hf
        subst e1; subst e2; subst e3; subst e4
        exact kretM C hP hD hS dX10_read_29
    · have hf := kneg hs_1 hf
      by_cases hs_1 : x1 = 1
      · have hf := kpos hs_1 hf
        refine kaald hx hb hK hP 3 4 rfl rfl (k := 1) (by rw [hs_1]; rfl) rfl (by decide) dX10_read_15 ?_
        refine lv_astore_n (lv' := [(2, .ref a_sheets1), (0, .ref a_this), (1, .int x1)]) hx hb dX10_read_16 rfl hl (by decide) rfl (fun ls hl => ?_)
        refine lv_aload_n hx hb dX10_read_17 rfl (lv_at hl 0 rfl) ?_
        obtain ⟨v18, hc18, hf⟩ := cb1_some hf
        refine kcRV (q0 := 6) (ci := 5) (As := []) (rest := []) (st1 := [.int v18]) C (c_Sh_isLost l D ct a_sheets1 a_sheets1_items f_sheets1_form f_sheets1_size v18 hc18) ⟨rfl, rfl⟩ yn_yX5_isLost tw_553 tw_554 tw_552 ⟨Nat.le_of_ble_eq_true rfl, Nat.le_of_ble_eq_true rfl⟩ ⟨Nat.zero_le _, Nat.zero_le _⟩ hP [6] rfl rfl rfl rfl hl.1 rfl rfl (Nat.le_of_ble_eq_true rfl) dX10_read_18 rfl ?_
        refine lv_if_eq (tgt := 30) hx hb dX10_read_21 (by decide) (fun hc => ?_) (fun hc => ?_)
        · have hf := kpos hc hf
          refine lv_aload_n hx hb dX10_read_30 rfl (lv_at hl 1 rfl) ?_
          refine va_get (ci := 10) (v := .ref a_guesses) (C := RX10) (T := TX10) (N := 12) hx hb hts inX10 hown hK hP 0 rfl rfl 6 (by decide) (hts _ tw_289) (fun _ h9 => h9) rfl dX10_read_31 ?_
          obtain ⟨f_guesses_size_34, hc34, hf⟩ := cb1_some hf
          refine kcMV (q0 := 1) (ci := 2) (As := []) (rest := []) (st1 := []) (wf := (w_ND_read ct a_this a_texts a_names a_pieces a_song a_fitting a_deal a_guesses a_wise a_spy a_sheets a_guesses_list a_sheets0 a_sheets1 a_sheets2 a_sheets3 a_sheets0_items a_sheets1_items a_sheets2_items a_sheets3_items f_stale f_finding f_guesses_size_34 f_guesses_list f_sheets0_form f_sheets0_size f_sheets0_items f_sheets1_form f_sheets1_size f_sheets1_items f_sheets2_form f_sheets2_size f_sheets2_items f_sheets3_form f_sheets3_size f_sheets3_items)) C (c_Gu_empty l D ct a_guesses a_guesses_list f_guesses_size f_guesses_size_34 _ hc34) ⟨rfl, rfl⟩ yn_yX2_empty tw_561 tw_562 tw_560 ⟨Nat.le_of_ble_eq_true rfl, Nat.le_of_ble_eq_true rfl⟩ ⟨Nat.zero_le _, Nat.zero_le _⟩ hP hD hS hA [1] [0, 2, 3, 4, 5, 6, 7, 8, 9, 10, 11] [0, 11, 1, 2, 3, 4, 5, 6, 7, 8, 9, 10] rfl rfl rfl rfl rfl (by decide) rfl rfl rfl rfl rfl rfl hl.1 rfl rfl (Nat.le_of_ble_eq_true rfl) dX10_read_34 rfl (fun H locs hP hD hS => ?_)
          refine lv_iconst (v := 0) hx hb dX10_read_37 (by decide) ?_
          refine lv_istore_n (lv' := [(3, .int 0), (2, .ref a_sheets1), (0, .ref a_this), (1, .int x1)]) hx hb dX10_read_38 rfl hl (by decide) rfl (fun ls hl => ?_)
          exact t_ND_read_l39v2 C hA a_this a_texts a_names a_pieces a_song a_fitting a_deal a_guesses a_wise a_spy a_sheets a_guesses_list a_sheets0 a_sheets1 a_sheets2 a_sheets3 a_sheets0_items a_sheets1_items a_sheets2_items a_sheets3_items f_stale f_sheets0_form f_sheets1_form f_sheets2_form f_sheets3_form F f_sheets0_size f_sheets0_items f_sheets1_size f_sheets1_items f_sheets2_size f_sheets2_items f_sheets3_size f_sheets3_items x1 r r_finding r_guesses_size r_guesses_list hs_1 F 0 f_finding f_guesses_size_34 f_guesses_list hf _ _ hP hD hS _ (lv_sub hl [2, 1, 0] rfl)
        · have hf := kneg hc hf
          refine lv_aload_n hx hb dX10_read_24 rfl (lv_at hl 1 rfl) ?_
          refine lv_iconst (v := 1) hx hb dX10_read_25 (by decide) ?_
          obtain ⟨v26, f_finding_26, hc26, hf⟩ := cb2_some hf
          refine kcMV (q0 := 0) (ci := 10) (As := [.int 1]) (rest := []) (st1 := [.int v26]) (wf := (w_ND_read ct a_this a_texts a_names a_pieces a_song a_fitting a_deal a_guesses a_wise a_spy a_sheets a_guesses_list a_sheets0 a_sheets1 a_sheets2 a_sheets3 a_sheets0_items a_sheets1_items a_sheets2_items a_sheets3_items f_stale f_finding_26 f_guesses_size f_guesses_list f_sheets0_form f_sheets0_size f_sheets0_items f_sheets1_form f_sheets1_size f_sheets1_items f_sheets2_form f_sheets2_size f_sheets2_items f_sheets3_form f_sheets3_size f_sheets3_items)) C (c_ND_found l D ct a_this a_texts a_names a_pieces a_song a_fitting a_deal a_guesses a_wise a_spy a_sheets f_stale f_finding 1 v26 f_finding_26 _ hc26) ⟨rfl, rfl⟩ yn_yX10_found tw_558 tw_10 tw_556 ⟨Nat.le_of_ble_eq_true rfl, Nat.le_of_ble_eq_true rfl⟩ ⟨Nat.zero_le _, Nat.zero_le _⟩ hP hD hS hA [0] [1, 2, 3, 4, 5, 6, 7, 8, 9, 10, 11] [11, 0, 1, 2, 3, 4, 5, 6, 7, 8, 9, 10] rfl rfl rfl rfl rfl (by decide) rfl rfl rfl rfl rfl rfl hl.1 rfl rfl (Nat.le_of_ble_eq_true rfl) dX10_read_26 rfl (fun H locs hP hD hS => ?_)
          obtain ⟨e1, e2, e3, e4⟩ := ti4 hf
          subst e1; subst e2; subst e3; subst e4
          exact kretM C hP hD hS dX10_read_29
      · have hf := kneg hs_1 hf
        by_cases hs_1 : x1 = 2
        · have hf := kpos hs_1 hf
          refine kaald hx hb hK hP 3 4 rfl rfl (k := 2) (by rw [hs_1]; rfl) rfl (by decide) dX10_read_15 ?_
          refine lv_astore_n (lv' := [(2, .ref a_sheets2), (0, .ref a_this), (1, .int x1)]) hx hb dX10_read_16 rfl hl (by decide) rfl (fun ls hl => ?_)
          refine lv_aload_n hx hb dX10_read_17 rfl (lv_at hl 0 rfl) ?_
          obtain ⟨v18, hc18, hf⟩ := cb1_some hf
          refine kcRV (q0 := 8) (ci := 5) (As := []) (rest := []) (st1 := [.int v18]) C (c_Sh_isLost l D ct a_sheets2 a_sheets2_items f_sheets2_form f_sheets2_size v18 hc18) ⟨rfl, rfl⟩ yn_yX5_isLost tw_553 tw_554 tw_552 ⟨Nat.le_of_ble_eq_true rfl, Nat.le_of_ble_eq_true rfl⟩ ⟨Nat.zero_le _, Nat.zero_le _⟩ hP [8] rfl rfl rfl rfl hl.1 rfl rfl (Nat.le_of_ble_eq_true rfl) dX10_read_18 rfl ?_
          refine lv_if_eq (tgt := 30) hx hb dX10_read_21 (by decide) (fun hc => ?_) (fun hc => ?_)
          · have hf := kpos hc hf
            refine lv_aload_n hx hb dX10_read_30 rfl (lv_at hl 1 rfl) ?_
            refine va_get (ci := 10) (v := .ref a_guesses) (C := RX10) (T := TX10) (N := 12) hx hb hts inX10 hown hK hP 0 rfl rfl 6 (by decide) (hts _ tw_289) (fun _ h9 => h9) rfl dX10_read_31 ?_
            obtain ⟨f_guesses_size_34, hc34, hf⟩ := cb1_some hf
            refine kcMV (q0 := 1) (ci := 2) (As := []) (rest := []) (st1 := []) (wf := (w_ND_read ct a_this a_texts a_names a_pieces a_song a_fitting a_deal a_guesses a_wise a_spy a_sheets a_guesses_list a_sheets0 a_sheets1 a_sheets2 a_sheets3 a_sheets0_items a_sheets1_items a_sheets2_items a_sheets3_items f_stale f_finding f_guesses_size_34 f_guesses_list f_sheets0_form f_sheets0_size f_sheets0_items f_sheets1_form f_sheets1_size f_sheets1_items f_sheets2_form f_sheets2_size f_sheets2_items f_sheets3_form f_sheets3_size f_sheets3_items)) C (c_Gu_empty l D ct a_guesses a_guesses_list f_guesses_size f_guesses_size_34 _ hc34) ⟨rfl, rfl⟩ yn_yX2_empty tw_561 tw_562 tw_560 ⟨Nat.le_of_ble_eq_true rfl, Nat.le_of_ble_eq_true rfl⟩ ⟨Nat.zero_le _, Nat.zero_le _⟩ hP hD hS hA [1] [0, 2, 3, 4, 5, 6, 7, 8, 9, 10, 11] [0, 11, 1, 2, 3, 4, 5, 6, 7, 8, 9, 10] rfl rfl rfl rfl rfl (by decide) rfl rfl rfl rfl rfl rfl hl.1 rfl rfl (Nat.le_of_ble_eq_true rfl) dX10_read_34 rfl (fun H locs hP hD hS => ?_)
            refine lv_iconst (v := 0) hx hb dX10_read_37 (by decide) ?_
            refine lv_istore_n (lv' := [(3, .int 0), (2, .ref a_sheets2), (0, .ref a_this), (1, .int x1)]) hx hb dX10_read_38 rfl hl (by decide) rfl (fun ls hl => ?_)
            exact t_ND_read_l39v1 C hA a_this a_texts a_names a_pieces a_song a_fitting a_deal a_guesses a_wise a_spy a_sheets a_guesses_list a_sheets0 a_sheets1 a_sheets2 a_sheets3 a_sheets0_items a_sheets1_items a_sheets2_items a_sheets3_items f_stale f_sheets0_form f_sheets1_form f_sheets2_form f_sheets3_form F f_sheets0_size f_sheets0_items f_sheets1_size f_sheets1_items f_sheets2_size f_sheets2_items f_sheets3_size f_sheets3_items x1 r r_finding r_guesses_size r_guesses_list hs_1 F 0 f_finding f_guesses_size_34 f_guesses_list hf _ _ hP hD hS _ (lv_sub hl [2, 1, 0] rfl)
          · have hf := kneg hc hf
            refine lv_aload_n hx hb dX10_read_24 rfl (lv_at hl 1 rfl) ?_
            refine lv_iconst (v := 1) hx hb dX10_read_25 (by decide) ?_
            obtain ⟨v26, f_finding_26, hc26, hf⟩ := cb2_some hf
            refine kcMV (q0 := 0) (ci := 10) (As := [.int 1]) (rest := []) (st1 := [.int v26]) (wf := (w_ND_read ct a_this a_texts a_names a_pieces a_song a_fitting a_deal a_guesses a_wise a_spy a_sheets a_guesses_list a_sheets0 a_sheets1 a_sheets2 a_sheets3 a_sheets0_items a_sheets1_items a_sheets2_items a_sheets3_items f_stale f_finding_26 f_guesses_size f_guesses_list f_sheets0_form f_sheets0_size f_sheets0_items f_sheets1_form f_sheets1_size f_sheets1_items f_sheets2_form f_sheets2_size f_sheets2_items f_sheets3_form f_sheets3_size f_sheets3_items)) C (c_ND_found l D ct a_this a_texts a_names a_pieces a_song a_fitting a_deal a_guesses a_wise a_spy a_sheets f_stale f_finding 1 v26 f_finding_26 _ hc26) ⟨rfl, rfl⟩ yn_yX10_found tw_558 tw_10 tw_556 ⟨Nat.le_of_ble_eq_true rfl, Nat.le_of_ble_eq_true rfl⟩ ⟨Nat.zero_le _, Nat.zero_le _⟩ hP hD hS hA [0] [1, 2, 3, 4, 5, 6, 7, 8, 9, 10, 11] [11, 0, 1, 2, 3, 4, 5, 6, 7, 8, 9, 10] rfl rfl rfl rfl rfl (by decide) rfl rfl rfl rfl rfl rfl hl.1 rfl rfl (Nat.le_of_ble_eq_true rfl) dX10_read_26 rfl (fun H locs hP hD hS => ?_)
            obtain ⟨e1, e2, e3, e4⟩ := ti4 hf
            subst e1; subst e2; subst e3; subst e4
            exact kretM C hP hD hS dX10_read_29
        · have hf := kneg hs_1 hf
          by_cases hs_1 : x1 = 3
          · have hf := kpos hs_1 hf
            refine kaald hx hb hK hP 3 4 rfl rfl (k := 3) (by rw [hs_1]; rfl) rfl (by decide) dX10_read_15 ?_
            refine lv_astore_n (lv' := [(2, .ref a_sheets3), (0, .ref a_this), (1, .int x1)]) hx hb dX10_read_16 rfl hl (by decide) rfl (fun ls hl => ?_)
            refine lv_aload_n hx hb dX10_read_17 rfl (lv_at hl 0 rfl) ?_
            obtain ⟨v18, hc18, hf⟩ := cb1_some hf
            refine kcRV (q0 := 10) (ci := 5) (As := []) (rest := []) (st1 := [.int v18]) C (c_Sh_isLost l D ct a_sheets3 a_sheets3_items f_sheets3_form f_sheets3_size v18 hc18) ⟨rfl, rfl⟩ yn_yX5_isLost tw_553 tw_554 tw_552 ⟨Nat.le_of_ble_eq_true rfl, Nat.le_of_ble_eq_true rfl⟩ ⟨Nat.zero_le _, Nat.zero_le _⟩ hP [10] rfl rfl rfl rfl hl.1 rfl rfl (Nat.le_of_ble_eq_true rfl) dX10_read_18 rfl ?_
            refine lv_if_eq (tgt := 30) hx hb dX10_read_21 (by decide) (fun hc => ?_) (fun hc => ?_)
            · have hf := kpos hc hf
              refine lv_aload_n hx hb dX10_read_30 rfl (lv_at hl 1 rfl) ?_
              refine va_get (ci := 10) (v := .ref a_guesses) (C := RX10) (T := TX10) (N := 12) hx hb hts inX10 hown hK hP 0 rfl rfl 6 (by decide) (hts _ tw_289) (fun _ h9 => h9) rfl dX10_read_31 ?_
              obtain ⟨f_guesses_size_34, hc34, hf⟩ := cb1_some hf
              refine kcMV (q0 := 1) (ci := 2) (As := []) (rest := []) (st1 := []) (wf := (w_ND_read ct a_this a_texts a_names a_pieces a_song a_fitting a_deal a_guesses a_wise a_spy a_sheets a_guesses_list a_sheets0 a_sheets1 a_sheets2 a_sheets3 a_sheets0_items a_sheets1_items a_sheets2_items a_sheets3_items f_stale f_finding f_guesses_size_34 f_guesses_list f_sheets0_form f_sheets0_size f_sheets0_items f_sheets1_form f_sheets1_size f_sheets1_items f_sheets2_form f_sheets2_size f_sheets2_items f_sheets3_form f_sheets3_size f_sheets3_items)) C (c_Gu_empty l D ct a_guesses a_guesses_list f_guesses_size f_guesses_size_34 _ hc34) ⟨rfl, rfl⟩ yn_yX2_empty tw_561 tw_562 tw_560 ⟨Nat.le_of_ble_eq_true rfl, Nat.le_of_ble_eq_true rfl⟩ ⟨Nat.zero_le _, Nat.zero_le _⟩ hP hD hS hA [1] [0, 2, 3, 4, 5, 6, 7, 8, 9, 10, 11] [0, 11, 1, 2, 3, 4, 5, 6, 7, 8, 9, 10] rfl rfl rfl rfl rfl (by decide) rfl rfl rfl rfl rfl rfl hl.1 rfl rfl (Nat.le_of_ble_eq_true rfl) dX10_read_34 rfl (fun H locs hP hD hS => ?_)
              refine lv_iconst (v := 0) hx hb dX10_read_37 (by decide) ?_
              refine lv_istore_n (lv' := [(3, .int 0), (2, .ref a_sheets3), (0, .ref a_this), (1, .int x1)]) hx hb dX10_read_38 rfl hl (by decide) rfl (fun ls hl => ?_)
              exact t_ND_read_l39v0 C hA a_this a_texts a_names a_pieces a_song a_fitting a_deal a_guesses a_wise a_spy a_sheets a_guesses_list a_sheets0 a_sheets1 a_sheets2 a_sheets3 a_sheets0_items a_sheets1_items a_sheets2_items a_sheets3_items f_stale f_sheets0_form f_sheets1_form f_sheets2_form f_sheets3_form F f_sheets0_size f_sheets0_items f_sheets1_size f_sheets1_items f_sheets2_size f_sheets2_items f_sheets3_size f_sheets3_items x1 r r_finding r_guesses_size r_guesses_list hs_1 F 0 f_finding f_guesses_size_34 f_guesses_list hf _ _ hP hD hS _ (lv_sub hl [2, 1, 0] rfl)
            · have hf := kneg hc hf
              refine lv_aload_n hx hb dX10_read_24 rfl (lv_at hl 1 rfl) ?_
              refine lv_iconst (v := 1) hx hb dX10_read_25 (by decide) ?_
              obtain ⟨v26, f_finding_26, hc26, hf⟩ := cb2_some hf
              refine kcMV (q0 := 0) (ci := 10) (As := [.int 1]) (rest := []) (st1 := [.int v26]) (wf := (w_ND_read ct a_this a_texts a_names a_pieces a_song a_fitting a_deal a_guesses a_wise a_spy a_sheets a_guesses_list a_sheets0 a_sheets1 a_sheets2 a_sheets3 a_sheets0_items a_sheets1_items a_sheets2_items a_sheets3_items f_stale f_finding_26 f_guesses_size f_guesses_list f_sheets0_form f_sheets0_size f_sheets0_items f_sheets1_form f_sheets1_size f_sheets1_items f_sheets2_form f_sheets2_size f_sheets2_items f_sheets3_form f_sheets3_size f_sheets3_items)) C (c_ND_found l D ct a_this a_texts a_names a_pieces a_song a_fitting a_deal a_guesses a_wise a_spy a_sheets f_stale f_finding 1 v26 f_finding_26 _ hc26) ⟨rfl, rfl⟩ yn_yX10_found tw_558 tw_10 tw_556 ⟨Nat.le_of_ble_eq_true rfl, Nat.le_of_ble_eq_true rfl⟩ ⟨Nat.zero_le _, Nat.zero_le _⟩ hP hD hS hA [0] [1, 2, 3, 4, 5, 6, 7, 8, 9, 10, 11] [11, 0, 1, 2, 3, 4, 5, 6, 7, 8, 9, 10] rfl rfl rfl rfl rfl (by decide) rfl rfl rfl rfl rfl rfl hl.1 rfl rfl (Nat.le_of_ble_eq_true rfl) dX10_read_26 rfl (fun H locs hP hD hS => ?_)
              obtain ⟨e1, e2, e3, e4⟩ := ti4 hf
              subst e1; subst e2; subst e3; subst e4
              exact kretM C hP hD hS dX10_read_29
          · have hf := kneg hs_1 hf
            cases hf
  · have hf := kpos hc hf
    refine lv_bipush (v := (-2)) hx hb dX10_read_7 (by decide) ?_
    obtain ⟨e1, e2, e3, e4⟩ := ti4 hf
    subst e1; subst e2; subst e3; subst e4
    exact kretM C hP hD hS dX10_read_9
def RM_Fi_byAll : Room := { frames := 0, cells := 0, slots := 0, locals := 0 }
set_option maxHeartbeats 4000000 in
set_option maxRecDepth 100000 in
theorem c_Fi_byAll (l : Launch) (D : va_G) (ct : Nat → ClassId) (a_this a_pieceFits a_inOrder : Nat) (f_pieceCount : Int32) (f_songFits : Int32) (f_ordered : Int32) (f_allFit : Int32) (r : Int32) (hf : Fi_byAll f_allFit = some r) : Met l yX1_byAll (WS yX1_byAll cX1_byAll 1 (some .int)) RM_Fi_byAll (va_Pc [.ref a_this] (PR D ct (w_Fi_byAll ct a_this a_pieceFits a_inOrder f_pieceCount f_songFits f_allFit f_ordered))) (QR (some (.int r))) 0 0 (fun _ => False) := by
  refine kMetR yn_yX1_byAll rfl (Nat.le_of_ble_eq_true rfl) ?_
  intro p e s m args below meth c C hP ls hl
  have hl : lv_has ls 1 [(0, .ref a_this)] := hl
  obtain ⟨hx, hb, hr, hml, hown, hts, hlk, hK, hN⟩ := id C
  unfold Fi_byAll at hf
  refine lv_aload_n hx hb dX1_byAll_0 rfl (lv_at hl 0 rfl) ?_
  refine va_get (ci := 1) (v := .int f_allFit) (C := RX1) (T := TX1) (N := 6) hx hb hts inX1 hown hK hP 0 rfl rfl 4 (by decide) (hts _ tw_190) (fun _ h9 => h9) rfl dX1_byAll_1 ?_
  have e1 := Option.some.inj hf
  subst e1
  exact kretR C dX1_byAll_4
def RM_ND_fits : Room := { frames := 5, cells := 0, slots := 0, locals := 117 }
set_option maxHeartbeats 4000000 in
set_option maxRecDepth 100000 in
theorem c_ND_fits (l : Launch) (D : va_G) (ct : Nat → ClassId) (a_this a_texts a_names a_pieces a_song a_fitting a_deal a_guesses a_wise a_spy a_sheets a_texts0 a_texts1 a_texts2 a_texts0_bytes a_texts1_bytes a_texts2_bytes a_names_odds a_names_lengths a_names_letters a_names_alike a_names_oddsTogether a_pieces_inside a_pieces_lengths a_pieces_letters a_song_letters a_fitting_pieceFits a_fitting_inOrder : Nat) (f_finding : Int32) (F : Nat) (f_texts0_size : Int32) (f_texts0_bytes : Nat → Int32) (f_texts1_size : Int32) (f_texts1_bytes : Nat → Int32) (f_texts2_size : Int32) (f_texts2_bytes : Nat → Int32) (f_stale : Int32) (f_names_size : Int32) (f_names_fault : Int32) (f_names_odds : Nat → Int32) (f_names_lengths : Nat → Int32) (f_names_letters : Nat → Int32) (f_names_alike : Nat → Int32) (f_names_oddsTogether : Nat → Int32) (f_pieces_size : Int32) (f_pieces_fault : Int32) (f_pieces_inside : Nat → Int32) (f_pieces_lengths : Nat → Int32) (f_pieces_letters : Nat → Int32) (f_song_size : Int32) (f_song_fault : Int32) (f_song_letters : Nat → Int32) (f_fitting_pieceCount : Int32) (f_fitting_songFits : Int32) (f_fitting_allFit : Int32) (f_fitting_ordered : Int32) (f_fitting_pieceFits : Nat → Int32) (f_fitting_inOrder : Nat → Int32) (r : Int32) (r_stale : Int32) (r_names_size : Int32) (r_names_fault : Int32) (r_names_odds : Nat → Int32) (r_names_lengths : Nat → Int32) (r_names_letters : Nat → Int32) (r_names_alike : Nat → Int32) (r_names_oddsTogether : Nat → Int32) (r_pieces_size : Int32) (r_pieces_fault : Int32) (r_pieces_inside : Nat → Int32) (r_pieces_lengths : Nat → Int32) (r_pieces_letters : Nat → Int32) (r_song_size : Int32) (r_song_fault : Int32) (r_song_letters : Nat → Int32) (r_fitting_pieceCount : Int32) (r_fitting_songFits : Int32) (r_fitting_allFit : Int32) (r_fitting_ordered : Int32) (r_fitting_pieceFits : Nat → Int32) (r_fitting_inOrder : Nat → Int32) (sz : Nat) (hf : ND_fits F f_texts0_size f_texts0_bytes f_texts1_size f_texts1_bytes f_texts2_size f_texts2_bytes f_stale f_names_size f_names_fault f_names_odds f_names_lengths f_names_letters f_names_alike f_names_oddsTogether f_pieces_size f_pieces_fault f_pieces_inside f_pieces_lengths f_pieces_letters f_song_size f_song_fault f_song_letters f_fitting_pieceCount f_fitting_songFits f_fitting_allFit f_fitting_ordered f_fitting_pieceFits f_fitting_inOrder = some (r, r_stale, r_names_size, r_names_fault, r_names_odds, r_names_lengths, r_names_letters, r_names_alike, r_names_oddsTogether, r_pieces_size, r_pieces_fault, r_pieces_inside, r_pieces_lengths, r_pieces_letters, r_song_size, r_song_fault, r_song_letters, r_fitting_pieceCount, r_fitting_songFits, r_fitting_allFit, r_fitting_ordered, r_fitting_pieceFits, r_fitting_inOrder)) : Met l yX10_fits (WS yX10_fits cX10_fits 1 (some .int)) RM_ND_fits (va_Pc [.ref a_this] (PM D ct sz (w_ND_fits ct a_this a_texts a_names a_pieces a_song a_fitting a_deal a_guesses a_wise a_spy a_sheets a_texts0 a_texts1 a_texts2 a_texts0_bytes a_texts1_bytes a_texts2_bytes a_names_odds a_names_lengths a_names_letters a_names_alike a_names_oddsTogether a_pieces_inside a_pieces_lengths a_pieces_letters a_song_letters a_fitting_pieceFits a_fitting_inOrder f_stale f_finding f_texts0_size f_texts0_bytes f_texts1_size f_texts1_bytes f_texts2_size f_texts2_bytes f_names_size f_names_fault f_names_odds f_names_lengths f_names_letters f_names_alike f_names_oddsTogether f_pieces_size f_pieces_fault f_pieces_inside f_pieces_lengths f_pieces_letters f_song_size f_song_fault f_song_letters f_fitting_pieceCount f_fitting_songFits f_fitting_allFit f_fitting_ordered f_fitting_pieceFits f_fitting_inOrder))) (QM D (some (.int r)) (w_ND_fits ct a_this a_texts a_names a_pieces a_song a_fitting a_deal a_guesses a_wise a_spy a_sheets a_texts0 a_texts1 a_texts2 a_texts0_bytes a_texts1_bytes a_texts2_bytes a_names_odds a_names_lengths a_names_letters a_names_alike a_names_oddsTogether a_pieces_inside a_pieces_lengths a_pieces_letters a_song_letters a_fitting_pieceFits a_fitting_inOrder r_stale f_finding f_texts0_size f_texts0_bytes f_texts1_size f_texts1_bytes f_texts2_size f_texts2_bytes r_names_size r_names_fault r_names_odds r_names_lengths r_names_letters r_names_alike r_names_oddsTogether r_pieces_size r_pieces_fault r_pieces_inside r_pieces_lengths r_pieces_letters r_song_size r_song_fault r_song_letters r_fitting_pieceCount r_fitting_songFits r_fitting_allFit r_fitting_ordered r_fitting_pieceFits r_fitting_inOrder) (va_A (w_ND_fits ct a_this a_texts a_names a_pieces a_song a_fitting a_deal a_guesses a_wise a_spy a_sheets a_texts0 a_texts1 a_texts2 a_texts0_bytes a_texts1_bytes a_texts2_bytes a_names_odds a_names_lengths a_names_letters a_names_alike a_names_oddsTogether a_pieces_inside a_pieces_lengths a_pieces_letters a_song_letters a_fitting_pieceFits a_fitting_inOrder f_stale f_finding f_texts0_size f_texts0_bytes f_texts1_size f_texts1_bytes f_texts2_size f_texts2_bytes f_names_size f_names_fault f_names_odds f_names_lengths f_names_letters f_names_alike f_names_oddsTogether f_pieces_size f_pieces_fault f_pieces_inside f_pieces_lengths f_pieces_letters f_song_size f_song_fault f_song_letters f_fitting_pieceCount f_fitting_songFits f_fitting_allFit f_fitting_ordered f_fitting_pieceFits f_fitting_inOrder) sz)) 0 0 (va_A (w_ND_fits ct a_this a_texts a_names a_pieces a_song a_fitting a_deal a_guesses a_wise a_spy a_sheets a_texts0 a_texts1 a_texts2 a_texts0_bytes a_texts1_bytes a_texts2_bytes a_names_odds a_names_lengths a_names_letters a_names_alike a_names_oddsTogether a_pieces_inside a_pieces_lengths a_pieces_letters a_song_letters a_fitting_pieceFits a_fitting_inOrder f_stale f_finding f_texts0_size f_texts0_bytes f_texts1_size f_texts1_bytes f_texts2_size f_texts2_bytes f_names_size f_names_fault f_names_odds f_names_lengths f_names_letters f_names_alike f_names_oddsTogether f_pieces_size f_pieces_fault f_pieces_inside f_pieces_lengths f_pieces_letters f_song_size f_song_fault f_song_letters f_fitting_pieceCount f_fitting_songFits f_fitting_allFit f_fitting_ordered f_fitting_pieceFits f_fitting_inOrder) sz) := by
  refine kMetM yn_yX10_fits rfl (Nat.le_of_ble_eq_true rfl) ?_
  intro p e s m args below meth c A C hA hP hD ls hl
  have hl : lv_has ls 1 [(0, .ref a_this)] := hl
  have hS : va_S A s.heap s.heap [] := va_S.rf
  obtain ⟨hx, hb, hr, hml, hown, hts, hlk, hK, hN⟩ := id C
  unfold ND_fits at hf
  refine lv_aload_n hx hb dX10_fits_0 rfl (lv_at hl 0 rfl) ?_
  obtain ⟨f_stale_1, f_names_size_1, f_names_fault_1, f_names_odds_1, f_names_lengths_1, f_names_letters_1, f_names_alike_1, f_names_oddsTogether_1, f_pieces_size_1, f_pieces_fault_1, f_pieces_inside_1, f_pieces_lengths_1, f_pieces_letters_1, f_song_size_1, f_song_fault_1, f_song_letters_1, f_fitting_pieceCount_1, f_fitting_songFits_1, f_fitting_allFit_1, f_fitting_ordered_1, f_fitting_pieceFits_1, f_fitting_inOrder_1, hc1, hf⟩ := cb22_some hf
  refine kcMV (q0 := 0) (ci := 10) (As := []) (rest := []) (st1 := []) (wf := (w_ND_fits ct a_this a_texts a_names a_pieces a_song a_fitting a_deal a_guesses a_wise a_spy a_sheets a_texts0 a_texts1 a_texts2 a_texts0_bytes a_texts1_bytes a_texts2_bytes a_names_odds a_names_lengths a_names_letters a_names_alike a_names_oddsTogether a_pieces_inside a_pieces_lengths a_pieces_letters a_song_letters a_fitting_pieceFits a_fitting_inOrder f_stale_1 f_finding f_texts0_size f_texts0_bytes f_texts1_size f_texts1_bytes f_texts2_size f_texts2_bytes f_names_size_1 f_names_fault_1 f_names_odds_1 f_names_lengths_1 f_names_letters_1 f_names_alike_1 f_names_oddsTogether_1 f_pieces_size_1 f_pieces_fault_1 f_pieces_inside_1 f_pieces_lengths_1 f_pieces_letters_1 f_song_size_1 f_song_fault_1 f_song_letters_1 f_fitting_pieceCount_1 f_fitting_songFits_1 f_fitting_allFit_1 f_fitting_ordered_1 f_fitting_pieceFits_1 f_fitting_inOrder_1)) C (c_ND_refresh l D ct a_this a_texts a_names a_pieces a_song a_fitting a_deal a_guesses a_wise a_spy a_sheets a_texts0 a_texts1 a_texts2 a_texts0_bytes a_texts1_bytes a_texts2_bytes a_names_odds a_names_lengths a_names_letters a_names_alike a_names_oddsTogether a_pieces_inside a_pieces_lengths a_pieces_letters a_song_letters a_fitting_pieceFits a_fitting_inOrder f_finding F f_texts0_size f_texts0_bytes f_texts1_size f_texts1_bytes f_texts2_size f_texts2_bytes f_stale f_names_size f_names_fault f_names_odds f_names_lengths f_names_letters f_names_alike f_names_oddsTogether f_pieces_size f_pieces_fault f_pieces_inside f_pieces_lengths f_pieces_letters f_song_size f_song_fault f_song_letters f_fitting_pieceCount f_fitting_songFits f_fitting_allFit f_fitting_ordered f_fitting_pieceFits f_fitting_inOrder f_stale_1 f_names_size_1 f_names_fault_1 f_names_odds_1 f_names_lengths_1 f_names_letters_1 f_names_alike_1 f_names_oddsTogether_1 f_pieces_size_1 f_pieces_fault_1 f_pieces_inside_1 f_pieces_lengths_1 f_pieces_letters_1 f_song_size_1 f_song_fault_1 f_song_letters_1 f_fitting_pieceCount_1 f_fitting_songFits_1 f_fitting_allFit_1 f_fitting_ordered_1 f_fitting_pieceFits_1 f_fitting_inOrder_1 _ hc1) ⟨rfl, rfl⟩ yn_yX10_refresh tw_373 tw_1 tw_371 ⟨Nat.le_of_ble_eq_true rfl, Nat.le_of_ble_eq_true rfl⟩ ⟨Nat.zero_le _, Nat.zero_le _⟩ hP hD hS hA [0, 1, 2, 3, 4, 5, 6, 7, 8, 9, 10, 11, 12, 13, 14, 15, 16, 17, 18, 19, 20, 21, 22] [] [0, 1, 2, 3, 4, 5, 6, 7, 8, 9, 10, 11, 12, 13, 14, 15, 16, 17, 18, 19, 20, 21, 22] rfl rfl rfl rfl rfl (by decide) rfl rfl rfl rfl rfl rfl hl.1 rfl rfl (Nat.le_of_ble_eq_true rfl) dX10_fits_1 rfl (fun H locs hP hD hS => ?_)
  refine lv_aload_n hx hb dX10_fits_4 rfl (lv_at hl 0 rfl) ?_
  refine va_get (ci := 10) (v := .ref a_fitting) (C := RX10) (T := TX10) (N := 12) hx hb hts inX10 hown hK hP 0 rfl rfl 4 (by decide) (hts _ tw_287) (fun _ h9 => h9) rfl dX10_fits_5 ?_
  obtain ⟨v8, hc8, hf⟩ := cb1_some hf
  refine kcRV (q0 := 20) (ci := 1) (As := []) (rest := []) (st1 := [.int v8]) C (c_Fi_byAll l D ct a_fitting a_fitting_pieceFits a_fitting_inOrder f_fitting_pieceCount_1 f_fitting_songFits_1 f_fitting_ordered_1 f_fitting_allFit_1 v8 hc8) ⟨rfl, rfl⟩ yn_yX1_byAll tw_577 tw_578 tw_576 ⟨Nat.le_of_ble_eq_true rfl, Nat.le_of_ble_eq_true rfl⟩ ⟨Nat.zero_le _, Nat.zero_le _⟩ hP [20] rfl rfl rfl rfl hl.1 rfl rfl (Nat.le_of_ble_eq_true rfl) dX10_fits_8 rfl ?_
  obtain ⟨e1, e2, e3, e4, e5, e6, e7, e8, e9, e10, e11, e12, e13, e14, e15, e16, e17, e18, e19, e20, e21, e22, e23⟩ := ti23 hf
  subst e1; subst e2; subst e3; subst e4; subst e5; subst e6; subst e7; subst e8; subst e9; subst e10; subst e11; subst e12; subst e13; subst e14; subst e15; subst e16; subst e17; subst e18; subst e19; subst e20; subst e21; subst e22; subst e23
  exact kretM C hP hD hS dX10_fits_11
