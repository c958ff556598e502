def RM_So_size : Room := { frames := 0, cells := 0, slots := 0, locals := 0 }
set_option maxHeartbeats 4000000 in
set_option maxRecDepth 100000 in
theorem c_So_size (l : Launch) (D : va_G) (ct : Nat → ClassId) (a_this a_letters : Nat) (f_fault : Int32) (f_size : Int32) (r : Int32) (hf : So_size f_size = some r) : Met l yX6_size (WS yX6_size cX6_size 1 (some .int)) RM_So_size (va_Pc [.ref a_this] (PR D ct (w_So_size ct a_this a_letters f_size f_fault))) (QR (some (.int r))) 0 0 (fun _ => False) := by
  refine kMetR yn_yX6_size rfl (Nat.le_of_ble_eq_true rfl) ?_
  intro p e s m args below meth c C hP ls hl
  have hl : lv_has ls 1 [(0, .ref a_this)] := hl
  obtain ⟨hx, hb, hr, hml, hown, hts, hlk, hK, hN⟩ := id C
  unfold So_size at hf
  refine lv_aload_n hx hb dX6_size_0 rfl (lv_at hl 0 rfl) ?_
  refine va_get (ci := 6) (v := .int f_size) (C := RX6) (T := TX6) (N := 3) hx hb hts inX6 hown hK hP 0 rfl rfl 1 (by decide) (hts _ tw_170) (fun _ h9 => h9) rfl dX6_size_1 ?_
  have e1 := Option.some.inj hf
  subst e1
  exact kretR C dX6_size_4
def RM_ND_count : Room := { frames := 5, cells := 0, slots := 0, locals := 117 }
set_option maxHeartbeats 4000000 in
set_option maxRecDepth 100000 in
theorem t_ND_count_b36 {p : Program} {l : Launch} {e : Env} {s : State} {m : MethodId} {args : Array Value} {below : List Frame} {meth : Method} {c : Code} {D : va_G} {ct : Nat → ClassId} (C : CX p s m args meth c RX10 cX10_count 2 (some .int) D ct) {A : Nat → Prop} (hA : ∀ q : Nat, s.heap.size ≤ q → A q) (a_this a_texts a_names a_pieces a_song a_fitting a_deal a_guesses a_wise a_spy a_sheets a_texts0 a_texts1 a_texts2 a_texts0_bytes a_texts1_bytes a_texts2_bytes a_names_odds a_names_lengths a_names_letters a_names_alike a_names_oddsTogether a_pieces_inside a_pieces_lengths a_pieces_letters a_song_letters a_fitting_pieceFits a_fitting_inOrder a_guesses_list : Nat) (F : Nat) (f_finding : Int32) (f_texts0_size : Int32) (f_texts0_bytes : Nat → Int32) (f_texts1_size : Int32) (f_texts1_bytes : Nat → Int32) (f_texts2_size : Int32) (f_texts2_bytes : Nat → Int32) (f_guesses_size : Int32) (x1 : Int32) (r : Int32) (r_stale : Int32) (r_names_size : Int32) (r_names_fault : Int32) (r_names_odds : Nat → Int32) (r_names_lengths : Nat → Int32) (r_names_letters : Nat → Int32) (r_names_alike : Nat → Int32) (r_names_oddsTogether : Nat → Int32) (r_pieces_size : Int32) (r_pieces_fault : Int32) (r_pieces_inside : Nat → Int32) (r_pieces_lengths : Nat → Int32) (r_pieces_letters : Nat → Int32) (r_song_size : Int32) (r_song_fault : Int32) (r_song_letters : Nat → Int32) (r_fitting_pieceCount : Int32) (r_fitting_songFits : Int32) (r_fitting_allFit : Int32) (r_fitting_ordered : Int32) (r_fitting_pieceFits : Nat → Int32) (r_fitting_inOrder : Nat → Int32) : ∀ (f_stale : Int32) (f_names_size : Int32) (f_names_fault : Int32) (f_names_odds : Nat → Int32) (f_names_lengths : Nat → Int32) (f_names_letters : Nat → Int32) (f_names_alike : Nat → Int32) (f_names_oddsTogether : Nat → Int32) (f_pieces_size : Int32) (f_pieces_fault : Int32) (f_pieces_inside : Nat → Int32) (f_pieces_lengths : Nat → Int32) (f_pieces_letters : Nat → Int32) (f_song_size : Int32) (f_song_fault : Int32) (f_song_letters : Nat → Int32) (f_fitting_pieceCount : Int32) (f_fitting_songFits : Int32) (f_fitting_allFit : Int32) (f_fitting_ordered : Int32) (f_fitting_pieceFits : Nat → Int32) (f_fitting_inOrder : Nat → Int32), ND_count_b36 F f_finding f_texts0_size f_texts0_bytes f_texts1_size f_texts1_bytes f_texts2_size f_texts2_bytes f_guesses_size x1 f_stale f_names_size f_names_fault f_names_odds f_names_lengths f_names_letters f_names_alike f_names_oddsTogether f_pieces_size f_pieces_fault f_pieces_inside f_pieces_lengths f_pieces_letters f_song_size f_song_fault f_song_letters f_fitting_pieceCount f_fitting_songFits f_fitting_allFit f_fitting_ordered f_fitting_pieceFits f_fitting_inOrder = some (r, r_stale, r_names_size, r_names_fault, r_names_odds, r_names_lengths, r_names_letters, r_names_alike, r_names_oddsTogether, r_pieces_size, r_pieces_fault, r_pieces_inside, r_pieces_lengths, r_pieces_letters, r_song_size, r_song_fault, r_song_letters, r_fitting_pieceCount, r_fitting_songFits, r_fitting_allFit, r_fitting_ordered, r_fitting_pieceFits, r_fitting_inOrder) → ∀ (H : Heap) (locs : List Loc), va_P D vwCl (w_ND_count ct a_this a_texts a_names a_pieces a_song a_fitting a_deal a_guesses a_wise a_spy a_sheets a_texts0 a_texts1 a_texts2 a_texts0_bytes a_texts1_bytes a_texts2_bytes a_names_odds a_names_lengths a_names_letters a_names_alike a_names_oddsTogether a_pieces_inside a_pieces_lengths a_pieces_letters a_song_letters a_fitting_pieceFits a_fitting_inOrder a_guesses_list f_stale f_finding f_texts0_size f_texts0_bytes f_texts1_size f_texts1_bytes f_texts2_size f_texts2_bytes f_names_size f_names_fault f_names_odds f_names_lengths f_names_letters f_names_alike f_names_oddsTogether f_pieces_size f_pieces_fault f_pieces_inside f_pieces_lengths f_pieces_letters f_song_size f_song_fault f_song_letters f_fitting_pieceCount f_fitting_songFits f_fitting_allFit f_fitting_ordered f_fitting_pieceFits f_fitting_inOrder f_guesses_size) H → va_D A (w_ND_count ct a_this a_texts a_names a_pieces a_song a_fitting a_deal a_guesses a_wise a_spy a_sheets a_texts0 a_texts1 a_texts2 a_texts0_bytes a_texts1_bytes a_texts2_bytes a_names_odds a_names_lengths a_names_letters a_names_alike a_names_oddsTogether a_pieces_inside a_pieces_lengths a_pieces_letters a_song_letters a_fitting_pieceFits a_fitting_inOrder a_guesses_list f_stale f_finding f_texts0_size f_texts0_bytes f_texts1_size f_texts1_bytes f_texts2_size f_texts2_bytes f_names_size f_names_fault f_names_odds f_names_lengths f_names_letters f_names_alike f_names_oddsTogether f_pieces_size f_pieces_fault f_pieces_inside f_pieces_lengths f_pieces_letters f_song_size f_song_fault f_song_letters f_fitting_pieceCount f_fitting_songFits f_fitting_allFit f_fitting_ordered f_fitting_pieceFits f_fitting_inOrder f_guesses_size) → va_S A s.heap H locs → ∀ ls : Array Slot, lv_has ls 2 [(0, .ref a_this), (1, .int x1)] → W p l e RM_ND_count s m args below meth c H locs 0 0 (MQ below (QM D (some (.int r)) (w_ND_count ct a_this a_texts a_names a_pieces a_song a_fitting a_deal a_guesses a_wise a_spy a_sheets a_texts0 a_texts1 a_texts2 a_texts0_bytes a_texts1_bytes a_texts2_bytes a_names_odds a_names_lengths a_names_letters a_names_alike a_names_oddsTogether a_pieces_inside a_pieces_lengths a_pieces_letters a_song_letters a_fitting_pieceFits a_fitting_inOrder a_guesses_list r_stale f_finding f_texts0_size f_texts0_bytes f_texts1_size f_texts1_bytes f_texts2_size f_texts2_bytes r_names_size r_names_fault r_names_odds r_names_lengths r_names_letters r_names_alike r_names_oddsTogether r_pieces_size r_pieces_fault r_pieces_inside r_pieces_lengths r_pieces_letters r_song_size r_song_fault r_song_letters r_fitting_pieceCount r_fitting_songFits r_fitting_allFit r_fitting_ordered r_fitting_pieceFits r_fitting_inOrder f_guesses_size) A) args s 0 0 A) (F0 m 36 ls []) := by
  obtain ⟨hx, hb, hr, hml, hown, hts, hlk, hK, hN⟩ := id C
  intro f_stale f_names_size f_names_fault f_names_odds f_names_lengths f_names_letters f_names_alike f_names_oddsTogether f_pieces_size f_pieces_fault f_pieces_inside f_pieces_lengths f_pieces_letters f_song_size f_song_fault f_song_letters f_fitting_pieceCount f_fitting_songFits f_fitting_allFit f_fitting_ordered f_fitting_pieceFits f_fitting_inOrder hf H locs hP hD hS ls hl
  unfold ND_count_b36 at hf
  refine lv_aload_n hx hb dX10_count_36 rfl (lv_at hl 0 rfl) ?_
  obtain ⟨f_stale_37, f_names_size_37, f_names_fault_37, f_names_odds_37, f_names_lengths_37, f_names_letters_37, f_names_alike_37, f_names_oddsTogether_37, f_pieces_size_37, f_pieces_fault_37, f_pieces_inside_37, f_pieces_lengths_37, f_pieces_letters_37, f_song_size_37, f_song_fault_37, f_song_letters_37, f_fitting_pieceCount_37, f_fitting_songFits_37, f_fitting_allFit_37, f_fitting_ordered_37, f_fitting_pieceFits_37, f_fitting_inOrder_37, hc37, hf⟩ := cb22_some hf
  refine kcMV (q0 := 0) (ci := 10) (As := []) (rest := []) (st1 := []) (wf := (w_ND_count ct a_this a_texts a_names a_pieces a_song a_fitting a_deal a_guesses a_wise a_spy a_sheets a_texts0 a_texts1 a_texts2 a_texts0_bytes a_texts1_bytes a_texts2_bytes a_names_odds a_names_lengths a_names_letters a_names_alike a_names_oddsTogether a_pieces_inside a_pieces_lengths a_pieces_letters a_song_letters a_fitting_pieceFits a_fitting_inOrder a_guesses_list f_stale_37 f_finding f_texts0_size f_texts0_bytes f_texts1_size f_texts1_bytes f_texts2_size f_texts2_bytes f_names_size_37 f_names_fault_37 f_names_odds_37 f_names_lengths_37 f_names_letters_37 f_names_alike_37 f_names_oddsTogether_37 f_pieces_size_37 f_pieces_fault_37 f_pieces_inside_37 f_pieces_lengths_37 f_pieces_letters_37 f_song_size_37 f_song_fault_37 f_song_letters_37 f_fitting_pieceCount_37 f_fitting_songFits_37 f_fitting_allFit_37 f_fitting_ordered_37 f_fitting_pieceFits_37 f_fitting_inOrder_37 f_guesses_size)) C (c_ND_refresh l D ct a_this a_texts a_names a_pieces a_song a_fitting a_deal a_guesses a_wise a_spy a_sheets a_texts0 a_texts1 a_texts2 a_texts0_bytes a_texts1_bytes a_texts2_bytes a_names_odds a_names_lengths a_names_letters a_names_alike a_names_oddsTogether a_pieces_inside a_pieces_lengths a_pieces_letters a_song_letters a_fitting_pieceFits a_fitting_inOrder f_finding F f_texts0_size f_texts0_bytes f_texts1_size f_texts1_bytes f_texts2_size f_texts2_bytes f_stale f_names_size f_names_fault f_names_odds f_names_lengths f_names_letters f_names_alike f_names_oddsTogether f_pieces_size f_pieces_fault f_pieces_inside f_pieces_lengths f_pieces_letters f_song_size f_song_fault f_song_letters f_fitting_pieceCount f_fitting_songFits f_fitting_allFit f_fitting_ordered f_fitting_pieceFits f_fitting_inOrder f_stale_37 f_names_size_37 f_names_fault_37 f_names_odds_37 f_names_lengths_37 f_names_letters_37 f_names_alike_37 f_names_oddsTogether_37 f_pieces_size_37 f_pieces_fault_37 f_pieces_inside_37 f_pieces_lengths_37 f_pieces_letters_37 f_song_size_37 f_song_fault_37 f_song_letters_37 f_fitting_pieceCount_37 f_fitting_songFits_37 f_fitting_allFit_37 f_fitting_ordered_37 f_fitting_pieceFits_37 f_fitting_inOrder_37 _ hc37) ⟨rfl, rfl⟩ yn_yX10_refresh tw_372 tw_1 tw_370 ⟨Nat.le_of_ble_eq_true rfl, Nat.le_of_ble_eq_true rfl⟩ ⟨Nat.zero_le _, Nat.zero_le _⟩ hP hD hS hA [0, 1, 2, 3, 4, 5, 6, 7, 8, 9, 10, 11, 12, 13, 14, 15, 16, 17, 18, 19, 20, 21, 22] [23] [1, 2, 3, 4, 5, 6, 7, 8, 9, 10, 11, 12, 13, 14, 15, 16, 17, 18, 19, 20, 21, 22, 23, 0] rfl rfl rfl rfl rfl (by decide) rfl rfl rfl rfl rfl rfl hl.1 rfl rfl (Nat.le_of_ble_eq_true rfl) dX10_count_37 rfl (fun H locs hP hD hS => ?_)
  refine lv_iload_n hx hb dX10_count_40 rfl (lv_at hl 1 rfl) ?_
  by_cases hw0 : x1 = 0
  · have hf := kpos hw0 hf
    refine lv_tableIn (off := 47) (tgt := 88) hx hb dX10_count_41 (by rw [hw0]; decide) (by rw [hw0]; decide) (by rw [hw0]; rfl) (by decide) ?_
    refine lv_aload_n hx hb dX10_count_88 rfl (lv_at hl 0 rfl) ?_
    refine va_get (ci := 10) (v := .ref a_names) (C := RX10) (T := TX10) (N := 12) hx hb hts inX10 hown hK hP 0 rfl rfl 1 (by decide) (hts _ tw_283) (fun _ h9 => h9) rfl dX10_count_89 ?_
    obtain ⟨v92, hc92, hf⟩ := cb1_some hf
    refine kcRV (q0 := 8) (ci := 3) (As := []) (rest := []) (st1 := [.int v92]) C (c_Na_size l D ct a_names a_names_odds a_names_lengths a_names_letters a_names_alike a_names_oddsTogether f_names_fault_37 f_names_size_37 v92 hc92) ⟨rfl, rfl⟩ yn_yX3_size tw_444 tw_445 tw_893 ⟨Nat.le_of_ble_eq_true rfl, Nat.le_of_ble_eq_true rfl⟩ ⟨Nat.zero_le _, Nat.zero_le _⟩ hP [8] rfl rfl rfl rfl hl.1 rfl rfl (Nat.le_of_ble_eq_true rfl) dX10_count_92 rfl ?_
    obtain ⟨e1, e2, e3, e4, e5, e6, e7, e8, e9, e10, e11, e12, e13, e14, e15, e16, e17, e18, e19, e20, e21, e22, e23⟩ := ti23 hf
    subst e1; subst e2; subst e3; subst e4; subst e5; subst e6; subst e7; subst e8; subst e9; subst e10; subst e11; subst e12; subst e13; subst e14; subst e15; subst e16; subst e17; subst e18; subst e19; subst e20; subst e21; subst e22; subst e23
    exact kretM C hP hD hS dX10_count_95
  · have hf := kneg hw0 hf
    by_cases hw1 : x1 = 1
    · have hf := kpos hw1 hf
      refine lv_tableIn (off := 55) (tgt := 96) hx hb dX10_count_41 (by rw [hw1]; decide) (by rw [hw1]; decide) (by rw [hw1]; rfl) (by decide) ?_
      refine lv_aload_n hx hb dX10_count_96 rfl (lv_at hl 0 rfl) ?_
      refine va_get (ci := 10) (v := .ref a_pieces) (C := RX10) (T := TX10) (N := 12) hx hb hts inX10 hown hK hP 0 rfl rfl 2 (by decide) (hts _ tw_284) (fun _ h9 => h9) rfl dX10_count_97 ?_
      obtain ⟨v100, hc100, hf⟩ := cb1_some hf
      refine kcRV (q0 := 14) (ci := 4) (As := []) (rest := []) (st1 := [.int v100]) C (c_Pi_size l D ct a_pieces a_pieces_inside a_pieces_lengths a_pieces_letters f_pieces_fault_37 f_pieces_size_37 v100 hc100) ⟨rfl, rfl⟩ yn_yX4_size tw_440 tw_441 tw_894 ⟨Nat.le_of_ble_eq_true rfl, Nat.le_of_ble_eq_true rfl⟩ ⟨Nat.zero_le _, Nat.zero_le _⟩ hP [14] rfl rfl rfl rfl hl.1 rfl rfl (Nat.le_of_ble_eq_true rfl) dX10_count_100 rfl ?_
      obtain ⟨e1, e2, e3, e4, e5, e6, e7, e8, e9, e10, e11, e12, e13, e14, e15, e16, e17, e18, e19, e20, e21, e22, e23⟩ := ti23 hf
      subst e1; subst e2; subst e3; subst e4; subst e5; subst e6; subst e7; subst e8; subst e9; subst e10; subst e11; subst e12; subst e13; subst e14; subst e15; subst e16; subst e17; subst e18; subst e19; subst e20; subst e21; subst e22; subst e23
      exact kretM C hP hD hS dX10_count_103
    · have hf := kneg hw1 hf
      by_cases hw2 : x1 = 2
      · have hf := kpos hw2 hf
        refine lv_tableIn (off := 63) (tgt := 104) hx hb dX10_count_41 (by rw [hw2]; decide) (by rw [hw2]; decide) (by rw [hw2]; rfl) (by decide) ?_
        refine lv_aload_n hx hb dX10_count_104 rfl (lv_at hl 0 rfl) ?_
        refine va_get (ci := 10) (v := .ref a_song) (C := RX10) (T := TX10) (N := 12) hx hb hts inX10 hown hK hP 0 rfl rfl 3 (by decide) (hts _ tw_285) (fun _ h9 => h9) rfl dX10_count_105 ?_
        obtain ⟨v108, hc108, hf⟩ := cb1_some hf
        refine kcRV (q0 := 18) (ci := 6) (As := []) (rest := []) (st1 := [.int v108]) C (c_So_size l D ct a_song a_song_letters f_song_fault_37 f_song_size_37 v108 hc108) ⟨rfl, rfl⟩ yn_yX6_size tw_896 tw_897 tw_895 ⟨Nat.le_of_ble_eq_true rfl, Nat.le_of_ble_eq_true rfl⟩ ⟨Nat.zero_le _, Nat.zero_le _⟩ hP [18] rfl rfl rfl rfl hl.1 rfl rfl (Nat.le_of_ble_eq_true rfl) dX10_count_108 rfl ?_
        obtain ⟨e1, e2, e3, e4, e5, e6, e7, e8, e9, e10, e11, e12, e13, e14, e15, e16, e17, e18, e19, e20, e21, e22, e23⟩ := ti23 hf
        subst e1; subst e2; subst e3; subst e4; subst e5; subst e6; subst e7; subst e8; subst e9; subst e10; subst e11; subst e12; subst e13; subst e14; subst e15; subst e16; subst e17; subst e18; subst e19; subst e20; subst e21; subst e22; subst e23
        exact kretM C hP hD hS dX10_count_111
      · have hf := kneg hw2 hf
        by_cases hw3 : x1 = 3
        · have hf := kpos hw3 hf
          refine lv_tableIn (off := 90) (tgt := 131) hx hb dX10_count_41 (by rw [hw3]; decide) (by rw [hw3]; decide) (by rw [hw3]; rfl) (by decide) ?_
          refine lv_aload_n hx hb dX10_count_131 rfl (lv_at hl 0 rfl) ?_
          refine va_get (ci := 10) (v := .int f_finding) (C := RX10) (T := TX10) (N := 12) hx hb hts inX10 hown hK hP 0 rfl rfl 11 (by decide) (hts _ tw_293) (fun _ h9 => h9) rfl dX10_count_132 ?_
          obtain ⟨e1, e2, e3, e4, e5, e6, e7, e8, e9, e10, e11, e12, e13, e14, e15, e16, e17, e18, e19, e20, e21, e22, e23⟩ := ti23 hf
          subst e1; subst e2; subst e3; subst e4; subst e5; subst e6; subst e7; subst e8; subst e9; subst e10; subst e11; subst e12; subst e13; subst e14; subst e15; subst e16; subst e17; subst e18; subst e19; subst e20; subst e21; subst e22; subst e23
          exact kretM C hP hD hS dX10_count_135
        · have hf := kneg hw3 hf
          by_cases hw4 : x1 = 4
          · have hf := kpos hw4 hf
            refine lv_tableIn (off := 90) (tgt := 131) hx hb dX10_count_41 (by rw [hw4]; decide) (by rw [hw4]; decide) (by rw [hw4]; rfl) (by decide) ?_
            refine lv_aload_n hx hb dX10_count_131 rfl (lv_at hl 0 rfl) ?_
            refine va_get (ci := 10) (v := .int f_finding) (C := RX10) (T := TX10) (N := 12) hx hb hts inX10 hown hK hP 0 rfl rfl 11 (by decide) (hts _ tw_293) (fun _ h9 => h9) rfl dX10_count_132 ?_
            obtain ⟨e1, e2, e3, e4, e5, e6, e7, e8, e9, e10, e11, e12, e13, e14, e15, e16, e17, e18, e19, e20, e21, e22, e23⟩ := ti23 hf
            subst e1; subst e2; subst e3; subst e4; subst e5; subst e6; subst e7; subst e8; subst e9; subst e10; subst e11; subst e12; subst e13; subst e14; subst e15; subst e16; subst e17; subst e18; subst e19; subst e20; subst e21; subst e22; subst e23
            exact kretM C hP hD hS dX10_count_135
          · have hf := kneg hw4 hf
            by_cases hw5 : x1 = 5
            · have hf := kpos hw5 hf
              refine lv_tableIn (off := 90) (tgt := 131) hx hb dX10_count_41 (by rw [hw5]; decide) (by rw [hw5]; decide) (by rw [hw5]; rfl) (by decide) ?_
              refine lv_aload_n hx hb dX10_count_131 rfl (lv_at hl 0 rfl) ?_
              refine va_get (ci := 10) (v := .int f_finding) (C := RX10) (T := TX10) (N := 12) hx hb hts inX10 hown hK hP 0 rfl rfl 11 (by decide) (hts _ tw_293) (fun _ h9 => h9) rfl dX10_count_132 ?_
              obtain ⟨e1, e2, e3, e4, e5, e6, e7, e8, e9, e10, e11, e12, e13, e14, e15, e16, e17, e18, e19, e20, e21, e22, e23⟩ := ti23 hf
              subst e1; subst e2; subst e3; subst e4; subst e5; subst e6; subst e7; subst e8; subst e9; subst e10; subst e11; subst e12; subst e13; subst e14; subst e15; subst e16; subst e17; subst e18; subst e19; subst e20; subst e21; subst e22; subst e23
              exact kretM C hP hD hS dX10_count_135
            · have hf := kneg hw5 hf
              by_cases hw6 : x1 = 6
              · have hf := kpos hw6 hf
                refine lv_tableIn (off := 71) (tgt := 112) hx hb dX10_count_41 (by rw [hw6]; decide) (by rw [hw6]; decide) (by rw [hw6]; rfl) (by decide) ?_
                refine lv_aload_n hx hb dX10_count_112 rfl (lv_at hl 0 rfl) ?_
                refine va_get (ci := 10) (v := .ref a_guesses) (C := RX10) (T := TX10) (N := 12) hx hb hts inX10 hown hK hP 0 rfl rfl 6 (by decide) (hts _ tw_288) (fun _ h9 => h9) rfl dX10_count_113 ?_
                obtain ⟨v116, hc116, hf⟩ := cb1_some hf
                refine kcRV (q0 := 23) (ci := 2) (As := []) (rest := []) (st1 := [.int v116]) C (c_Gu_size l D ct a_guesses a_guesses_list f_guesses_size v116 hc116) ⟨rfl, rfl⟩ yn_yX2_size tw_533 tw_534 tw_532 ⟨Nat.le_of_ble_eq_true rfl, Nat.le_of_ble_eq_true rfl⟩ ⟨Nat.zero_le _, Nat.zero_le _⟩ hP [23] rfl rfl rfl rfl hl.1 rfl rfl (Nat.le_of_ble_eq_true rfl) dX10_count_116 rfl ?_
                obtain ⟨e1, e2, e3, e4, e5, e6, e7, e8, e9, e10, e11, e12, e13, e14, e15, e16, e17, e18, e19, e20, e21, e22, e23⟩ := ti23 hf
                subst e1; subst e2; subst e3; subst e4; subst e5; subst e6; subst e7; subst e8; subst e9; subst e10; subst e11; subst e12; subst e13; subst e14; subst e15; subst e16; subst e17; subst e18; subst e19; subst e20; subst e21; subst e22; subst e23
                exact kretM C hP hD hS dX10_count_119
              · have hf := kneg hw6 hf
                by_cases hw7 : x1 = 7
                · have hf := kpos hw7 hf
                  refine lv_tableIn (off := 79) (tgt := 120) hx hb dX10_count_41 (by rw [hw7]; decide) (by rw [hw7]; decide) (by rw [hw7]; rfl) (by decide) ?_
                  refine lv_aload_n hx hb dX10_count_120 rfl (lv_at hl 0 rfl) ?_
                  refine va_get (ci := 10) (v := .ref a_fitting) (C := RX10) (T := TX10) (N := 12) hx hb hts inX10 hown hK hP 0 rfl rfl 4 (by decide) (hts _ tw_286) (fun _ h9 => h9) rfl dX10_count_121 ?_
                  obtain ⟨v124, hc124, hf⟩ := cb1_some hf
                  refine kcRV (q0 := 20) (ci := 1) (As := []) (rest := []) (st1 := [.int v124]) C (c_Fi_byAll l D ct a_fitting a_fitting_pieceFits a_fitting_inOrder f_fitting_pieceCount_37 f_fitting_songFits_37 f_fitting_ordered_37 f_fitting_allFit_37 v124 hc124) ⟨rfl, rfl⟩ yn_yX1_byAll tw_576 tw_577 tw_575 ⟨Nat.le_of_ble_eq_true rfl, Nat.le_of_ble_eq_true rfl⟩ ⟨Nat.zero_le _, Nat.zero_le _⟩ hP [20] rfl rfl rfl rfl hl.1 rfl rfl (Nat.le_of_ble_eq_true rfl) dX10_count_124 rfl ?_
                  obtain ⟨v127, hc127, hf⟩ := cb1_some hf
                  refine kcRS (As := [.int v124]) (rest := []) (st1 := [.int v127]) C (c_Jint_bitCount l D ct v124 v127 hc127) ⟨rfl, rfl⟩ yn_yJ6_bitCount_0f7a4 tw_749 tw_790 ⟨Nat.le_of_ble_eq_true rfl, Nat.le_of_ble_eq_true rfl⟩ ⟨Nat.zero_le _, Nat.zero_le _⟩ hP [] rfl hl.1 rfl rfl (Nat.le_of_ble_eq_true rfl) dX10_count_127 rfl ?_
                  obtain ⟨e1, e2, e3, e4, e5, e6, e7, e8, e9, e10, e11, e12, e13, e14, e15, e16, e17, e18, e19, e20, e21, e22, e23⟩ := ti23 hf
                  subst e1; subst e2; subst e3; subst e4; subst e5; subst e6; subst e7; subst e8; subst e9; subst e10; subst e11; subst e12; subst e13; subst e14; subst e15; subst e16; subst e17; subst e18; subst e19; subst e20; subst e21; subst e22; subst e23
                  exact kretM C hP hD hS dX10_count_130
                · have hf := kneg hw7 hf
                  refine lv_tableOut (tgt := 131) hx hb dX10_count_41 (sw_out (n := 8) (by decide) (fun k hk => ?_)) (by decide) ?_
                  · rcases (show k = 0 ∨ k = 1 ∨ k = 2 ∨ k = 3 ∨ k = 4 ∨ k = 5 ∨ k = 6 ∨ k = 7 by omega) with rfl | rfl | rfl | rfl | rfl | rfl | rfl | rfl
                    · exact hw0
                    · exact hw1
                    · exact hw2
                    · exact hw3
                    · exact hw4
                    · exact hw5
                    · exact hw6
                    · exact hw7
                  · skip
                    refine lv_aload_n hx hb dX10_count_131 rfl (lv_at hl 0 rfl) ?_
                    refine va_get (ci := 10) (v := .int f_finding) (C := RX10) (T := TX10) (N := 12) hx hb hts inX10 hown hK hP 0 rfl rfl 11 (by decide) (hts _ tw_293) (fun _ h9 => h9) rfl dX10_count_132 ?_
                    obtain ⟨e1, e2, e3, e4, e5, e6, e7, e8, e9, e10, e11, e12, e13, e14, e15, e16, e17, e18, e19, e20, e21, e22, e23⟩ := ti23 hf
                    subst e1; subst e2; subst e3; subst e4; subst e5; subst e6; subst e7; subst e8; subst e9; subst e10; subst e11; subst e12; subst e13; subst e14; subst e15; subst e16; subst e17; subst e18; subst e19; subst e20; subst e21; subst e22; subst e23
                    exact kretM C hP hD hS dX10_count_135
set_option maxHeartbeats 4000000 in
set_option maxRecDepth 100000 in
theorem c_ND_count (l : Launch) (D : va_G) (ct : Nat → ClassId) (a_this a_texts a_names a_pieces a_song a_fitting a_deal a_guesses a_wise a_spy a_sheets a_texts0 a_texts1 a_texts2 a_texts0_bytes a_texts1_bytes a_texts2_bytes a_names_odds a_names_lengths a_names_letters a_names_alike a_names_oddsTogether a_pieces_inside a_pieces_lengths a_pieces_letters a_song_letters a_fitting_pieceFits a_fitting_inOrder a_guesses_list : Nat) (F : Nat) (f_finding : Int32) (f_texts0_size : Int32) (f_texts0_bytes : Nat → Int32) (f_texts1_size : Int32) (f_texts1_bytes : Nat → Int32) (f_texts2_size : Int32) (f_texts2_bytes : Nat → Int32) (f_guesses_size : Int32) (f_stale : Int32) (f_names_size : Int32) (f_names_fault : Int32) (f_names_odds : Nat → Int32) (f_names_lengths : Nat → Int32) (f_names_letters : Nat → Int32) (f_names_alike : Nat → Int32) (f_names_oddsTogether : Nat → Int32) (f_pieces_size : Int32) (f_pieces_fault : Int32) (f_pieces_inside : Nat → Int32) (f_pieces_lengths : Nat → Int32) (f_pieces_letters : Nat → Int32) (f_song_size : Int32) (f_song_fault : Int32) (f_song_letters : Nat → Int32) (f_fitting_pieceCount : Int32) (f_fitting_songFits : Int32) (f_fitting_allFit : Int32) (f_fitting_ordered : Int32) (f_fitting_pieceFits : Nat → Int32) (f_fitting_inOrder : Nat → Int32) (x1 : Int32) (r : Int32) (r_stale : Int32) (r_names_size : Int32) (r_names_fault : Int32) (r_names_odds : Nat → Int32) (r_names_lengths : Nat → Int32) (r_names_letters : Nat → Int32) (r_names_alike : Nat → Int32) (r_names_oddsTogether : Nat → Int32) (r_pieces_size : Int32) (r_pieces_fault : Int32) (r_pieces_inside : Nat → Int32) (r_pieces_lengths : Nat → Int32) (r_pieces_letters : Nat → Int32) (r_song_size : Int32) (r_song_fault : Int32) (r_song_letters : Nat → Int32) (r_fitting_pieceCount : Int32) (r_fitting_songFits : Int32) (r_fitting_allFit : Int32) (r_fitting_ordered : Int32) (r_fitting_pieceFits : Nat → Int32) (r_fitting_inOrder : Nat → Int32) (sz : Nat) (hf : ND_count F f_finding f_texts0_size f_texts0_bytes f_texts1_size f_texts1_bytes f_texts2_size f_texts2_bytes f_guesses_size f_stale f_names_size f_names_fault f_names_odds f_names_lengths f_names_letters f_names_alike f_names_oddsTogether f_pieces_size f_pieces_fault f_pieces_inside f_pieces_lengths f_pieces_letters f_song_size f_song_fault f_song_letters f_fitting_pieceCount f_fitting_songFits f_fitting_allFit f_fitting_ordered f_fitting_pieceFits f_fitting_inOrder x1 = some (r, r_stale, r_names_size, r_names_fault, r_names_odds, r_names_lengths, r_names_letters, r_names_alike, r_names_oddsTogether, r_pieces_size, r_pieces_fault, r_pieces_inside, r_pieces_lengths, r_pieces_letters, r_song_size, r_song_fault, r_song_letters, r_fitting_pieceCount, r_fitting_songFits, r_fitting_allFit, r_fitting_ordered, r_fitting_pieceFits, r_fitting_inOrder)) : Met l yX10_count (WS yX10_count cX10_count 2 (some .int)) RM_ND_count (va_Pc [.ref a_this, .int x1] (PM D ct sz (w_ND_count ct a_this a_texts a_names a_pieces a_song a_fitting a_deal a_guesses a_wise a_spy a_sheets a_texts0 a_texts1 a_texts2 a_texts0_bytes a_texts1_bytes a_texts2_bytes a_names_odds a_names_lengths a_names_letters a_names_alike a_names_oddsTogether a_pieces_inside a_pieces_lengths a_pieces_letters a_song_letters a_fitting_pieceFits a_fitting_inOrder a_guesses_list f_stale f_finding f_texts0_size f_texts0_bytes f_texts1_size f_texts1_bytes f_texts2_size f_texts2_bytes f_names_size f_names_fault f_names_odds f_names_lengths f_names_letters f_names_alike f_names_oddsTogether f_pieces_size f_pieces_fault f_pieces_inside f_pieces_lengths f_pieces_letters f_song_size f_song_fault f_song_letters f_fitting_pieceCount f_fitting_songFits f_fitting_allFit f_fitting_ordered f_fitting_pieceFits f_fitting_inOrder f_guesses_size))) (QM D (some (.int r)) (w_ND_count ct a_this a_texts a_names a_pieces a_song a_fitting a_deal a_guesses a_wise a_spy a_sheets a_texts0 a_texts1 a_texts2 a_texts0_bytes a_texts1_bytes a_texts2_bytes a_names_odds a_names_lengths a_names_letters a_names_alike a_names_oddsTogether a_pieces_inside a_pieces_lengths a_pieces_letters a_song_letters a_fitting_pieceFits a_fitting_inOrder a_guesses_list r_stale f_finding f_texts0_size f_texts0_bytes f_texts1_size f_texts1_bytes f_texts2_size f_texts2_bytes r_names_size r_names_fault r_names_odds r_names_lengths r_names_letters r_names_alike r_names_oddsTogether r_pieces_size r_pieces_fault r_pieces_inside r_pieces_lengths r_pieces_letters r_song_size r_song_fault r_song_letters r_fitting_pieceCount r_fitting_songFits r_fitting_allFit r_fitting_ordered r_fitting_pieceFits r_fitting_inOrder f_guesses_size) (va_A (w_ND_count ct a_this a_texts a_names a_pieces a_song a_fitting a_deal a_guesses a_wise a_spy a_sheets a_texts0 a_texts1 a_texts2 a_texts0_bytes a_texts1_bytes a_texts2_bytes a_names_odds a_names_lengths a_names_letters a_names_alike a_names_oddsTogether a_pieces_inside a_pieces_lengths a_pieces_letters a_song_letters a_fitting_pieceFits a_fitting_inOrder a_guesses_list f_stale f_finding f_texts0_size f_texts0_bytes f_texts1_size f_texts1_bytes f_texts2_size f_texts2_bytes f_names_size f_names_fault f_names_odds f_names_lengths f_names_letters f_names_alike f_names_oddsTogether f_pieces_size f_pieces_fault f_pieces_inside f_pieces_lengths f_pieces_letters f_song_size f_song_fault f_song_letters f_fitting_pieceCount f_fitting_songFits f_fitting_allFit f_fitting_ordered f_fitting_pieceFits f_fitting_inOrder f_guesses_size) sz)) 0 0 (va_A (w_ND_count ct a_this a_texts a_names a_pieces a_song a_fitting a_deal a_guesses a_wise a_spy a_sheets a_texts0 a_texts1 a_texts2 a_texts0_bytes a_texts1_bytes a_texts2_bytes a_names_odds a_names_lengths a_names_letters a_names_alike a_names_oddsTogether a_pieces_inside a_pieces_lengths a_pieces_letters a_song_letters a_fitting_pieceFits a_fitting_inOrder a_guesses_list f_stale f_finding f_texts0_size f_texts0_bytes f_texts1_size f_texts1_bytes f_texts2_size f_texts2_bytes f_names_size f_names_fault f_names_odds f_names_lengths f_names_letters f_names_alike f_names_oddsTogether f_pieces_size f_pieces_fault f_pieces_inside f_pieces_lengths f_pieces_letters f_song_size f_song_fault f_song_letters f_fitting_pieceCount f_fitting_songFits f_fitting_allFit f_fitting_ordered f_fitting_pieceFits f_fitting_inOrder f_guesses_size) sz) := by
  refine kMetM yn_yX10_count rfl (Nat.le_of_ble_eq_true rfl) ?_
  intro p e s m args below meth c A C hA hP hD ls hl
  have hl : lv_has ls 2 [(0, .ref a_this), (1, .int x1)] := hl
  have hS : va_S A s.heap s.heap [] := va_S.rf
  obtain ⟨hx, hb, hr, hml, hown, hts, hlk, hK, hN⟩ := id C
  unfold ND_count at hf
  refine lv_iload_n hx hb dX10_count_0 rfl (lv_at hl 1 rfl) ?_
  refine lv_if_lt (tgt := 10) hx hb dX10_count_1 (by decide) (fun hc => ?_) (fun hc => ?_)
  · have hf := kpos hc hf
    refine lv_bipush (v := (-2)) hx hb dX10_count_10 (by decide) ?_
    obtain ⟨e1, e2, e3, e4, e5, e6, e7, e8, e9, e10, e11, e12, e13, e14, e15, e16, e17, e18, e19, e20, e21, e22, e23⟩ := ti23 hf
    subst e1; subst e2; subst e3; subst e4; subst e5; subst e6; subst e7; subst e8; subst e9; subst e10; subst e11; subst e12; subst e13; subst e14; subst e15; subst e16; subst e17; subst e18; subst e19; subst e20; subst e21; subst e22; subst e23
    exact kretM C hP hD hS dX10_count_12
  · have hf := kneg hc hf
    refine lv_iload_n hx hb dX10_count_4 rfl (lv_at hl 1 rfl) ?_
    refine lv_bipush (v := 8) hx hb dX10_count_5 (by decide) ?_
    refine lv_icmp_le (tgt := 13) hx hb dX10_count_7 (by decide) (fun hc => ?_) (fun hc => ?_)
    · have hf := kpos hc hf
      refine lv_iload_n hx hb dX10_count_13 rfl (lv_at hl 1 rfl) ?_
      refine lv_iconst (v := 3) hx hb dX10_count_14 (by decide) ?_
      refine lv_icmp_lt (tgt := 36) hx hb dX10_count_15 (by decide) (fun hc => ?_) (fun hc => ?_)
      · have hf := kpos hc hf
        exact t_ND_count_b36 C hA a_this a_texts a_names a_pieces a_song a_fitting a_deal a_guesses a_wise a_spy a_sheets a_texts0 a_texts1 a_texts2 a_texts0_bytes a_texts1_bytes a_texts2_bytes a_names_odds a_names_lengths a_names_letters a_names_alike a_names_oddsTogether a_pieces_inside a_pieces_lengths a_pieces_letters a_song_letters a_fitting_pieceFits a_fitting_inOrder a_guesses_list F f_finding f_texts0_size f_texts0_bytes f_texts1_size f_texts1_bytes f_texts2_size f_texts2_bytes f_guesses_size x1 r r_stale r_names_size r_names_fault r_names_odds r_names_lengths r_names_letters r_names_alike r_names_oddsTogether r_pieces_size r_pieces_fault r_pieces_inside r_pieces_lengths r_pieces_letters r_song_size r_song_fault r_song_letters r_fitting_pieceCount r_fitting_songFits r_fitting_allFit r_fitting_ordered r_fitting_pieceFits r_fitting_inOrder f_stale f_names_size f_names_fault f_names_odds f_names_lengths f_names_letters f_names_alike f_names_oddsTogether f_pieces_size f_pieces_fault f_pieces_inside f_pieces_lengths f_pieces_letters f_song_size f_song_fault f_song_letters f_fitting_pieceCount f_fitting_songFits f_fitting_allFit f_fitting_ordered f_fitting_pieceFits f_fitting_inOrder hf _ _ hP hD hS _ (lv_sub hl [0, 1] rfl)
      · have hf := kneg hc hf
        refine lv_iload_n hx hb dX10_count_18 rfl (lv_at hl 1 rfl) ?_
        refine lv_bipush (v := 6) hx hb dX10_count_19 (by decide) ?_
        refine lv_icmp_ge (tgt := 36) hx hb dX10_count_21 (by decide) (fun hc => ?_) (fun hc => ?_)
        · have hf := kpos hc hf
          exact t_ND_count_b36 C hA a_this a_texts a_names a_pieces a_song a_fitting a_deal a_guesses a_wise a_spy a_sheets a_texts0 a_texts1 a_texts2 a_texts0_bytes a_texts1_bytes a_texts2_bytes a_names_odds a_names_lengths a_names_letters a_names_alike a_names_oddsTogether a_pieces_inside a_pieces_lengths a_pieces_letters a_song_letters a_fitting_pieceFits a_fitting_inOrder a_guesses_list F f_finding f_texts0_size f_texts0_bytes f_texts1_size f_texts1_bytes f_texts2_size f_texts2_bytes f_guesses_size x1 r r_stale r_names_size r_names_fault r_names_odds r_names_lengths r_names_letters r_names_alike r_names_oddsTogether r_pieces_size r_pieces_fault r_pieces_inside r_pieces_lengths r_pieces_letters r_song_size r_song_fault r_song_letters r_fitting_pieceCount r_fitting_songFits r_fitting_allFit r_fitting_ordered r_fitting_pieceFits r_fitting_inOrder f_stale f_names_size f_names_fault f_names_odds f_names_lengths f_names_letters f_names_alike f_names_oddsTogether f_pieces_size f_pieces_fault f_pieces_inside f_pieces_lengths f_pieces_letters f_song_size f_song_fault f_song_letters f_fitting_pieceCount f_fitting_songFits f_fitting_allFit f_fitting_ordered f_fitting_pieceFits f_fitting_inOrder hf _ _ hP hD hS _ (lv_sub hl [0, 1] rfl)
        · have hf := kneg hc hf
          refine lv_aload_n hx hb dX10_count_24 rfl (lv_at hl 0 rfl) ?_
          refine va_get (ci := 10) (v := .ref a_texts) (C := RX10) (T := TX10) (N := 12) hx hb hts inX10 hown hK hP 0 rfl rfl 0 (by decide) (hts _ tw_282) (fun _ h9 => h9) rfl dX10_count_25 ?_
          refine lv_iload_n hx hb dX10_count_28 rfl (lv_at hl 1 rfl) ?_
          refine lv_iconst (v := 3) hx hb dX10_count_29 (by decide) ?_
          refine lv_isub hx hb dX10_count_30 ?_
          by_cases hs : (x1 - 3) = 0
          · have hf := kpos hs hf
            refine kaald hx hb hK hP 1 3 rfl rfl (k := 0) (by rw [hs]; rfl) rfl (by decide) dX10_count_31 ?_
            obtain ⟨v32, hc32, hf⟩ := cb1_some hf
            refine kcRV (q0 := 2) (ci := 8) (As := []) (rest := []) (st1 := [.int v32]) C (c_Te_size l D ct a_texts0 a_texts0_bytes f_texts0_size v32 hc32) ⟨rfl, rfl⟩ yn_yX8_size tw_347 tw_348 tw_346 ⟨Nat.le_of_ble_eq_true rfl, Nat.le_of_ble_eq_true rfl⟩ ⟨Nat.zero_le _, Nat.zero_le _⟩ hP [2] rfl rfl rfl rfl hl.1 rfl rfl (Nat.le_of_ble_eq_true rfl) dX10_count_32 rfl ?_
            obtain ⟨e1, e2, e3, e4, e5, e6, e7, e8, e9, e10, e11, e12, e13, e14, e15, e16, e17, e18, e19, e20, e21, e22, e23⟩ := ti23 hf
            subst e1; subst e2; subst e3; subst e4; subst e5; subst e6; subst e7; subst e8; subst e9; subst e10; subst e11; subst e12; subst e13; subst e14; subst e15; subst e16; subst e17; subst e18; subst e19; subst e20; subst e21; subst e22; subst e23
            exact kretM C hP hD hS dX10_count_35
          · have hf := kneg hs hf
            by_cases hs : (x1 - 3) = 1
            · have hf := kpos hs hf
              refine kaald hx hb hK hP 1 3 rfl rfl (k := 1) (by rw [hs]; rfl) rfl (by decide) dX10_count_31 ?_
              obtain ⟨v32, hc32, hf⟩ := cb1_some hf
              refine kcRV (q0 := 4) (ci := 8) (As := []) (rest := []) (st1 := [.int v32]) C (c_Te_size l D ct a_texts1 a_texts1_bytes f_texts1_size v32 hc32) ⟨rfl, rfl⟩ yn_yX8_size tw_347 tw_348 tw_346 ⟨Nat.le_of_ble_eq_true rfl, Nat.le_of_ble_eq_true rfl⟩ ⟨Nat.zero_le _, Nat.zero_le _⟩ hP [4] rfl rfl rfl rfl hl.1 rfl rfl (Nat.le_of_ble_eq_true rfl) dX10_count_32 rfl ?_
              obtain ⟨e1, e2, e3, e4, e5, e6, e7, e8, e9, e10, e11, e12, e13, e14, e15, e16, e17, e18, e19, e20, e21, e22, e23⟩ := ti23 hf
              subst e1; subst e2; subst e3; subst e4; subst e5; subst e6; subst e7; subst e8; subst e9; subst e10; subst e11; subst e12; subst e13; subst e14; subst e15; subst e16; subst e17; subst e18; subst e19; subst e20; subst e21; subst e22; subst e23
              exact kretM C hP hD hS dX10_count_35
            · have hf := kneg hs hf
              by_cases hs : (x1 - 3) = 2
              · have hf := kpos hs hf
                refine kaald hx hb hK hP 1 3 rfl rfl (k := 2) (by rw [hs]; rfl) rfl (by decide) dX10_count_31 ?_
                obtain ⟨v32, hc32, hf⟩ := cb1_some hf
                refine kcRV (q0 := 6) (ci := 8) (As := []) (rest := []) (st1 := [.int v32]) C (c_Te_size l D ct a_texts2 a_texts2_bytes f_texts2_size v32 hc32) ⟨rfl, rfl⟩ yn_yX8_size tw_347 tw_348 tw_346 ⟨Nat.le_of_ble_eq_true rfl, Nat.le_of_ble_eq_true rfl⟩ ⟨Nat.zero_le _, Nat.zero_le _⟩ hP [6] rfl rfl rfl rfl hl.1 rfl rfl (Nat.le_of_ble_eq_true rfl) dX10_count_32 rfl ?_
                obtain ⟨e1, e2, e3, e4, e5, e6, e7, e8, e9, e10, e11, e12, e13, e14, e15, e16, e17, e18, e19, e20, e21, e22, e23⟩ := ti23 hf
                subst e1; subst e2; subst e3; subst e4; subst e5; subst e6; subst e7; subst e8; subst e9; subst e10; subst e11; subst e12; subst e13; subst e14; subst e15; subst e16; subst e17; subst e18; subst e19; subst e20; subst e21; subst e22; subst e23
                exact kretM C hP hD hS dX10_count_35
              · have hf := kneg hs hf
                cases hf
    · have hf := kneg hc hf
      refine lv_bipush (v := (-2)) hx hb dX10_count_10 (by decide) ?_
      obtain ⟨e1, e2, e3, e4, e5, e6, e7, e8, e9, e10, e11, e12, e13, e14, e15, e16, e17, e18, e19, e20, e21, e22, e23⟩ := ti23 hf
      subst e1; subst e2; subst e3; subst e4; subst e5; subst e6; subst e7; subst e8; subst e9; subst e10; subst e11; subst e12; subst e13; subst e14; subst e15; subst e16; subst e17; subst e18; subst e19; subst e20; subst e21; subst e22; subst e23
      exact kretM C hP hD hS dX10_count_12
def RM_ND_mix : Room := { frames := 0, cells := 0, slots := 0, locals := 0 }
set_option maxHeartbeats 4000000 in
set_option maxRecDepth 100000 in
theorem c_ND_mix (l : Launch) (D : va_G) (ct : Nat → ClassId) (x0 : Int64) (x2 : Int64) (r : Int64) (hf : ND_mix x0 x2 = some r) : Met l yX10_mix (WS yX10_mix cX10_mix 4 (some .long)) RM_ND_mix (va_Pc [.long x0, .long x2] (PR D ct (w_ND_mix ct))) (QR (some (.long r))) 0 0 (fun _ => False) := by
  refine kMetR yn_yX10_mix rfl (Nat.le_of_ble_eq_true rfl) ?_
  intro p e s m args below meth c C hP ls hl
  have hl : lv_has ls 4 [(0, .long x0), (2, .long x2)] := hl
  obtain ⟨hx, hb, hr, hml, hown, hts, hlk, hK, hN⟩ := id C
  unfold ND_mix at hf
  refine lv_ldc2 (v := 31) hx hb hown (hts _ tw_908) dX10_mix_0 ?_
  refine lv_lload_n hx hb dX10_mix_3 rfl (lv_at hl 0 rfl) ?_
  refine lv_lmul hx hb dX10_mix_4 ?_
  refine lv_lload_n hx hb dX10_mix_5 rfl (lv_at hl 1 rfl) ?_
  refine lv_ladd hx hb dX10_mix_6 ?_
  have e1 := Option.some.inj hf
  subst e1
  exact kretRl C dX10_mix_7
def RM_ND_mixName : Room := { frames := 6, cells := 0, slots := 0, locals := 141 }
set_option maxHeartbeats 4000000 in
set_option maxRecDepth 100000 in
theorem c_ND_mixName (l : Launch) (D : va_G) (ct : Nat → ClassId) (a_this a_texts a_names a_pieces a_song a_fitting a_deal a_guesses a_wise a_spy a_sheets a_texts0 a_texts1 a_texts2 a_texts0_bytes a_texts1_bytes a_texts2_bytes a_names_odds a_names_lengths a_names_letters a_names_alike a_names_oddsTogether a_pieces_inside a_pieces_lengths a_pieces_letters a_song_letters a_fitting_pieceFits a_fitting_inOrder a_deal_terms a_guesses_list : Nat) (f_finding : Int32) (F : Nat) (f_texts0_size : Int32) (f_texts0_bytes : Nat → Int32) (f_texts1_size : Int32) (f_texts1_bytes : Nat → Int32) (f_texts2_size : Int32) (f_texts2_bytes : Nat → Int32) (f_deal_terms : Nat → Int32) (f_guesses_size : Int32) (f_guesses_list : Nat → Int32) (f_stale : Int32) (f_names_size : Int32) (f_names_fault : Int32) (f_names_odds : Nat → Int32) (f_names_lengths : Nat → Int32) (f_names_letters : Nat → Int32) (f_names_alike : Nat → Int32) (f_names_oddsTogether : Nat → Int32) (f_pieces_size : Int32) (f_pieces_fault : Int32) (f_pieces_inside : Nat → Int32) (f_pieces_lengths : Nat → Int32) (f_pieces_letters : Nat → Int32) (f_song_size : Int32) (f_song_fault : Int32) (f_song_letters : Nat → Int32) (f_fitting_pieceCount : Int32) (f_fitting_songFits : Int32) (f_fitting_allFit : Int32) (f_fitting_ordered : Int32) (f_fitting_pieceFits : Nat → Int32) (f_fitting_inOrder : Nat → Int32) (x1 : Int64) (x3 : Int32) (r : Int64) (r_stale : Int32) (r_names_size : Int32) (r_names_fault : Int32) (r_names_odds : Nat → Int32) (r_names_lengths : Nat → Int32) (r_names_letters : Nat → Int32) (r_names_alike : Nat → Int32) (r_names_oddsTogether : Nat → Int32) (r_pieces_size : Int32) (r_pieces_fault : Int32) (r_pieces_inside : Nat → Int32) (r_pieces_lengths : Nat → Int32) (r_pieces_letters : Nat → Int32) (r_song_size : Int32) (r_song_fault : Int32) (r_song_letters : Nat → Int32) (r_fitting_pieceCount : Int32) (r_fitting_songFits : Int32) (r_fitting_allFit : Int32) (r_fitting_ordered : Int32) (r_fitting_pieceFits : Nat → Int32) (r_fitting_inOrder : Nat → Int32) (sz : Nat) (hf : ND_mixName F f_texts0_size f_texts0_bytes f_texts1_size f_texts1_bytes f_texts2_size f_texts2_bytes f_deal_terms f_guesses_size f_guesses_list f_stale f_names_size f_names_fault f_names_odds f_names_lengths f_names_letters f_names_alike f_names_oddsTogether f_pieces_size f_pieces_fault f_pieces_inside f_pieces_lengths f_pieces_letters f_song_size f_song_fault f_song_letters f_fitting_pieceCount f_fitting_songFits f_fitting_allFit f_fitting_ordered f_fitting_pieceFits f_fitting_inOrder x1 x3 = some (r, r_stale, r_names_size, r_names_fault, r_names_odds, r_names_lengths, r_names_letters, r_names_alike, r_names_oddsTogether, r_pieces_size, r_pieces_fault, r_pieces_inside, r_pieces_lengths, r_pieces_letters, r_song_size, r_song_fault, r_song_letters, r_fitting_pieceCount, r_fitting_songFits, r_fitting_allFit, r_fitting_ordered, r_fitting_pieceFits, r_fitting_inOrder)) : Met l yX10_mixName (WS yX10_mixName cX10_mixName 6 (some .long)) RM_ND_mixName (va_Pc [.ref a_this, .long x1, .int x3] (PM D ct sz (w_ND_mixName ct a_this a_texts a_names a_pieces a_song a_fitting a_deal a_guesses a_wise a_spy a_sheets a_texts0 a_texts1 a_texts2 a_texts0_bytes a_texts1_bytes a_texts2_bytes a_names_odds a_names_lengths a_names_letters a_names_alike a_names_oddsTogether a_pieces_inside a_pieces_lengths a_pieces_letters a_song_letters a_fitting_pieceFits a_fitting_inOrder a_deal_terms a_guesses_list f_stale f_finding f_texts0_size f_texts0_bytes f_texts1_size f_texts1_bytes f_texts2_size f_texts2_bytes f_names_size f_names_fault f_names_odds f_names_lengths f_names_letters f_names_alike f_names_oddsTogether f_pieces_size f_pieces_fault f_pieces_inside f_pieces_lengths f_pieces_letters f_song_size f_song_fault f_song_letters f_fitting_pieceCount f_fitting_songFits f_fitting_allFit f_fitting_ordered f_fitting_pieceFits f_fitting_inOrder f_deal_terms f_guesses_size f_guesses_list))) (QM D (some (.long r)) (w_ND_mixName ct a_this a_texts a_names a_pieces a_song a_fitting a_deal a_guesses a_wise a_spy a_sheets a_texts0 a_texts1 a_texts2 a_texts0_bytes a_texts1_bytes a_texts2_bytes a_names_odds a_names_lengths a_names_letters a_names_alike a_names_oddsTogether a_pieces_inside a_pieces_lengths a_pieces_letters a_song_letters a_fitting_pieceFits a_fitting_inOrder a_deal_terms a_guesses_list r_stale f_finding f_texts0_size f_texts0_bytes f_texts1_size f_texts1_bytes f_texts2_size f_texts2_bytes r_names_size r_names_fault r_names_odds r_names_lengths r_names_letters r_names_alike r_names_oddsTogether r_pieces_size r_pieces_fault r_pieces_inside r_pieces_lengths r_pieces_letters r_song_size r_song_fault r_song_letters r_fitting_pieceCount r_fitting_songFits r_fitting_allFit r_fitting_ordered r_fitting_pieceFits r_fitting_inOrder f_deal_terms f_guesses_size f_guesses_list) (va_A (w_ND_mixName ct a_this a_texts a_names a_pieces a_song a_fitting a_deal a_guesses a_wise a_spy a_sheets a_texts0 a_texts1 a_texts2 a_texts0_bytes a_texts1_bytes a_texts2_bytes a_names_odds a_names_lengths a_names_letters a_names_alike a_names_oddsTogether a_pieces_inside a_pieces_lengths a_pieces_letters a_song_letters a_fitting_pieceFits a_fitting_inOrder a_deal_terms a_guesses_list f_stale f_finding f_texts0_size f_texts0_bytes f_texts1_size f_texts1_bytes f_texts2_size f_texts2_bytes f_names_size f_names_fault f_names_odds f_names_lengths f_names_letters f_names_alike f_names_oddsTogether f_pieces_size f_pieces_fault f_pieces_inside f_pieces_lengths f_pieces_letters f_song_size f_song_fault f_song_letters f_fitting_pieceCount f_fitting_songFits f_fitting_allFit f_fitting_ordered f_fitting_pieceFits f_fitting_inOrder f_deal_terms f_guesses_size f_guesses_list) sz)) 0 0 (va_A (w_ND_mixName ct a_this a_texts a_names a_pieces a_song a_fitting a_deal a_guesses a_wise a_spy a_sheets a_texts0 a_texts1 a_texts2 a_texts0_bytes a_texts1_bytes a_texts2_bytes a_names_odds a_names_lengths a_names_letters a_names_alike a_names_oddsTogether a_pieces_inside a_pieces_lengths a_pieces_letters a_song_letters a_fitting_pieceFits a_fitting_inOrder a_deal_terms a_guesses_list f_stale f_finding f_texts0_size f_texts0_bytes f_texts1_size f_texts1_bytes f_texts2_size f_texts2_bytes f_names_size f_names_fault f_names_odds f_names_lengths f_names_letters f_names_alike f_names_oddsTogether f_pieces_size f_pieces_fault f_pieces_inside f_pieces_lengths f_pieces_letters f_song_size f_song_fault f_song_letters f_fitting_pieceCount f_fitting_songFits f_fitting_allFit f_fitting_ordered f_fitting_pieceFits f_fitting_inOrder f_deal_terms f_guesses_size f_guesses_list) sz) := by
  refine kMetM yn_yX10_mixName rfl (Nat.le_of_ble_eq_true rfl) ?_
  intro p e s m args below meth c A C hA hP hD ls hl
  have hl : lv_has ls 6 [(0, .ref a_this), (1, .long x1), (3, .int x3)] := hl
  have hS : va_S A s.heap s.heap [] := va_S.rf
  obtain ⟨hx, hb, hr, hml, hown, hts, hlk, hK, hN⟩ := id C
  unfold ND_mixName at hf
  refine lv_lload_n hx hb dX10_mixName_0 rfl (lv_at hl 1 rfl) ?_
  refine lv_aload_n hx hb dX10_mixName_1 rfl (lv_at hl 0 rfl) ?_
  refine lv_iload_n hx hb dX10_mixName_2 rfl (lv_at hl 2 rfl) ?_
  refine lv_bipush (v := (-2)) hx hb dX10_mixName_3 (by decide) ?_
  obtain ⟨v5, f_stale_5, f_names_size_5, f_names_fault_5, f_names_odds_5, f_names_lengths_5, f_names_letters_5, f_names_alike_5, f_names_oddsTogether_5, f_pieces_size_5, f_pieces_fault_5, f_pieces_inside_5, f_pieces_lengths_5, f_pieces_letters_5, f_song_size_5, f_song_fault_5, f_song_letters_5, f_fitting_pieceCount_5, f_fitting_songFits_5, f_fitting_allFit_5, f_fitting_ordered_5, f_fitting_pieceFits_5, f_fitting_inOrder_5, hc5, hf⟩ := cb23_some hf
  refine kcMV (q0 := 0) (ci := 10) (As := [.int x3, .int (-2)]) (rest := [.long x1]) (st1 := [.int v5, .long x1]) (wf := (w_ND_mixName ct a_this a_texts a_names a_pieces a_song a_fitting a_deal a_guesses a_wise a_spy a_sheets a_texts0 a_texts1 a_texts2 a_texts0_bytes a_texts1_bytes a_texts2_bytes a_names_odds a_names_lengths a_names_letters a_names_alike a_names_oddsTogether a_pieces_inside a_pieces_lengths a_pieces_letters a_song_letters a_fitting_pieceFits a_fitting_inOrder a_deal_terms a_guesses_list f_stale_5 f_finding f_texts0_size f_texts0_bytes f_texts1_size f_texts1_bytes f_texts2_size f_texts2_bytes f_names_size_5 f_names_fault_5 f_names_odds_5 f_names_lengths_5 f_names_letters_5 f_names_alike_5 f_names_oddsTogether_5 f_pieces_size_5 f_pieces_fault_5 f_pieces_inside_5 f_pieces_lengths_5 f_pieces_letters_5 f_song_size_5 f_song_fault_5 f_song_letters_5 f_fitting_pieceCount_5 f_fitting_songFits_5 f_fitting_allFit_5 f_fitting_ordered_5 f_fitting_pieceFits_5 f_fitting_inOrder_5 f_deal_terms f_guesses_size f_guesses_list)) C (c_ND_name l D ct a_this a_texts a_names a_pieces a_song a_fitting a_deal a_guesses a_wise a_spy a_sheets a_texts0 a_texts1 a_texts2 a_texts0_bytes a_texts1_bytes a_texts2_bytes a_names_odds a_names_lengths a_names_letters a_names_alike a_names_oddsTogether a_pieces_inside a_pieces_lengths a_pieces_letters a_song_letters a_fitting_pieceFits a_fitting_inOrder f_finding F f_texts0_size f_texts0_bytes f_texts1_size f_texts1_bytes f_texts2_size f_texts2_bytes f_stale f_names_size f_names_fault f_names_odds f_names_lengths f_names_letters f_names_alike f_names_oddsTogether f_pieces_size f_pieces_fault f_pieces_inside f_pieces_lengths f_pieces_letters f_song_size f_song_fault f_song_letters f_fitting_pieceCount f_fitting_songFits f_fitting_allFit f_fitting_ordered f_fitting_pieceFits f_fitting_inOrder x3 (-2) v5 f_stale_5 f_names_size_5 f_names_fault_5 f_names_odds_5 f_names_lengths_5 f_names_letters_5 f_names_alike_5 f_names_oddsTogether_5 f_pieces_size_5 f_pieces_fault_5 f_pieces_inside_5 f_pieces_lengths_5 f_pieces_letters_5 f_song_size_5 f_song_fault_5 f_song_letters_5 f_fitting_pieceCount_5 f_fitting_songFits_5 f_fitting_allFit_5 f_fitting_ordered_5 f_fitting_pieceFits_5 f_fitting_inOrder_5 _ hc5) ⟨rfl, rfl⟩ yn_yX10_name tw_491 tw_492 tw_915 ⟨Nat.le_of_ble_eq_true rfl, Nat.le_of_ble_eq_true rfl⟩ ⟨Nat.zero_le _, Nat.zero_le _⟩ hP hD hS hA [0, 1, 2, 3, 4, 5, 6, 7, 8, 9, 10, 11, 12, 13, 14, 15, 16, 17, 18, 19, 20, 21, 22] [23, 24, 25, 26] [4, 5, 6, 7, 8, 9, 10, 11, 12, 13, 14, 15, 16, 17, 18, 19, 20, 21, 22, 23, 24, 25, 26, 0, 1, 2, 3] rfl rfl rfl rfl rfl (by decide) rfl rfl rfl rfl rfl rfl hl.1 rfl rfl (Nat.le_of_ble_eq_true rfl) dX10_mixName_5 rfl (fun H locs hP hD hS => ?_)
  refine lv_i2l (v := Int32.toInt64 v5) hx hb dX10_mixName_8 rfl ?_
  obtain ⟨v9, hc9, hf⟩ := cb1_some hf
  refine kcRS (As := [.long x1, .long (Int32.toInt64 v5)]) (rest := []) (st1 := [.long v9]) C (c_ND_mix l D ct x1 (Int32.toInt64 v5) v9 hc9) ⟨rfl, rfl⟩ yn_yX10_mix tw_906 tw_905 ⟨Nat.le_of_ble_eq_true rfl, Nat.le_of_ble_eq_true rfl⟩ ⟨Nat.zero_le _, Nat.zero_le _⟩ hP [] rfl hl.1 rfl rfl (Nat.le_of_ble_eq_true rfl) dX10_mixName_9 rfl ?_
  refine lv_lstore (lv' := [(4, .long v9), (0, .ref a_this), (1, .long x1), (3, .int x3)]) hx hb dX10_mixName_12 hl (by decide) rfl (fun ls hl => ?_)
  refine lv_lload hx hb dX10_mixName_14 (lv_at hl 0 rfl) ?_
  refine lv_aload_n hx hb dX10_mixName_16 rfl (lv_at hl 1 rfl) ?_
  refine lv_iload_n hx hb dX10_mixName_17 rfl (lv_at hl 3 rfl) ?_
  refine lv_iconst (v := (-1)) hx hb dX10_mixName_18 (by decide) ?_
  obtain ⟨v19, f_stale_19, f_names_size_19, f_names_fault_19, f_names_odds_19, f_names_lengths_19, f_names_letters_19, f_names_alike_19, f_names_oddsTogether_19, f_pieces_size_19, f_pieces_fault_19, f_pieces_inside_19, f_pieces_lengths_19, f_pieces_letters_19, f_song_size_19, f_song_fault_19, f_song_letters_19, f_fitting_pieceCount_19, f_fitting_songFits_19, f_fitting_allFit_19, f_fitting_ordered_19, f_fitting_pieceFits_19, f_fitting_inOrder_19, hc19, hf⟩ := cb23_some hf
  refine kcMV (q0 := 0) (ci := 10) (As := [.int x3, .int (-1)]) (rest := [.long v9]) (st1 := [.int v19, .long v9]) (wf := (w_ND_mixName ct a_this a_texts a_names a_pieces a_song a_fitting a_deal a_guesses a_wise a_spy a_sheets a_texts0 a_texts1 a_texts2 a_texts0_bytes a_texts1_bytes a_texts2_bytes a_names_odds a_names_lengths a_names_letters a_names_alike a_names_oddsTogether a_pieces_inside a_pieces_lengths a_pieces_letters a_song_letters a_fitting_pieceFits a_fitting_inOrder a_deal_terms a_guesses_list f_stale_19 f_finding f_texts0_size f_texts0_bytes f_texts1_size f_texts1_bytes f_texts2_size f_texts2_bytes f_names_size_19 f_names_fault_19 f_names_odds_19 f_names_lengths_19 f_names_letters_19 f_names_alike_19 f_names_oddsTogether_19 f_pieces_size_19 f_pieces_fault_19 f_pieces_inside_19 f_pieces_lengths_19 f_pieces_letters_19 f_song_size_19 f_song_fault_19 f_song_letters_19 f_fitting_pieceCount_19 f_fitting_songFits_19 f_fitting_allFit_19 f_fitting_ordered_19 f_fitting_pieceFits_19 f_fitting_inOrder_19 f_deal_terms f_guesses_size f_guesses_list)) C (c_ND_name l D ct a_this a_texts a_names a_pieces a_song a_fitting a_deal a_guesses a_wise a_spy a_sheets a_texts0 a_texts1 a_texts2 a_texts0_bytes a_texts1_bytes a_texts2_bytes a_names_odds a_names_lengths a_names_letters a_names_alike a_names_oddsTogether a_pieces_inside a_pieces_lengths a_pieces_letters a_song_letters a_fitting_pieceFits a_fitting_inOrder f_finding F f_texts0_size f_texts0_bytes f_texts1_size f_texts1_bytes f_texts2_size f_texts2_bytes f_stale_5 f_names_size_5 f_names_fault_5 f_names_odds_5 f_names_lengths_5 f_names_letters_5 f_names_alike_5 f_names_oddsTogether_5 f_pieces_size_5 f_pieces_fault_5 f_pieces_inside_5 f_pieces_lengths_5 f_pieces_letters_5 f_song_size_5 f_song_fault_5 f_song_letters_5 f_fitting_pieceCount_5 f_fitting_songFits_5 f_fitting_allFit_5 f_fitting_ordered_5 f_fitting_pieceFits_5 f_fitting_inOrder_5 x3 (-1) v19 f_stale_19 f_names_size_19 f_names_fault_19 f_names_odds_19 f_names_lengths_19 f_names_letters_19 f_names_alike_19 f_names_oddsTogether_19 f_pieces_size_19 f_pieces_fault_19 f_pieces_inside_19 f_pieces_lengths_19 f_pieces_letters_19 f_song_size_19 f_song_fault_19 f_song_letters_19 f_fitting_pieceCount_19 f_fitting_songFits_19 f_fitting_allFit_19 f_fitting_ordered_19 f_fitting_pieceFits_19 f_fitting_inOrder_19 _ hc19) ⟨rfl, rfl⟩ yn_yX10_name tw_491 tw_492 tw_915 ⟨Nat.le_of_ble_eq_true rfl, Nat.le_of_ble_eq_true rfl⟩ ⟨Nat.zero_le _, Nat.zero_le _⟩ hP hD hS hA [0, 1, 2, 3, 4, 5, 6, 7, 8, 9, 10, 11, 12, 13, 14, 15, 16, 17, 18, 19, 20, 21, 22] [23, 24, 25, 26] [4, 5, 6, 7, 8, 9, 10, 11, 12, 13, 14, 15, 16, 17, 18, 19, 20, 21, 22, 23, 24, 25, 26, 0, 1, 2, 3] rfl rfl rfl rfl rfl (by decide) rfl rfl rfl rfl rfl rfl hl.1 rfl rfl (Nat.le_of_ble_eq_true rfl) dX10_mixName_19 rfl (fun H locs hP hD hS => ?_)
  refine lv_i2l (v := Int32.toInt64 v19) hx hb dX10_mixName_22 rfl ?_
  obtain ⟨v23, hc23, hf⟩ := cb1_some hf
  refine kcRS (As := [.long v9, .long (Int32.toInt64 v19)]) (rest := []) (st1 := [.long v23]) C (c_ND_mix l D ct v9 (Int32.toInt64 v19) v23 hc23) ⟨rfl, rfl⟩ yn_yX10_mix tw_906 tw_905 ⟨Nat.le_of_ble_eq_true rfl, Nat.le_of_ble_eq_true rfl⟩ ⟨Nat.zero_le _, Nat.zero_le _⟩ hP [] rfl hl.1 rfl rfl (Nat.le_of_ble_eq_true rfl) dX10_mixName_23 rfl ?_
  refine lv_lstore (lv' := [(4, .long v23), (0, .ref a_this), (1, .long x1), (3, .int x3)]) hx hb dX10_mixName_26 hl (by decide) rfl (fun ls hl => ?_)
  refine lv_lload hx hb dX10_mixName_28 (lv_at hl 0 rfl) ?_
  refine lv_aload_n hx hb dX10_mixName_30 rfl (lv_at hl 1 rfl) ?_
  refine lv_iload_n hx hb dX10_mixName_31 rfl (lv_at hl 3 rfl) ?_
  refine lv_iconst (v := 0) hx hb dX10_mixName_32 (by decide) ?_
  obtain ⟨v33, f_stale_33, f_names_size_33, f_names_fault_33, f_names_odds_33, f_names_lengths_33, f_names_letters_33, f_names_alike_33, f_names_oddsTogether_33, f_pieces_size_33, f_pieces_fault_33, f_pieces_inside_33, f_pieces_lengths_33, f_pieces_letters_33, f_song_size_33, f_song_fault_33, f_song_letters_33, f_fitting_pieceCount_33, f_fitting_songFits_33, f_fitting_allFit_33, f_fitting_ordered_33, f_fitting_pieceFits_33, f_fitting_inOrder_33, hc33, hf⟩ := cb23_some hf
  refine kcMV (q0 := 0) (ci := 10) (As := [.int x3, .int 0]) (rest := [.long v23]) (st1 := [.int v33, .long v23]) (wf := (w_ND_mixName ct a_this a_texts a_names a_pieces a_song a_fitting a_deal a_guesses a_wise a_spy a_sheets a_texts0 a_texts1 a_texts2 a_texts0_bytes a_texts1_bytes a_texts2_bytes a_names_odds a_names_lengths a_names_letters a_names_alike a_names_oddsTogether a_pieces_inside a_pieces_lengths a_pieces_letters a_song_letters a_fitting_pieceFits a_fitting_inOrder a_deal_terms a_guesses_list f_stale_33 f_finding f_texts0_size f_texts0_bytes f_texts1_size f_texts1_bytes f_texts2_size f_texts2_bytes f_names_size_33 f_names_fault_33 f_names_odds_33 f_names_lengths_33 f_names_letters_33 f_names_alike_33 f_names_oddsTogether_33 f_pieces_size_33 f_pieces_fault_33 f_pieces_inside_33 f_pieces_lengths_33 f_pieces_letters_33 f_song_size_33 f_song_fault_33 f_song_letters_33 f_fitting_pieceCount_33 f_fitting_songFits_33 f_fitting_allFit_33 f_fitting_ordered_33 f_fitting_pieceFits_33 f_fitting_inOrder_33 f_deal_terms f_guesses_size f_guesses_list)) C (c_ND_name l D ct a_this a_texts a_names a_pieces a_song a_fitting a_deal a_guesses a_wise a_spy a_sheets a_texts0 a_texts1 a_texts2 a_texts0_bytes a_texts1_bytes a_texts2_bytes a_names_odds a_names_lengths a_names_letters a_names_alike a_names_oddsTogether a_pieces_inside a_pieces_lengths a_pieces_letters a_song_letters a_fitting_pieceFits a_fitting_inOrder f_finding F f_texts0_size f_texts0_bytes f_texts1_size f_texts1_bytes f_texts2_size f_texts2_bytes f_stale_19 f_names_size_19 f_names_fault_19 f_names_odds_19 f_names_lengths_19 f_names_letters_19 f_names_alike_19 f_names_oddsTogether_19 f_pieces_size_19 f_pieces_fault_19 f_pieces_inside_19 f_pieces_lengths_19 f_pieces_letters_19 f_song_size_19 f_song_fault_19 f_song_letters_19 f_fitting_pieceCount_19 f_fitting_songFits_19 f_fitting_allFit_19 f_fitting_ordered_19 f_fitting_pieceFits_19 f_fitting_inOrder_19 x3 0 v33 f_stale_33 f_names_size_33 f_names_fault_33 f_names_odds_33 f_names_lengths_33 f_names_letters_33 f_names_alike_33 f_names_oddsTogether_33 f_pieces_size_33 f_pieces_fault_33 f_pieces_inside_33 f_pieces_lengths_33 f_pieces_letters_33 f_song_size_33 f_song_fault_33 f_song_letters_33 f_fitting_pieceCount_33 f_fitting_songFits_33 f_fitting_allFit_33 f_fitting_ordered_33 f_fitting_pieceFits_33 f_fitting_inOrder_33 _ hc33) ⟨rfl, rfl⟩ yn_yX10_name tw_491 tw_492 tw_915 ⟨Nat.le_of_ble_eq_true rfl, Nat.le_of_ble_eq_true rfl⟩ ⟨Nat.zero_le _, Nat.zero_le _⟩ hP hD hS hA [0, 1, 2, 3, 4, 5, 6, 7, 8, 9, 10, 11, 12, 13, 14, 15, 16, 17, 18, 19, 20, 21, 22] [23, 24, 25, 26] [4, 5, 6, 7, 8, 9, 10, 11, 12, 13, 14, 15, 16, 17, 18, 19, 20, 21, 22, 23, 24, 25, 26, 0, 1, 2, 3] rfl rfl rfl rfl rfl (by decide) rfl rfl rfl rfl rfl rfl hl.1 rfl rfl (Nat.le_of_ble_eq_true rfl) dX10_mixName_33 rfl (fun H locs hP hD hS => ?_)
  refine lv_i2l (v := Int32.toInt64 v33) hx hb dX10_mixName_36 rfl ?_
  obtain ⟨v37, hc37, hf⟩ := cb1_some hf
  refine kcRS (As := [.long v23, .long (Int32.toInt64 v33)]) (rest := []) (st1 := [.long v37]) C (c_ND_mix l D ct v23 (Int32.toInt64 v33) v37 hc37) ⟨rfl, rfl⟩ yn_yX10_mix tw_906 tw_905 ⟨Nat.le_of_ble_eq_true rfl, Nat.le_of_ble_eq_true rfl⟩ ⟨Nat.zero_le _, Nat.zero_le _⟩ hP [] rfl hl.1 rfl rfl (Nat.le_of_ble_eq_true rfl) dX10_mixName_37 rfl ?_
  refine lv_lstore (lv' := [(4, .long v37), (0, .ref a_this), (1, .long x1), (3, .int x3)]) hx hb dX10_mixName_40 hl (by decide) rfl (fun ls hl => ?_)
  refine lv_lload hx hb dX10_mixName_42 (lv_at hl 0 rfl) ?_
  refine lv_aload_n hx hb dX10_mixName_44 rfl (lv_at hl 1 rfl) ?_
  refine lv_iload_n hx hb dX10_mixName_45 rfl (lv_at hl 3 rfl) ?_
  refine lv_iconst (v := 0) hx hb dX10_mixName_46 (by decide) ?_
  obtain ⟨v47, f_stale_47, f_names_size_47, f_names_fault_47, f_names_odds_47, f_names_lengths_47, f_names_letters_47, f_names_alike_47, f_names_oddsTogether_47, f_pieces_size_47, f_pieces_fault_47, f_pieces_inside_47, f_pieces_lengths_47, f_pieces_letters_47, f_song_size_47, f_song_fault_47, f_song_letters_47, f_fitting_pieceCount_47, f_fitting_songFits_47, f_fitting_allFit_47, f_fitting_ordered_47, f_fitting_pieceFits_47, f_fitting_inOrder_47, hc47, hf⟩ := cb23_some hf
  refine kcMV (q0 := 0) (ci := 10) (As := [.int x3, .int 0]) (rest := [.long v37]) (st1 := [.long v47, .long v37]) (wf := (w_ND_mixName ct a_this a_texts a_names a_pieces a_song a_fitting a_deal a_guesses a_wise a_spy a_sheets a_texts0 a_texts1 a_texts2 a_texts0_bytes a_texts1_bytes a_texts2_bytes a_names_odds a_names_lengths a_names_letters a_names_alike a_names_oddsTogether a_pieces_inside a_pieces_lengths a_pieces_letters a_song_letters a_fitting_pieceFits a_fitting_inOrder a_deal_terms a_guesses_list f_stale_47 f_finding f_texts0_size f_texts0_bytes f_texts1_size f_texts1_bytes f_texts2_size f_texts2_bytes f_names_size_47 f_names_fault_47 f_names_odds_47 f_names_lengths_47 f_names_letters_47 f_names_alike_47 f_names_oddsTogether_47 f_pieces_size_47 f_pieces_fault_47 f_pieces_inside_47 f_pieces_lengths_47 f_pieces_letters_47 f_song_size_47 f_song_fault_47 f_song_letters_47 f_fitting_pieceCount_47 f_fitting_songFits_47 f_fitting_allFit_47 f_fitting_ordered_47 f_fitting_pieceFits_47 f_fitting_inOrder_47 f_deal_terms f_guesses_size f_guesses_list)) C (c_ND_chance l D ct a_this a_texts a_names a_pieces a_song a_fitting a_deal a_guesses a_wise a_spy a_sheets a_texts0 a_texts1 a_texts2 a_texts0_bytes a_texts1_bytes a_texts2_bytes a_names_odds a_names_lengths a_names_letters a_names_alike a_names_oddsTogether a_pieces_inside a_pieces_lengths a_pieces_letters a_song_letters a_fitting_pieceFits a_fitting_inOrder f_finding F f_texts0_size f_texts0_bytes f_texts1_size f_texts1_bytes f_texts2_size f_texts2_bytes f_stale_33 f_names_size_33 f_names_fault_33 f_names_odds_33 f_names_lengths_33 f_names_letters_33 f_names_alike_33 f_names_oddsTogether_33 f_pieces_size_33 f_pieces_fault_33 f_pieces_inside_33 f_pieces_lengths_33 f_pieces_letters_33 f_song_size_33 f_song_fault_33 f_song_letters_33 f_fitting_pieceCount_33 f_fitting_songFits_33 f_fitting_allFit_33 f_fitting_ordered_33 f_fitting_pieceFits_33 f_fitting_inOrder_33 x3 0 v47 f_stale_47 f_names_size_47 f_names_fault_47 f_names_odds_47 f_names_lengths_47 f_names_letters_47 f_names_alike_47 f_names_oddsTogether_47 f_pieces_size_47 f_pieces_fault_47 f_pieces_inside_47 f_pieces_lengths_47 f_pieces_letters_47 f_song_size_47 f_song_fault_47 f_song_letters_47 f_fitting_pieceCount_47 f_fitting_songFits_47 f_fitting_allFit_47 f_fitting_ordered_47 f_fitting_pieceFits_47 f_fitting_inOrder_47 _ hc47) ⟨rfl, rfl⟩ yn_yX10_chance tw_580 tw_581 tw_916 ⟨Nat.le_of_ble_eq_true rfl, Nat.le_of_ble_eq_true rfl⟩ ⟨Nat.zero_le _, Nat.zero_le _⟩ hP hD hS hA [0, 1, 2, 3, 4, 5, 6, 7, 8, 9, 10, 11, 12, 13, 14, 15, 16, 17, 18, 19, 20, 21, 22] [23, 24, 25, 26] [4, 5, 6, 7, 8, 9, 10, 11, 12, 13, 14, 15, 16, 17, 18, 19, 20, 21, 22, 23, 24, 25, 26, 0, 1, 2, 3] rfl rfl rfl rfl rfl (by decide) rfl rfl rfl rfl rfl rfl hl.1 rfl rfl (Nat.le_of_ble_eq_true rfl) dX10_mixName_47 rfl (fun H locs hP hD hS => ?_)
  obtain ⟨v50, hc50, hf⟩ := cb1_some hf
  refine kcRS (As := [.long v37, .long v47]) (rest := []) (st1 := [.long v50]) C (c_ND_mix l D ct v37 v47 v50 hc50) ⟨rfl, rfl⟩ yn_yX10_mix tw_906 tw_905 ⟨Nat.le_of_ble_eq_true rfl, Nat.le_of_ble_eq_true rfl⟩ ⟨Nat.zero_le _, Nat.zero_le _⟩ hP [] rfl hl.1 rfl rfl (Nat.le_of_ble_eq_true rfl) dX10_mixName_50 rfl ?_
  refine lv_lstore (lv' := [(4, .long v50), (0, .ref a_this), (1, .long x1), (3, .int x3)]) hx hb dX10_mixName_53 hl (by decide) rfl (fun ls hl => ?_)
  refine lv_lload hx hb dX10_mixName_55 (lv_at hl 0 rfl) ?_
  refine lv_aload_n hx hb dX10_mixName_57 rfl (lv_at hl 1 rfl) ?_
  refine lv_iload_n hx hb dX10_mixName_58 rfl (lv_at hl 3 rfl) ?_
  refine lv_iconst (v := 1) hx hb dX10_mixName_59 (by decide) ?_
  obtain ⟨v60, f_stale_60, f_names_size_60, f_names_fault_60, f_names_odds_60, f_names_lengths_60, f_names_letters_60, f_names_alike_60, f_names_oddsTogether_60, f_pieces_size_60, f_pieces_fault_60, f_pieces_inside_60, f_pieces_lengths_60, f_pieces_letters_60, f_song_size_60, f_song_fault_60, f_song_letters_60, f_fitting_pieceCount_60, f_fitting_songFits_60, f_fitting_allFit_60, f_fitting_ordered_60, f_fitting_pieceFits_60, f_fitting_inOrder_60, hc60, hf⟩ := cb23_some hf
  refine kcMV (q0 := 0) (ci := 10) (As := [.int x3, .int 1]) (rest := [.long v50]) (st1 := [.long v60, .long v50]) (wf := (w_ND_mixName ct a_this a_texts a_names a_pieces a_song a_fitting a_deal a_guesses a_wise a_spy a_sheets a_texts0 a_texts1 a_texts2 a_texts0_bytes a_texts1_bytes a_texts2_bytes a_names_odds a_names_lengths a_names_letters a_names_alike a_names_oddsTogether a_pieces_inside a_pieces_lengths a_pieces_letters a_song_letters a_fitting_pieceFits a_fitting_inOrder a_deal_terms a_guesses_list f_stale_60 f_finding f_texts0_size f_texts0_bytes f_texts1_size f_texts1_bytes f_texts2_size f_texts2_bytes f_names_size_60 f_names_fault_60 f_names_odds_60 f_names_lengths_60 f_names_letters_60 f_names_alike_60 f_names_oddsTogether_60 f_pieces_size_60 f_pieces_fault_60 f_pieces_inside_60 f_pieces_lengths_60 f_pieces_letters_60 f_song_size_60 f_song_fault_60 f_song_letters_60 f_fitting_pieceCount_60 f_fitting_songFits_60 f_fitting_allFit_60 f_fitting_ordered_60 f_fitting_pieceFits_60 f_fitting_inOrder_60 f_deal_terms f_guesses_size f_guesses_list)) C (c_ND_chance l D ct a_this a_texts a_names a_pieces a_song a_fitting a_deal a_guesses a_wise a_spy a_sheets a_texts0 a_texts1 a_texts2 a_texts0_bytes a_texts1_bytes a_texts2_bytes a_names_odds a_names_lengths a_names_letters a_names_alike a_names_oddsTogether a_pieces_inside a_pieces_lengths a_pieces_letters a_song_letters a_fitting_pieceFits a_fitting_inOrder f_finding F f_texts0_size f_texts0_bytes f_texts1_size f_texts1_bytes f_texts2_size f_texts2_bytes f_stale_47 f_names_size_47 f_names_fault_47 f_names_odds_47 f_names_lengths_47 f_names_letters_47 f_names_alike_47 f_names_oddsTogether_47 f_pieces_size_47 f_pieces_fault_47 f_pieces_inside_47 f_pieces_lengths_47 f_pieces_letters_47 f_song_size_47 f_song_fault_47 f_song_letters_47 f_fitting_pieceCount_47 f_fitting_songFits_47 f_fitting_allFit_47 f_fitting_ordered_47 f_fitting_pieceFits_47 f_fitting_inOrder_47 x3 1 v60 f_stale_60 f_names_size_60 f_names_fault_60 f_names_odds_60 f_names_lengths_60 f_names_letters_60 f_names_alike_60 f_names_oddsTogether_60 f_pieces_size_60 f_pieces_fault_60 f_pieces_inside_60 f_pieces_lengths_60 f_pieces_letters_60 f_song_size_60 f_song_fault_60 f_song_letters_60 f_fitting_pieceCount_60 f_fitting_songFits_60 f_fitting_allFit_60 f_fitting_ordered_60 f_fitting_pieceFits_60 f_fitting_inOrder_60 _ hc60) ⟨rfl, rfl⟩ yn_yX10_chance tw_580 tw_581 tw_916 ⟨Nat.le_of_ble_eq_true rfl, Nat.le_of_ble_eq_true rfl⟩ ⟨Nat.zero_le _, Nat.zero_le _⟩ hP hD hS hA [0, 1, 2, 3, 4, 5, 6, 7, 8, 9, 10, 11, 12, 13, 14, 15, 16, 17, 18, 19, 20, 21, 22] [23, 24, 25, 26] [4, 5, 6, 7, 8, 9, 10, 11, 12, 13, 14, 15, 16, 17, 18, 19, 20, 21, 22, 23, 24, 25, 26, 0, 1, 2, 3] rfl rfl rfl rfl rfl (by decide) rfl rfl rfl rfl rfl rfl hl.1 rfl rfl (Nat.le_of_ble_eq_true rfl) dX10_mixName_60 rfl (fun H locs hP hD hS => ?_)
  obtain ⟨v63, hc63, hf⟩ := cb1_some hf
  refine kcRS (As := [.long v50, .long v60]) (rest := []) (st1 := [.long v63]) C (c_ND_mix l D ct v50 v60 v63 hc63) ⟨rfl, rfl⟩ yn_yX10_mix tw_906 tw_905 ⟨Nat.le_of_ble_eq_true rfl, Nat.le_of_ble_eq_true rfl⟩ ⟨Nat.zero_le _, Nat.zero_le _⟩ hP [] rfl hl.1 rfl rfl (Nat.le_of_ble_eq_true rfl) dX10_mixName_63 rfl ?_
  refine lv_lstore (lv' := [(4, .long v63), (0, .ref a_this), (1, .long x1), (3, .int x3)]) hx hb dX10_mixName_66 hl (by decide) rfl (fun ls hl => ?_)
  refine lv_lload hx hb dX10_mixName_68 (lv_at hl 0 rfl) ?_
  refine lv_aload_n hx hb dX10_mixName_70 rfl (lv_at hl 1 rfl) ?_
  refine lv_iload_n hx hb dX10_mixName_71 rfl (lv_at hl 3 rfl) ?_
  obtain ⟨v72, f_stale_72, f_names_size_72, f_names_fault_72, f_names_odds_72, f_names_lengths_72, f_names_letters_72, f_names_alike_72, f_names_oddsTogether_72, f_pieces_size_72, f_pieces_fault_72, f_pieces_inside_72, f_pieces_lengths_72, f_pieces_letters_72, f_song_size_72, f_song_fault_72, f_song_letters_72, f_fitting_pieceCount_72, f_fitting_songFits_72, f_fitting_allFit_72, f_fitting_ordered_72, f_fitting_pieceFits_72, f_fitting_inOrder_72, hc72, hf⟩ := cb23_some hf
  refine kcMV (q0 := 0) (ci := 10) (As := [.int x3]) (rest := [.long v63]) (st1 := [.int v72, .long v63]) (wf := (w_ND_mixName ct a_this a_texts a_names a_pieces a_song a_fitting a_deal a_guesses a_wise a_spy a_sheets a_texts0 a_texts1 a_texts2 a_texts0_bytes a_texts1_bytes a_texts2_bytes a_names_odds a_names_lengths a_names_letters a_names_alike a_names_oddsTogether a_pieces_inside a_pieces_lengths a_pieces_letters a_song_letters a_fitting_pieceFits a_fitting_inOrder a_deal_terms a_guesses_list f_stale_72 f_finding f_texts0_size f_texts0_bytes f_texts1_size f_texts1_bytes f_texts2_size f_texts2_bytes f_names_size_72 f_names_fault_72 f_names_odds_72 f_names_lengths_72 f_names_letters_72 f_names_alike_72 f_names_oddsTogether_72 f_pieces_size_72 f_pieces_fault_72 f_pieces_inside_72 f_pieces_lengths_72 f_pieces_letters_72 f_song_size_72 f_song_fault_72 f_song_letters_72 f_fitting_pieceCount_72 f_fitting_songFits_72 f_fitting_allFit_72 f_fitting_ordered_72 f_fitting_pieceFits_72 f_fitting_inOrder_72 f_deal_terms f_guesses_size f_guesses_list)) C (c_ND_off l D ct a_this a_texts a_names a_pieces a_song a_fitting a_deal a_guesses a_wise a_spy a_sheets a_texts0 a_texts1 a_texts2 a_texts0_bytes a_texts1_bytes a_texts2_bytes a_names_odds a_names_lengths a_names_letters a_names_alike a_names_oddsTogether a_pieces_inside a_pieces_lengths a_pieces_letters a_song_letters a_fitting_pieceFits a_fitting_inOrder f_finding F f_texts0_size f_texts0_bytes f_texts1_size f_texts1_bytes f_texts2_size f_texts2_bytes f_stale_60 f_names_size_60 f_names_fault_60 f_names_odds_60 f_names_lengths_60 f_names_letters_60 f_names_alike_60 f_names_oddsTogether_60 f_pieces_size_60 f_pieces_fault_60 f_pieces_inside_60 f_pieces_lengths_60 f_pieces_letters_60 f_song_size_60 f_song_fault_60 f_song_letters_60 f_fitting_pieceCount_60 f_fitting_songFits_60 f_fitting_allFit_60 f_fitting_ordered_60 f_fitting_pieceFits_60 f_fitting_inOrder_60 x3 v72 f_stale_72 f_names_size_72 f_names_fault_72 f_names_odds_72 f_names_lengths_72 f_names_letters_72 f_names_alike_72 f_names_oddsTogether_72 f_pieces_size_72 f_pieces_fault_72 f_pieces_inside_72 f_pieces_lengths_72 f_pieces_letters_72 f_song_size_72 f_song_fault_72 f_song_letters_72 f_fitting_pieceCount_72 f_fitting_songFits_72 f_fitting_allFit_72 f_fitting_ordered_72 f_fitting_pieceFits_72 f_fitting_inOrder_72 _ hc72) ⟨rfl, rfl⟩ yn_yX10_off tw_613 tw_614 tw_917 ⟨Nat.le_of_ble_eq_true rfl, Nat.le_of_ble_eq_true rfl⟩ ⟨Nat.zero_le _, Nat.zero_le _⟩ hP hD hS hA [0, 1, 2, 3, 4, 5, 6, 7, 8, 9, 10, 11, 12, 13, 14, 15, 16, 17, 18, 19, 20, 21, 22] [23, 24, 25, 26] [4, 5, 6, 7, 8, 9, 10, 11, 12, 13, 14, 15, 16, 17, 18, 19, 20, 21, 22, 23, 24, 25, 26, 0, 1, 2, 3] rfl rfl rfl rfl rfl (by decide) rfl rfl rfl rfl rfl rfl hl.1 rfl rfl (Nat.le_of_ble_eq_true rfl) dX10_mixName_72 rfl (fun H locs hP hD hS => ?_)
  refine lv_i2l (v := Int32.toInt64 v72) hx hb dX10_mixName_75 rfl ?_
  obtain ⟨v76, hc76, hf⟩ := cb1_some hf
  refine kcRS (As := [.long v63, .long (Int32.toInt64 v72)]) (rest := []) (st1 := [.long v76]) C (c_ND_mix l D ct v63 (Int32.toInt64 v72) v76 hc76) ⟨rfl, rfl⟩ yn_yX10_mix tw_906 tw_905 ⟨Nat.le_of_ble_eq_true rfl, Nat.le_of_ble_eq_true rfl⟩ ⟨Nat.zero_le _, Nat.zero_le _⟩ hP [] rfl hl.1 rfl rfl (Nat.le_of_ble_eq_true rfl) dX10_mixName_76 rfl ?_
  refine lv_lstore (lv' := [(4, .long v76), (0, .ref a_this), (1, .long x1), (3, .int x3)]) hx hb dX10_mixName_79 hl (by decide) rfl (fun ls hl => ?_)
  refine lv_lload hx hb dX10_mixName_81 (lv_at hl 0 rfl) ?_
  refine lv_aload_n hx hb dX10_mixName_83 rfl (lv_at hl 1 rfl) ?_
  refine lv_iload_n hx hb dX10_mixName_84 rfl (lv_at hl 3 rfl) ?_
  refine lv_iconst (v := 0) hx hb dX10_mixName_85 (by decide) ?_
  obtain ⟨v86, f_stale_86, f_names_size_86, f_names_fault_86, f_names_odds_86, f_names_lengths_86, f_names_letters_86, f_names_alike_86, f_names_oddsTogether_86, f_pieces_size_86, f_pieces_fault_86, f_pieces_inside_86, f_pieces_lengths_86, f_pieces_letters_86, f_song_size_86, f_song_fault_86, f_song_letters_86, f_fitting_pieceCount_86, f_fitting_songFits_86, f_fitting_allFit_86, f_fitting_ordered_86, f_fitting_pieceFits_86, f_fitting_inOrder_86, hc86, hf⟩ := cb23_some hf
  refine kcMV (q0 := 0) (ci := 10) (As := [.int x3, .int 0]) (rest := [.long v76]) (st1 := [.int v86, .long v76]) (wf := (w_ND_mixName ct a_this a_texts a_names a_pieces a_song a_fitting a_deal a_guesses a_wise a_spy a_sheets a_texts0 a_texts1 a_texts2 a_texts0_bytes a_texts1_bytes a_texts2_bytes a_names_odds a_names_lengths a_names_letters a_names_alike a_names_oddsTogether a_pieces_inside a_pieces_lengths a_pieces_letters a_song_letters a_fitting_pieceFits a_fitting_inOrder a_deal_terms a_guesses_list f_stale_86 f_finding f_texts0_size f_texts0_bytes f_texts1_size f_texts1_bytes f_texts2_size f_texts2_bytes f_names_size_86 f_names_fault_86 f_names_odds_86 f_names_lengths_86 f_names_letters_86 f_names_alike_86 f_names_oddsTogether_86 f_pieces_size_86 f_pieces_fault_86 f_pieces_inside_86 f_pieces_lengths_86 f_pieces_letters_86 f_song_size_86 f_song_fault_86 f_song_letters_86 f_fitting_pieceCount_86 f_fitting_songFits_86 f_fitting_allFit_86 f_fitting_ordered_86 f_fitting_pieceFits_86 f_fitting_inOrder_86 f_deal_terms f_guesses_size f_guesses_list)) C (c_ND_named l D ct a_this a_texts a_names a_pieces a_song a_fitting a_deal a_guesses a_wise a_spy a_sheets a_texts0 a_texts1 a_texts2 a_texts0_bytes a_texts1_bytes a_texts2_bytes a_names_odds a_names_lengths a_names_letters a_names_alike a_names_oddsTogether a_pieces_inside a_pieces_lengths a_pieces_letters a_song_letters a_fitting_pieceFits a_fitting_inOrder a_deal_terms a_guesses_list f_finding F f_texts0_size f_texts0_bytes f_texts1_size f_texts1_bytes f_texts2_size f_texts2_bytes f_deal_terms f_guesses_size f_guesses_list f_stale_72 f_names_size_72 f_names_fault_72 f_names_odds_72 f_names_lengths_72 f_names_letters_72 f_names_alike_72 f_names_oddsTogether_72 f_pieces_size_72 f_pieces_fault_72 f_pieces_inside_72 f_pieces_lengths_72 f_pieces_letters_72 f_song_size_72 f_song_fault_72 f_song_letters_72 f_fitting_pieceCount_72 f_fitting_songFits_72 f_fitting_allFit_72 f_fitting_ordered_72 f_fitting_pieceFits_72 f_fitting_inOrder_72 x3 0 v86 f_stale_86 f_names_size_86 f_names_fault_86 f_names_odds_86 f_names_lengths_86 f_names_letters_86 f_names_alike_86 f_names_oddsTogether_86 f_pieces_size_86 f_pieces_fault_86 f_pieces_inside_86 f_pieces_lengths_86 f_pieces_letters_86 f_song_size_86 f_song_fault_86 f_song_letters_86 f_fitting_pieceCount_86 f_fitting_songFits_86 f_fitting_allFit_86 f_fitting_ordered_86 f_fitting_pieceFits_86 f_fitting_inOrder_86 _ hc86) ⟨rfl, rfl⟩ yn_yX10_named tw_634 tw_635 tw_918 ⟨Nat.le_of_ble_eq_true rfl, Nat.le_of_ble_eq_true rfl⟩ ⟨Nat.zero_le _, Nat.zero_le _⟩ hP hD hS hA [0, 1, 2, 3, 4, 5, 6, 7, 8, 9, 10, 11, 12, 13, 14, 15, 16, 17, 18, 19, 20, 21, 22, 23, 24, 25, 26] [] [0, 1, 2, 3, 4, 5, 6, 7, 8, 9, 10, 11, 12, 13, 14, 15, 16, 17, 18, 19, 20, 21, 22, 23, 24, 25, 26] rfl rfl rfl rfl rfl (by decide) rfl rfl rfl rfl rfl rfl hl.1 rfl rfl (Nat.le_of_ble_eq_true rfl) dX10_mixName_86 rfl (fun H locs hP hD hS => ?_)
  refine lv_i2l (v := Int32.toInt64 v86) hx hb dX10_mixName_89 rfl ?_
  obtain ⟨v90, hc90, hf⟩ := cb1_some hf
  refine kcRS (As := [.long v76, .long (Int32.toInt64 v86)]) (rest := []) (st1 := [.long v90]) C (c_ND_mix l D ct v76 (Int32.toInt64 v86) v90 hc90) ⟨rfl, rfl⟩ yn_yX10_mix tw_906 tw_905 ⟨Nat.le_of_ble_eq_true rfl, Nat.le_of_ble_eq_true rfl⟩ ⟨Nat.zero_le _, Nat.zero_le _⟩ hP [] rfl hl.1 rfl rfl (Nat.le_of_ble_eq_true rfl) dX10_mixName_90 rfl ?_
  refine lv_lstore (lv' := [(4, .long v90), (0, .ref a_this), (1, .long x1), (3, .int x3)]) hx hb dX10_mixName_93 hl (by decide) rfl (fun ls hl => ?_)
  refine lv_lload hx hb dX10_mixName_95 (lv_at hl 0 rfl) ?_
  refine lv_aload_n hx hb dX10_mixName_97 rfl (lv_at hl 1 rfl) ?_
  refine lv_iload_n hx hb dX10_mixName_98 rfl (lv_at hl 3 rfl) ?_
  refine lv_iconst (v := 1) hx hb dX10_mixName_99 (by decide) ?_
  obtain ⟨v100, f_stale_100, f_names_size_100, f_names_fault_100, f_names_odds_100, f_names_lengths_100, f_names_letters_100, f_names_alike_100, f_names_oddsTogether_100, f_pieces_size_100, f_pieces_fault_100, f_pieces_inside_100, f_pieces_lengths_100, f_pieces_letters_100, f_song_size_100, f_song_fault_100, f_song_letters_100, f_fitting_pieceCount_100, f_fitting_songFits_100, f_fitting_allFit_100, f_fitting_ordered_100, f_fitting_pieceFits_100, f_fitting_inOrder_100, hc100, hf⟩ := cb23_some hf
  refine kcMV (q0 := 0) (ci := 10) (As := [.int x3, .int 1]) (rest := [.long v90]) (st1 := [.int v100, .long v90]) (wf := (w_ND_mixName ct a_this a_texts a_names a_pieces a_song a_fitting a_deal a_guesses a_wise a_spy a_sheets a_texts0 a_texts1 a_texts2 a_texts0_bytes a_texts1_bytes a_texts2_bytes a_names_odds a_names_lengths a_names_letters a_names_alike a_names_oddsTogether a_pieces_inside a_pieces_lengths a_pieces_letters a_song_letters a_fitting_pieceFits a_fitting_inOrder a_deal_terms a_guesses_list f_stale_100 f_finding f_texts0_size f_texts0_bytes f_texts1_size f_texts1_bytes f_texts2_size f_texts2_bytes f_names_size_100 f_names_fault_100 f_names_odds_100 f_names_lengths_100 f_names_letters_100 f_names_alike_100 f_names_oddsTogether_100 f_pieces_size_100 f_pieces_fault_100 f_pieces_inside_100 f_pieces_lengths_100 f_pieces_letters_100 f_song_size_100 f_song_fault_100 f_song_letters_100 f_fitting_pieceCount_100 f_fitting_songFits_100 f_fitting_allFit_100 f_fitting_ordered_100 f_fitting_pieceFits_100 f_fitting_inOrder_100 f_deal_terms f_guesses_size f_guesses_list)) C (c_ND_named l D ct a_this a_texts a_names a_pieces a_song a_fitting a_deal a_guesses a_wise a_spy a_sheets a_texts0 a_texts1 a_texts2 a_texts0_bytes a_texts1_bytes a_texts2_bytes a_names_odds a_names_lengths a_names_letters a_names_alike a_names_oddsTogether a_pieces_inside a_pieces_lengths a_pieces_letters a_song_letters a_fitting_pieceFits a_fitting_inOrder a_deal_terms a_guesses_list f_finding F f_texts0_size f_texts0_bytes f_texts1_size f_texts1_bytes f_texts2_size f_texts2_bytes f_deal_terms f_guesses_size f_guesses_list f_stale_86 f_names_size_86 f_names_fault_86 f_names_odds_86 f_names_lengths_86 f_names_letters_86 f_names_alike_86 f_names_oddsTogether_86 f_pieces_size_86 f_pieces_fault_86 f_pieces_inside_86 f_pieces_lengths_86 f_pieces_letters_86 f_song_size_86 f_song_fault_86 f_song_letters_86 f_fitting_pieceCount_86 f_fitting_songFits_86 f_fitting_allFit_86 f_fitting_ordered_86 f_fitting_pieceFits_86 f_fitting_inOrder_86 x3 1 v100 f_stale_100 f_names_size_100 f_names_fault_100 f_names_odds_100 f_names_lengths_100 f_names_letters_100 f_names_alike_100 f_names_oddsTogether_100 f_pieces_size_100 f_pieces_fault_100 f_pieces_inside_100 f_pieces_lengths_100 f_pieces_letters_100 f_song_size_100 f_song_fault_100 f_song_letters_100 f_fitting_pieceCount_100 f_fitting_songFits_100 f_fitting_allFit_100 f_fitting_ordered_100 f_fitting_pieceFits_100 f_fitting_inOrder_100 _ hc100) ⟨rfl, rfl⟩ yn_yX10_named tw_634 tw_635 tw_918 ⟨Nat.le_of_ble_eq_true rfl, Nat.le_of_ble_eq_true rfl⟩ ⟨Nat.zero_le _, Nat.zero_le _⟩ hP hD hS hA [0, 1, 2, 3, 4, 5, 6, 7, 8, 9, 10, 11, 12, 13, 14, 15, 16, 17, 18, 19, 20, 21, 22, 23, 24, 25, 26] [] [0, 1, 2, 3, 4, 5, 6, 7, 8, 9, 10, 11, 12, 13, 14, 15, 16, 17, 18, 19, 20, 21, 22, 23, 24, 25, 26] rfl rfl rfl rfl rfl (by decide) rfl rfl rfl rfl rfl rfl hl.1 rfl rfl (Nat.le_of_ble_eq_true rfl) dX10_mixName_100 rfl (fun H locs hP hD hS => ?_)
  refine lv_i2l (v := Int32.toInt64 v100) hx hb dX10_mixName_103 rfl ?_
  obtain ⟨v104, hc104, hf⟩ := cb1_some hf
  refine kcRS (As := [.long v90, .long (Int32.toInt64 v100)]) (rest := []) (st1 := [.long v104]) C (c_ND_mix l D ct v90 (Int32.toInt64 v100) v104 hc104) ⟨rfl, rfl⟩ yn_yX10_mix tw_906 tw_905 ⟨Nat.le_of_ble_eq_true rfl, Nat.le_of_ble_eq_true rfl⟩ ⟨Nat.zero_le _, Nat.zero_le _⟩ hP [] rfl hl.1 rfl rfl (Nat.le_of_ble_eq_true rfl) dX10_mixName_104 rfl ?_
  refine lv_lstore (lv' := [(4, .long v104), (0, .ref a_this), (1, .long x1), (3, .int x3)]) hx hb dX10_mixName_107 hl (by decide) rfl (fun ls hl => ?_)
  refine lv_lload hx hb dX10_mixName_109 (lv_at hl 0 rfl) ?_
  refine lv_aload_n hx hb dX10_mixName_111 rfl (lv_at hl 1 rfl) ?_
  refine lv_iconst (v := 0) hx hb dX10_mixName_112 (by decide) ?_
  refine lv_iload_n hx hb dX10_mixName_113 rfl (lv_at hl 3 rfl) ?_
  obtain ⟨v114, f_stale_114, f_names_size_114, f_names_fault_114, f_names_odds_114, f_names_lengths_114, f_names_letters_114, f_names_alike_114, f_names_oddsTogether_114, f_pieces_size_114, f_pieces_fault_114, f_pieces_inside_114, f_pieces_lengths_114, f_pieces_letters_114, f_song_size_114, f_song_fault_114, f_song_letters_114, f_fitting_pieceCount_114, f_fitting_songFits_114, f_fitting_allFit_114, f_fitting_ordered_114, f_fitting_pieceFits_114, f_fitting_inOrder_114, hc114, hf⟩ := cb23_some hf
  refine kcMV (q0 := 0) (ci := 10) (As := [.int 0, .int x3]) (rest := [.long v104]) (st1 := [.int v114, .long v104]) (wf := (w_ND_mixName ct a_this a_texts a_names a_pieces a_song a_fitting a_deal a_guesses a_wise a_spy a_sheets a_texts0 a_texts1 a_texts2 a_texts0_bytes a_texts1_bytes a_texts2_bytes a_names_odds a_names_lengths a_names_letters a_names_alike a_names_oddsTogether a_pieces_inside a_pieces_lengths a_pieces_letters a_song_letters a_fitting_pieceFits a_fitting_inOrder a_deal_terms a_guesses_list f_stale_114 f_finding f_texts0_size f_texts0_bytes f_texts1_size f_texts1_bytes f_texts2_size f_texts2_bytes f_names_size_114 f_names_fault_114 f_names_odds_114 f_names_lengths_114 f_names_letters_114 f_names_alike_114 f_names_oddsTogether_114 f_pieces_size_114 f_pieces_fault_114 f_pieces_inside_114 f_pieces_lengths_114 f_pieces_letters_114 f_song_size_114 f_song_fault_114 f_song_letters_114 f_fitting_pieceCount_114 f_fitting_songFits_114 f_fitting_allFit_114 f_fitting_ordered_114 f_fitting_pieceFits_114 f_fitting_inOrder_114 f_deal_terms f_guesses_size f_guesses_list)) C (c_ND_changes l D ct a_this a_texts a_names a_pieces a_song a_fitting a_deal a_guesses a_wise a_spy a_sheets a_texts0 a_texts1 a_texts2 a_texts0_bytes a_texts1_bytes a_texts2_bytes a_names_odds a_names_lengths a_names_letters a_names_alike a_names_oddsTogether a_pieces_inside a_pieces_lengths a_pieces_letters a_song_letters a_fitting_pieceFits a_fitting_inOrder f_finding F f_texts0_size f_texts0_bytes f_texts1_size f_texts1_bytes f_texts2_size f_texts2_bytes f_stale_100 f_names_size_100 f_names_fault_100 f_names_odds_100 f_names_lengths_100 f_names_letters_100 f_names_alike_100 f_names_oddsTogether_100 f_pieces_size_100 f_pieces_fault_100 f_pieces_inside_100 f_pieces_lengths_100 f_pieces_letters_100 f_song_size_100 f_song_fault_100 f_song_letters_100 f_fitting_pieceCount_100 f_fitting_songFits_100 f_fitting_allFit_100 f_fitting_ordered_100 f_fitting_pieceFits_100 f_fitting_inOrder_100 0 x3 v114 f_stale_114 f_names_size_114 f_names_fault_114 f_names_odds_114 f_names_lengths_114 f_names_letters_114 f_names_alike_114 f_names_oddsTogether_114 f_pieces_size_114 f_pieces_fault_114 f_pieces_inside_114 f_pieces_lengths_114 f_pieces_letters_114 f_song_size_114 f_song_fault_114 f_song_letters_114 f_fitting_pieceCount_114 f_fitting_songFits_114 f_fitting_allFit_114 f_fitting_ordered_114 f_fitting_pieceFits_114 f_fitting_inOrder_114 _ hc114) ⟨rfl, rfl⟩ yn_yX10_changes tw_813 tw_814 tw_919 ⟨Nat.le_of_ble_eq_true rfl, Nat.le_of_ble_eq_true rfl⟩ ⟨Nat.zero_le _, Nat.zero_le _⟩ hP hD hS hA [0, 1, 2, 3, 4, 5, 6, 7, 8, 9, 10, 11, 12, 13, 14, 15, 16, 17, 18, 19, 20, 21, 22] [23, 24, 25, 26] [4, 5, 6, 7, 8, 9, 10, 11, 12, 13, 14, 15, 16, 17, 18, 19, 20, 21, 22, 23, 24, 25, 26, 0, 1, 2, 3] rfl rfl rfl rfl rfl (by decide) rfl rfl rfl rfl rfl rfl hl.1 rfl rfl (Nat.le_of_ble_eq_true rfl) dX10_mixName_114 rfl (fun H locs hP hD hS => ?_)
  refine lv_i2l (v := Int32.toInt64 v114) hx hb dX10_mixName_117 rfl ?_
  obtain ⟨v118, hc118, hf⟩ := cb1_some hf
  refine kcRS (As := [.long v104, .long (Int32.toInt64 v114)]) (rest := []) (st1 := [.long v118]) C (c_ND_mix l D ct v104 (Int32.toInt64 v114) v118 hc118) ⟨rfl, rfl⟩ yn_yX10_mix tw_906 tw_905 ⟨Nat.le_of_ble_eq_true rfl, Nat.le_of_ble_eq_true rfl⟩ ⟨Nat.zero_le _, Nat.zero_le _⟩ hP [] rfl hl.1 rfl rfl (Nat.le_of_ble_eq_true rfl) dX10_mixName_118 rfl ?_
  obtain ⟨e1, e2, e3, e4, e5, e6, e7, e8, e9, e10, e11, e12, e13, e14, e15, e16, e17, e18, e19, e20, e21, e22, e23⟩ := ti23 hf
  subst e1; subst e2; subst e3; subst e4; subst e5; subst e6; subst e7; subst e8; subst e9; subst e10; subst e11; subst e12; subst e13; subst e14; subst e15; subst e16; subst e17; subst e18; subst e19; subst e20; subst e21; subst e22; subst e23
  exact kretMl C hP hD hS dX10_mixName_121
def RM_Mo_in : Room := { frames := 0, cells := 0, slots := 0, locals := 0 }
set_option maxHeartbeats 4000000 in
set_option maxRecDepth 100000 in
theorem c_Mo_in (l : Launch) (D : va_G) (ct : Nat → ClassId) (x0 : Int64) (x2 : Int64) (x4 : Int64) (r : Int32) (hf : Mo_in x0 x2 x4 = some r) : Met l yX11_in (WS yX11_in cX11_in 6 (some .boolean)) RM_Mo_in (va_Pc [.long x0, .long x2, .long x4] (PR D ct (w_Mo_in ct))) (QR (some (.int r))) 0 0 (fun _ => False) := by
  refine kMetR yn_yX11_in rfl (Nat.le_of_ble_eq_true rfl) ?_
  intro p e s m args below meth c C hP ls hl
  have hl : lv_has ls 6 [(0, .long x0), (2, .long x2), (4, .long x4)] := hl
  obtain ⟨hx, hb, hr, hml, hown, hts, hlk, hK, hN⟩ := id C
  unfold Mo_in at hf
  refine lv_lload_n hx hb dX11_in_0 rfl (lv_at hl 0 rfl) ?_
  refine lv_lload_n hx hb dX11_in_1 rfl (lv_at hl 1 rfl) ?_
  refine W.lcmp hx hb dX11_in_2 ?_
  refine lv_if_lt (tgt := 17) hx hb dX11_in_3 (by decide) (fun hc => ?_) (fun hc => ?_)
  · have hf := kpos hc hf
    refine lv_iconst (v := 0) hx hb dX11_in_17 (by decide) ?_
    have e1 := Option.some.inj hf
    subst e1
    exact kretRz C (by decide) dX11_in_18
  · have hf := kneg hc hf
    refine lv_lload_n hx hb dX11_in_6 rfl (lv_at hl 0 rfl) ?_
    refine lv_lload hx hb dX11_in_7 (lv_at hl 2 rfl) ?_
    refine W.lcmp hx hb dX11_in_9 ?_
    refine lv_if_gt (tgt := 17) hx hb dX11_in_10 (by decide) (fun hc => ?_) (fun hc => ?_)
    · have hf := kpos hc hf
      refine lv_iconst (v := 0) hx hb dX11_in_17 (by decide) ?_
      have e1 := Option.some.inj hf
      subst e1
      exact kretRz C (by decide) dX11_in_18
    · have hf := kneg hc hf
      refine lv_iconst (v := 1) hx hb dX11_in_13 (by decide) ?_
      refine lv_goto (tgt := 18) hx hb dX11_in_14 (by decide) ?_
      have e1 := Option.some.inj hf
      subst e1
      exact kretRz C (by decide) dX11_in_18
def RM_Mo_no : Room := { frames := 0, cells := 0, slots := 0, locals := 0 }
set_option maxHeartbeats 4000000 in
set_option maxRecDepth 100000 in
theorem c_Mo_no (l : Launch) (D : va_G) (ct : Nat → ClassId) (x0 : Int32) (r : Int64) (hf : Mo_no x0 = some r) : Met l yX11_no (WS yX11_no cX11_no 1 (some .long)) RM_Mo_no (va_Pc [.int x0] (PR D ct (w_Mo_no ct))) (QR (some (.long r))) 0 0 (fun _ => False) := by
  refine kMetR yn_yX11_no rfl (Nat.le_of_ble_eq_true rfl) ?_
  intro p e s m args below meth c C hP ls hl
  have hl : lv_has ls 1 [(0, .int x0)] := hl
  obtain ⟨hx, hb, hr, hml, hown, hts, hlk, hK, hN⟩ := id C
  unfold Mo_no at hf
  refine lv_ldc2 (v := (-9223372036854775808)) hx hb hown (hts _ tw_1188) dX11_no_0 ?_
  refine lv_iload_n hx hb dX11_no_3 rfl (lv_at hl 0 rfl) ?_
  refine lv_i2l (v := Int32.toInt64 x0) hx hb dX11_no_4 rfl ?_
  refine lv_lsub hx hb dX11_no_5 ?_
  have e1 := Option.some.inj hf
  subst e1
  exact kretRl C dX11_no_6
def RM_Mo_isTwo : Room := { frames := 1, cells := 0, slots := 0, locals := 25 }
set_option maxHeartbeats 4000000 in
set_option maxRecDepth 100000 in
theorem c_Mo_isTwo (l : Launch) (D : va_G) (ct : Nat → ClassId) (x0 : Int32) (r : Int32) (hf : Mo_isTwo x0 = some r) : Met l yX11_isTwo (WS yX11_isTwo cX11_isTwo 1 (some .boolean)) RM_Mo_isTwo (va_Pc [.int x0] (PR D ct (w_Mo_isTwo ct))) (QR (some (.int r))) 0 0 (fun _ => False) := by
  refine kMetR yn_yX11_isTwo rfl (Nat.le_of_ble_eq_true rfl) ?_
  intro p e s m args below meth c C hP ls hl
  have hl : lv_has ls 1 [(0, .int x0)] := hl
  obtain ⟨hx, hb, hr, hml, hown, hts, hlk, hK, hN⟩ := id C
  unfold Mo_isTwo at hf
  refine lv_iload_n hx hb dX11_isTwo_0 rfl (lv_at hl 0 rfl) ?_
  refine lv_i2l (v := Int32.toInt64 x0) hx hb dX11_isTwo_1 rfl ?_
  refine lv_lconst (v := 0) hx hb dX11_isTwo_2 (by decide) ?_
  refine lv_lconst (v := 1) hx hb dX11_isTwo_3 (by decide) ?_
  obtain ⟨v4, hc4, hf⟩ := cb1_some hf
  refine kcRS (As := [.long (Int32.toInt64 x0), .long 0, .long 1]) (rest := []) (st1 := [.int v4]) C (c_Mo_in l D ct (Int32.toInt64 x0) 0 1 v4 hc4) ⟨rfl, rfl⟩ yn_yX11_in tw_1030 tw_1029 ⟨Nat.le_of_ble_eq_true rfl, Nat.le_of_ble_eq_true rfl⟩ ⟨Nat.zero_le _, Nat.zero_le _⟩ hP [] rfl hl.1 rfl rfl (Nat.le_of_ble_eq_true rfl) dX11_isTwo_4 rfl ?_
  obtain ⟨hz, hf⟩ := gd_some hf
  have e1 := Option.some.inj hf
  subst e1
  exact kretRz C hz dX11_isTwo_7
def RM_Mo_isIn : Room := { frames := 0, cells := 0, slots := 0, locals := 0 }
set_option maxHeartbeats 4000000 in
set_option maxRecDepth 100000 in
theorem c_Mo_isIn (l : Launch) (D : va_G) (ct : Nat → ClassId) (x0 : Int32) (x1 : Int32) (r : Int32) (hf : Mo_isIn x0 x1 = some r) : Met l yX11_isIn (WS yX11_isIn cX11_isIn 2 (some .boolean)) RM_Mo_isIn (va_Pc [.int x0, .int x1] (PR D ct (w_Mo_isIn ct))) (QR (some (.int r))) 0 0 (fun _ => False) := by
  refine kMetR yn_yX11_isIn rfl (Nat.le_of_ble_eq_true rfl) ?_
  intro p e s m args below meth c C hP ls hl
  have hl : lv_has ls 2 [(0, .int x0), (1, .int x1)] := hl
  obtain ⟨hx, hb, hr, hml, hown, hts, hlk, hK, hN⟩ := id C
  unfold Mo_isIn at hf
  refine lv_iload_n hx hb dX11_isIn_0 rfl (lv_at hl 0 rfl) ?_
  refine lv_iload_n hx hb dX11_isIn_1 rfl (lv_at hl 1 rfl) ?_
  refine lv_ishr hx hb dX11_isIn_2 ?_
  refine lv_iconst (v := 1) hx hb dX11_isIn_3 (by decide) ?_
  refine lv_iand hx hb dX11_isIn_4 ?_
  refine lv_iconst (v := 1) hx hb dX11_isIn_5 (by decide) ?_
  refine lv_icmp_ne (tgt := 13) hx hb dX11_isIn_6 (by decide) (fun hc => ?_) (fun hc => ?_)
  · have hf := kneg hc hf
    refine lv_iconst (v := 0) hx hb dX11_isIn_13 (by decide) ?_
    have e1 := Option.some.inj hf
    subst e1
    exact kretRz C (by decide) dX11_isIn_14
  · have hf := kpos hc hf
    refine lv_iconst (v := 1) hx hb dX11_isIn_9 (by decide) ?_
    refine lv_goto (tgt := 14) hx hb dX11_isIn_10 (by decide) ?_
    have e1 := Option.some.inj hf
    subst e1
    exact kretRz C (by decide) dX11_isIn_14
def RM_Mo_ones : Room := { frames := 0, cells := 0, slots := 0, locals := 0 }
set_option maxHeartbeats 4000000 in
set_option maxRecDepth 100000 in
theorem t_Mo_ones_b4 {p : Program} {l : Launch} {e : Env} {s : State} {m : MethodId} {args : Array Value} {below : List Frame} {meth : Method} {c : Code} {D : va_G} {ct : Nat → ClassId} (C : CX p s m args meth c RX11 cX11_ones 3 (some .int) D ct) (F : Nat) (x0 : Int32) (r : Int32) (rec4 : Int32 → Int32 → Option Int32) (hr4 : ∀ (x1 : Int32) (x2 : Int32), rec4 x1 x2 = some r → va_P D vwCl (w_Mo_ones ct) s.heap → ∀ ls : Array Slot, lv_has ls 3 [(1, .int x1), (2, .int x2)] → W p l e RM_Mo_ones s m args below meth c s.heap [] 0 0 (MQ below (QR (some (.int r))) args s 0 0 (fun _ => False)) (F0 m 4 ls [])) : ∀ (x1 : Int32) (x2 : Int32), Mo_ones_b4 F x0 rec4 x1 x2 = some r → va_P D vwCl (w_Mo_ones ct) s.heap → ∀ ls : Array Slot, lv_has ls 3 [(1, .int x1), (2, .int x2)] → W p l e RM_Mo_ones s m args below meth c s.heap [] 0 0 (MQ below (QR (some (.int r))) args s 0 0 (fun _ => False)) (F0 m 4 ls []) := by
  obtain ⟨hx, hb, hr, hml, hown, hts, hlk, hK, hN⟩ := id C
  intro x1 x2 hf hP ls hl
  unfold Mo_ones_b4 at hf
  refine lv_iload_n hx hb dX11_ones_4 rfl (lv_at hl 1 rfl) ?_
  refine lv_if_eq (tgt := 20) hx hb dX11_ones_5 (by decide) (fun hc => ?_) (fun hc => ?_)
  · have hf := kpos hc hf
    refine lv_iload_n hx hb dX11_ones_20 rfl (lv_at hl 0 rfl) ?_
    have e1 := Option.some.inj hf
    subst e1
    exact kretR C dX11_ones_21
  · have hf := kneg hc hf
    refine lv_iinc (v := x1 + 1) (lv' := [(1, .int (x1 + 1)), (2, .int x2)]) hx hb dX11_ones_8 hl (k := 0) rfl rfl (by decide) rfl (fun ls hl => ?_)
    refine lv_iload_n hx hb dX11_ones_11 rfl (lv_at hl 1 rfl) ?_
    refine lv_iload_n hx hb dX11_ones_12 rfl (lv_at hl 1 rfl) ?_
    refine lv_iconst (v := 1) hx hb dX11_ones_13 (by decide) ?_
    refine lv_isub hx hb dX11_ones_14 ?_
    refine lv_iand hx hb dX11_ones_15 ?_
    refine lv_istore_n (lv' := [(2, .int (x2 &&& (x2 - 1))), (1, .int (x1 + 1))]) hx hb dX11_ones_16 rfl hl (by decide) rfl (fun ls hl => ?_)
    refine lv_goto (tgt := 4) hx hb dX11_ones_17 (by decide) ?_
    exact hr4 (x1 + 1) (x2 &&& (x2 - 1)) hf hP _ (lv_sub hl [1, 0] rfl)
set_option maxHeartbeats 4000000 in
set_option maxRecDepth 100000 in
theorem t_Mo_ones_l4 {p : Program} {l : Launch} {e : Env} {s : State} {m : MethodId} {args : Array Value} {below : List Frame} {meth : Method} {c : Code} {D : va_G} {ct : Nat → ClassId} (C : CX p s m args meth c RX11 cX11_ones 3 (some .int) D ct) (F : Nat) (x0 : Int32) (r : Int32) : ∀ (n : Nat) (x1 : Int32) (x2 : Int32), Mo_ones_l4 F x0 n x1 x2 = some r → va_P D vwCl (w_Mo_ones ct) s.heap → ∀ ls : Array Slot, lv_has ls 3 [(1, .int x1), (2, .int x2)] → W p l e RM_Mo_ones s m args below meth c s.heap [] 0 0 (MQ below (QR (some (.int r))) args s 0 0 (fun _ => False)) (F0 m 4 ls []) := by
  intro n
  induction n with
  | zero =>
    intro x1 x2 hf
    exact absurd hf (by simp [Mo_ones_l4])
  | succ n ih =>
    intro x1 x2 hf
    exact t_Mo_ones_b4 C F x0 r (Mo_ones_l4 F x0 n) ih x1 x2 hf
set_option maxHeartbeats 4000000 in
set_option maxRecDepth 100000 in
theorem c_Mo_ones (l : Launch) (D : va_G) (ct : Nat → ClassId) (F : Nat) (x0 : Int32) (r : Int32) (hf : Mo_ones F x0 = some r) : Met l yX11_ones (WS yX11_ones cX11_ones 3 (some .int)) RM_Mo_ones (va_Pc [.int x0] (PR D ct (w_Mo_ones ct))) (QR (some (.int r))) 0 0 (fun _ => False) := by
  refine kMetR yn_yX11_ones rfl (Nat.le_of_ble_eq_true rfl) ?_
  intro p e s m args below meth c C hP ls hl
  have hl : lv_has ls 3 [(0, .int x0)] := hl
  obtain ⟨hx, hb, hr, hml, hown, hts, hlk, hK, hN⟩ := id C
  unfold Mo_ones at hf
  refine lv_iconst (v := 0) hx hb dX11_ones_0 (by decide) ?_
  refine lv_istore_n (lv' := [(1, .int 0), (0, .int x0)]) hx hb dX11_ones_1 rfl hl (by decide) rfl (fun ls hl => ?_)
  refine lv_iload_n hx hb dX11_ones_2 rfl (lv_at hl 1 rfl) ?_
  refine lv_istore_n (lv' := [(2, .int x0), (1, .int 0), (0, .int x0)]) hx hb dX11_ones_3 rfl hl (by decide) rfl (fun ls hl => ?_)
  exact t_Mo_ones_l4 C F x0 r F 0 x0 hf hP _ (lv_sub hl [1, 0] rfl)
def RM_Mo_met : Room := { frames := 0, cells := 0, slots := 0, locals := 0 }
set_option maxHeartbeats 4000000 in
set_option maxRecDepth 100000 in
theorem c_Mo_met (l : Launch) (D : va_G) (ct : Nat → ClassId) (a_this a_forms a_sizes a_items a_moved a_bytes a_typed a_chances a_longs a_letters a_isThere a_pieceLongs a_pieceLetters a_song a_settings a_guess a_row a_least a_nights : Nat) (f_at : Int32) (f_names : Int32) (f_pieces : Int32) (f_songLong : Int32) (f_guesses : Int32) (f_todo : Int32) (f_latest : Int32) (x1 : Int32) (r : Int32) (r_latest : Int32) (sz : Nat) (hf : Mo_met f_latest x1 = some (r, r_latest)) : Met l yX11_met (WS yX11_met cX11_met 2 (some .int)) RM_Mo_met (va_Pc [.ref a_this, .int x1] (PM D ct sz (w_Mo_met ct a_this a_forms a_sizes a_items a_moved a_bytes a_typed a_chances a_longs a_letters a_isThere a_pieceLongs a_pieceLetters a_song a_settings a_guess a_row a_least a_nights f_latest f_at f_names f_pieces f_songLong f_guesses f_todo))) (QM D (some (.int r)) (w_Mo_met ct a_this a_forms a_sizes a_items a_moved a_bytes a_typed a_chances a_longs a_letters a_isThere a_pieceLongs a_pieceLetters a_song a_settings a_guess a_row a_least a_nights r_latest f_at f_names f_pieces f_songLong f_guesses f_todo) (va_A (w_Mo_met ct a_this a_forms a_sizes a_items a_moved a_bytes a_typed a_chances a_longs a_letters a_isThere a_pieceLongs a_pieceLetters a_song a_settings a_guess a_row a_least a_nights f_latest f_at f_names f_pieces f_songLong f_guesses f_todo) sz)) 0 0 (va_A (w_Mo_met ct a_this a_forms a_sizes a_items a_moved a_bytes a_typed a_chances a_longs a_letters a_isThere a_pieceLongs a_pieceLetters a_song a_settings a_guess a_row a_least a_nights f_latest f_at f_names f_pieces f_songLong f_guesses f_todo) sz) := by
  refine kMetM yn_yX11_met rfl (Nat.le_of_ble_eq_true rfl) ?_
  intro p e s m args below meth c A C hA hP hD ls hl
  have hl : lv_has ls 2 [(0, .ref a_this), (1, .int x1)] := hl
  have hS : va_S A s.heap s.heap [] := va_S.rf
  obtain ⟨hx, hb, hr, hml, hown, hts, hlk, hK, hN⟩ := id C
  unfold Mo_met at hf
  refine lv_aload_n hx hb dX11_met_0 rfl (lv_at hl 0 rfl) ?_
  refine lv_iload_n hx hb dX11_met_1 rfl (lv_at hl 1 rfl) ?_
  refine va_put (ci := 11) (v := .int x1) (ty := .int) (C := RX11) (T := TX11) (N := 25) hx hb hts inX11 tyX11 tyX11_ok nmX11 hown hK hP hD hS 0 rfl rfl 4 (by decide) (hts _ tw_948) (fun _ h9 => h9) rfl (tyX11_ok 4 (by decide)) rfl rfl (Nat.le_of_ble_eq_true rfl) dX11_met_2 (fun H locs hP hD hS => ?_)
  have hP : va_P D vwCl (w_Mo_met ct a_this a_forms a_sizes a_items a_moved a_bytes a_typed a_chances a_longs a_letters a_isThere a_pieceLongs a_pieceLetters a_song a_settings a_guess a_row a_least a_nights x1 f_at f_names f_pieces f_songLong f_guesses f_todo) H := hP
  have hD : va_D A (w_Mo_met ct a_this a_forms a_sizes a_items a_moved a_bytes a_typed a_chances a_longs a_letters a_isThere a_pieceLongs a_pieceLetters a_song a_settings a_guess a_row a_least a_nights x1 f_at f_names f_pieces f_songLong f_guesses f_todo) := hD
  refine lv_bipush (v := (-10)) hx hb dX11_met_5 (by decide) ?_
  refine lv_iload_n hx hb dX11_met_7 rfl (lv_at hl 1 rfl) ?_
  refine lv_isub hx hb dX11_met_8 ?_
  obtain ⟨e1, e2⟩ := ti2 hf
  subst e1; subst e2
  exact kretM C hP hD hS dX11_met_9
def RM_Mo_isSheet : Room := { frames := 1, cells := 0, slots := 0, locals := 25 }
set_option maxHeartbeats 4000000 in
set_option maxRecDepth 100000 in
theorem c_Mo_isSheet (l : Launch) (D : va_G) (ct : Nat → ClassId) (x0 : Int32) (r : Int32) (hf : Mo_isSheet x0 = some r) : Met l yX11_isSheet (WS yX11_isSheet cX11_isSheet 1 (some .boolean)) RM_Mo_isSheet (va_Pc [.int x0] (PR D ct (w_Mo_isSheet ct))) (QR (some (.int r))) 0 0 (fun _ => False) := by
  refine kMetR yn_yX11_isSheet rfl (Nat.le_of_ble_eq_true rfl) ?_
  intro p e s m args below meth c C hP ls hl
  have hl : lv_has ls 1 [(0, .int x0)] := hl
  obtain ⟨hx, hb, hr, hml, hown, hts, hlk, hK, hN⟩ := id C
  unfold Mo_isSheet at hf
  refine lv_iload_n hx hb dX11_isSheet_0 rfl (lv_at hl 0 rfl) ?_
  refine lv_i2l (v := Int32.toInt64 x0) hx hb dX11_isSheet_1 rfl ?_
  refine lv_lconst (v := 0) hx hb dX11_isSheet_2 (by decide) ?_
  refine lv_ldc2 (v := 3) hx hb hown (hts _ tw_1028) dX11_isSheet_3 ?_
  obtain ⟨v6, hc6, hf⟩ := cb1_some hf
  refine kcRS (As := [.long (Int32.toInt64 x0), .long 0, .long 3]) (rest := []) (st1 := [.int v6]) C (c_Mo_in l D ct (Int32.toInt64 x0) 0 3 v6 hc6) ⟨rfl, rfl⟩ yn_yX11_in tw_1030 tw_1029 ⟨Nat.le_of_ble_eq_true rfl, Nat.le_of_ble_eq_true rfl⟩ ⟨Nat.zero_le _, Nat.zero_le _⟩ hP [] rfl hl.1 rfl rfl (Nat.le_of_ble_eq_true rfl) dX11_isSheet_6 rfl ?_
  obtain ⟨hz, hf⟩ := gd_some hf
  have e1 := Option.some.inj hf
  subst e1
  exact kretRz C hz dX11_isSheet_9
def RM_Mo_sheet : Room := { frames := 2, cells := 0, slots := 0, locals := 45 }
set_option maxHeartbeats 4000000 in
set_option maxRecDepth 100000 in
theorem t_Mo_sheet_b55 {p : Program} {l : Launch} {e : Env} {s : State} {m : MethodId} {args : Array Value} {below : List Frame} {meth : Method} {c : Code} {D : va_G} {ct : Nat → ClassId} (C : CX p s m args meth c RX11 cX11_sheet 5 (some .int) D ct) {A : Nat → Prop} (hA : ∀ q : Nat, s.heap.size ≤ q → A q) (a_this a_forms a_sizes a_items a_moved a_bytes a_typed a_chances a_longs a_letters a_isThere a_pieceLongs a_pieceLetters a_song a_settings a_guess a_row a_least a_nights : Nat) (f_at : Int32) (f_names : Int32) (f_pieces : Int32) (f_songLong : Int32) (f_guesses : Int32) (f_todo : Int32) (F : Nat) (x1 : Int32) (x2 : Int32) (x3 : Int32) (r : Int32) (r_latest : Int32) (r_forms : Nat → Int32) (r_sizes : Nat → Int32) (r_items : Nat → Int32) (rec55 : Int32 → Int32 → (Nat → Int32) → (Nat → Int32) → (Nat → Int32) → Option (Int32 × Int32 × (Nat → Int32) × (Nat → Int32) × (Nat → Int32))) (hr55 : ∀ (x4 : Int32) (f_latest : Int32) (f_forms : Nat → Int32) (f_sizes : Nat → Int32) (f_items : Nat → Int32), rec55 x4 f_latest f_forms f_sizes f_items = some (r, r_latest, r_forms, r_sizes, r_items) → ∀ (H : Heap) (locs : List Loc), va_P D vwCl (w_Mo_sheet ct a_this a_forms a_sizes a_items a_moved a_bytes a_typed a_chances a_longs a_letters a_isThere a_pieceLongs a_pieceLetters a_song a_settings a_guess a_row a_least a_nights f_latest f_at f_names f_pieces f_songLong f_guesses f_todo f_forms f_sizes f_items) H → va_D A (w_Mo_sheet ct a_this a_forms a_sizes a_items a_moved a_bytes a_typed a_chances a_longs a_letters a_isThere a_pieceLongs a_pieceLetters a_song a_settings a_guess a_row a_least a_nights f_latest f_at f_names f_pieces f_songLong f_guesses f_todo f_forms f_sizes f_items) → va_S A s.heap H locs → ∀ ls : Array Slot, lv_has ls 5 [(0, .ref a_this), (1, .int x1), (3, .int x3), (4, .int x4)] → W p l e RM_Mo_sheet s m args below meth c H locs 0 0 (MQ below (QM D (some (.int r)) (w_Mo_sheet ct a_this a_forms a_sizes a_items a_moved a_bytes a_typed a_chances a_longs a_letters a_isThere a_pieceLongs a_pieceLetters a_song a_settings a_guess a_row a_least a_nights r_latest f_at f_names f_pieces f_songLong f_guesses f_todo r_forms r_sizes r_items) A) args s 0 0 A) (F0 m 55 ls [])) : ∀ (x4 : Int32) (f_latest : Int32) (f_forms : Nat → Int32) (f_sizes : Nat → Int32) (f_items : Nat → Int32), Mo_sheet_b55 F x1 x2 x3 rec55 x4 f_latest f_forms f_sizes f_items = some (r, r_latest, r_forms, r_sizes, r_items) → ∀ (H : Heap) (locs : List Loc), va_P D vwCl (w_Mo_sheet ct a_this a_forms a_sizes a_items a_moved a_bytes a_typed a_chances a_longs a_letters a_isThere a_pieceLongs a_pieceLetters a_song a_settings a_guess a_row a_least a_nights f_latest f_at f_names f_pieces f_songLong f_guesses f_todo f_forms f_sizes f_items) H → va_D A (w_Mo_sheet ct a_this a_forms a_sizes a_items a_moved a_bytes a_typed a_chances a_longs a_letters a_isThere a_pieceLongs a_pieceLetters a_song a_settings a_guess a_row a_least a_nights f_latest f_at f_names f_pieces f_songLong f_guesses f_todo f_forms f_sizes f_items) → va_S A s.heap H locs → ∀ ls : Array Slot, lv_has ls 5 [(0, .ref a_this), (1, .int x1), (3, .int x3), (4, .int x4)] → W p l e RM_Mo_sheet s m args below meth c H locs 0 0 (MQ below (QM D (some (.int r)) (w_Mo_sheet ct a_this a_forms a_sizes a_items a_moved a_bytes a_typed a_chances a_longs a_letters a_isThere a_pieceLongs a_pieceLetters a_song a_settings a_guess a_row a_least a_nights r_latest f_at f_names f_pieces f_songLong f_guesses f_todo r_forms r_sizes r_items) A) args s 0 0 A) (F0 m 55 ls []) := by
  obtain ⟨hx, hb, hr, hml, hown, hts, hlk, hK, hN⟩ := id C
  intro x4 f_latest f_forms f_sizes f_items hf H locs hP hD hS ls hl
  unfold Mo_sheet_b55 at hf
  refine lv_iload hx hb dX11_sheet_55 (lv_at hl 3 rfl) ?_
  refine lv_iload_n hx hb dX11_sheet_57 rfl (lv_at hl 2 rfl) ?_
  refine lv_icmp_ge (tgt := 80) hx hb dX11_sheet_58 (by decide) (fun hc => ?_) (fun hc => ?_)
  · have hf := kpos hc hf
    refine lv_iload_n hx hb dX11_sheet_80 rfl (lv_at hl 2 rfl) ?_
    obtain ⟨e1, e2, e3, e4, e5⟩ := ti5 hf
    subst e1; subst e2; subst e3; subst e4; subst e5
    exact kretM C hP hD hS dX11_sheet_81
  · have hf := kneg hc hf
    refine lv_aload_n hx hb dX11_sheet_61 rfl (lv_at hl 0 rfl) ?_
    refine va_get (ci := 11) (v := .ref a_items) (C := RX11) (T := TX11) (N := 25) hx hb hts inX11 hown hK hP 0 rfl rfl 2 (by decide) (hts _ tw_946) (fun _ h9 => h9) rfl dX11_sheet_62 ?_
    refine lv_bipush (v := 60) hx hb dX11_sheet_65 (by decide) ?_
    refine lv_iload_n hx hb dX11_sheet_67 rfl (lv_at hl 1 rfl) ?_
    refine lv_imul hx hb dX11_sheet_68 ?_
    refine lv_iload hx hb dX11_sheet_69 (lv_at hl 3 rfl) ?_
    refine lv_iadd hx hb dX11_sheet_71 ?_
    refine lv_iconst (v := 0) hx hb dX11_sheet_72 (by decide) ?_
    obtain ⟨hin, f_items_73, ev73, hf⟩ := wr_ex hf
    refine kiast hx hb hK hP hD hS 3 0 rfl rfl hin ev73 dX11_sheet_73 (fun H locs hP hD hS => ?_)
    have hP : va_P D vwCl (w_Mo_sheet ct a_this a_forms a_sizes a_items a_moved a_bytes a_typed a_chances a_longs a_letters a_isThere a_pieceLongs a_pieceLetters a_song a_settings a_guess a_row a_least a_nights f_latest f_at f_names f_pieces f_songLong f_guesses f_todo f_forms f_sizes f_items_73) H := hP
    have hD : va_D A (w_Mo_sheet ct a_this a_forms a_sizes a_items a_moved a_bytes a_typed a_chances a_longs a_letters a_isThere a_pieceLongs a_pieceLetters a_song a_settings a_guess a_row a_least a_nights f_latest f_at f_names f_pieces f_songLong f_guesses f_todo f_forms f_sizes f_items_73) := hD
    refine lv_iinc (v := x4 + 1) (lv' := [(4, .int (x4 + 1)), (0, .ref a_this), (1, .int x1), (3, .int x3)]) hx hb dX11_sheet_74 hl (k := 3) rfl rfl (by decide) rfl (fun ls hl => ?_)
    refine lv_goto (tgt := 55) hx hb dX11_sheet_77 (by decide) ?_
    exact hr55 (x4 + 1) f_latest f_forms f_sizes f_items_73 hf _ _ hP hD hS _ (lv_sub hl [1, 2, 3, 0] rfl)
set_option maxHeartbeats 4000000 in
set_option maxRecDepth 100000 in
theorem t_Mo_sheet_l55 {p : Program} {l : Launch} {e : Env} {s : State} {m : MethodId} {args : Array Value} {below : List Frame} {meth : Method} {c : Code} {D : va_G} {ct : Nat → ClassId} (C : CX p s m args meth c RX11 cX11_sheet 5 (some .int) D ct) {A : Nat → Prop} (hA : ∀ q : Nat, s.heap.size ≤ q → A q) (a_this a_forms a_sizes a_items a_moved a_bytes a_typed a_chances a_longs a_letters a_isThere a_pieceLongs a_pieceLetters a_song a_settings a_guess a_row a_least a_nights : Nat) (f_at : Int32) (f_names : Int32) (f_pieces : Int32) (f_songLong : Int32) (f_guesses : Int32) (f_todo : Int32) (F : Nat) (x1 : Int32) (x2 : Int32) (x3 : Int32) (r : Int32) (r_latest : Int32) (r_forms : Nat → Int32) (r_sizes : Nat → Int32) (r_items : Nat → Int32) : ∀ (n : Nat) (x4 : Int32) (f_latest : Int32) (f_forms : Nat → Int32) (f_sizes : Nat → Int32) (f_items : Nat → Int32), Mo_sheet_l55 F x1 x2 x3 n x4 f_latest f_forms f_sizes f_items = some (r, r_latest, r_forms, r_sizes, r_items) → ∀ (H : Heap) (locs : List Loc), va_P D vwCl (w_Mo_sheet ct a_this a_forms a_sizes a_items a_moved a_bytes a_typed a_chances a_longs a_letters a_isThere a_pieceLongs a_pieceLetters a_song a_settings a_guess a_row a_least a_nights f_latest f_at f_names f_pieces f_songLong f_guesses f_todo f_forms f_sizes f_items) H → va_D A (w_Mo_sheet ct a_this a_forms a_sizes a_items a_moved a_bytes a_typed a_chances a_longs a_letters a_isThere a_pieceLongs a_pieceLetters a_song a_settings a_guess a_row a_least a_nights f_latest f_at f_names f_pieces f_songLong f_guesses f_todo f_forms f_sizes f_items) → va_S A s.heap H locs → ∀ ls : Array Slot, lv_has ls 5 [(0, .ref a_this), (1, .int x1), (3, .int x3), (4, .int x4)] → W p l e RM_Mo_sheet s m args below meth c H locs 0 0 (MQ below (QM D (some (.int r)) (w_Mo_sheet ct a_this a_forms a_sizes a_items a_moved a_bytes a_typed a_chances a_longs a_letters a_isThere a_pieceLongs a_pieceLetters a_song a_settings a_guess a_row a_least a_nights r_latest f_at f_names f_pieces f_songLong f_guesses f_todo r_forms r_sizes r_items) A) args s 0 0 A) (F0 m 55 ls []) := by
  intro n
  induction n with
  | zero =>
    intro x4 f_latest f_forms f_sizes f_items hf
    exact absurd hf (by simp [Mo_sheet_l55])
  | succ n ih =>
    intro x4 f_latest f_forms f_sizes f_items hf
    exact t_Mo_sheet_b55 C hA a_this a_forms a_sizes a_items a_moved a_bytes a_typed a_chances a_longs a_letters a_isThere a_pieceLongs a_pieceLetters a_song a_settings a_guess a_row a_least a_nights f_at f_names f_pieces f_songLong f_guesses f_todo F x1 x2 x3 r r_latest r_forms r_sizes r_items (Mo_sheet_l55 F x1 x2 x3 n) ih x4 f_latest f_forms f_sizes f_items hf
set_option maxHeartbeats 4000000 in
set_option maxRecDepth 100000 in
theorem c_Mo_sheet (l : Launch) (D : va_G) (ct : Nat → ClassId) (a_this a_forms a_sizes a_items a_moved a_bytes a_typed a_chances a_longs a_letters a_isThere a_pieceLongs a_pieceLetters a_song a_settings a_guess a_row a_least a_nights : Nat) (f_at : Int32) (f_names : Int32) (f_pieces : Int32) (f_songLong : Int32) (f_guesses : Int32) (f_todo : Int32) (F : Nat) (f_latest : Int32) (f_forms : Nat → Int32) (f_sizes : Nat → Int32) (f_items : Nat → Int32) (x1 : Int32) (x2 : Int32) (x3 : Int32) (r : Int32) (r_latest : Int32) (r_forms : Nat → Int32) (r_sizes : Nat → Int32) (r_items : Nat → Int32) (sz : Nat) (hf : Mo_sheet F f_latest f_forms f_sizes f_items x1 x2 x3 = some (r, r_latest, r_forms, r_sizes, r_items)) : Met l yX11_sheet (WS yX11_sheet cX11_sheet 5 (some .int)) RM_Mo_sheet (va_Pc [.ref a_this, .int x1, .int x2, .int x3] (PM D ct sz (w_Mo_sheet ct a_this a_forms a_sizes a_items a_moved a_bytes a_typed a_chances a_longs a_letters a_isThere a_pieceLongs a_pieceLetters a_song a_settings a_guess a_row a_least a_nights f_latest f_at f_names f_pieces f_songLong f_guesses f_todo f_forms f_sizes f_items))) (QM D (some (.int r)) (w_Mo_sheet ct a_this a_forms a_sizes a_items a_moved a_bytes a_typed a_chances a_longs a_letters a_isThere a_pieceLongs a_pieceLetters a_song a_settings a_guess a_row a_least a_nights r_latest f_at f_names f_pieces f_songLong f_guesses f_todo r_forms r_sizes r_items) (va_A (w_Mo_sheet ct a_this a_forms a_sizes a_items a_moved a_bytes a_typed a_chances a_longs a_letters a_isThere a_pieceLongs a_pieceLetters a_song a_settings a_guess a_row a_least a_nights f_latest f_at f_names f_pieces f_songLong f_guesses f_todo f_forms f_sizes f_items) sz)) 0 0 (va_A (w_Mo_sheet ct a_this a_forms a_sizes a_items a_moved a_bytes a_typed a_chances a_longs a_letters a_isThere a_pieceLongs a_pieceLetters a_song a_settings a_guess a_row a_least a_nights f_latest f_at f_names f_pieces f_songLong f_guesses f_todo f_forms f_sizes f_items) sz) := by
  refine kMetM yn_yX11_sheet rfl (Nat.le_of_ble_eq_true rfl) ?_
  intro p e s m args below meth c A C hA hP hD ls hl
  have hl : lv_has ls 5 [(0, .ref a_this), (1, .int x1), (2, .int x2), (3, .int x3)] := hl
  have hS : va_S A s.heap s.heap [] := va_S.rf
  obtain ⟨hx, hb, hr, hml, hown, hts, hlk, hK, hN⟩ := id C
  unfold Mo_sheet at hf
  refine lv_iload_n hx hb dX11_sheet_0 rfl (lv_at hl 1 rfl) ?_
  obtain ⟨v1, hc1, hf⟩ := cb1_some hf
  refine kcRS (As := [.int x1]) (rest := []) (st1 := [.int v1]) C (c_Mo_isSheet l D ct x1 v1 hc1) ⟨rfl, rfl⟩ yn_yX11_isSheet tw_1026 tw_1025 ⟨Nat.le_of_ble_eq_true rfl, Nat.le_of_ble_eq_true rfl⟩ ⟨Nat.zero_le _, Nat.zero_le _⟩ hP [] rfl hl.1 rfl rfl (Nat.le_of_ble_eq_true rfl) dX11_sheet_1 rfl ?_
  refine lv_if_eq (tgt := 25) hx hb dX11_sheet_4 (by decide) (fun hc => ?_) (fun hc => ?_)
  · have hf := kpos hc hf
    refine lv_bipush (v := (-2)) hx hb dX11_sheet_25 (by decide) ?_
    obtain ⟨e1, e2, e3, e4, e5⟩ := ti5 hf
    subst e1; subst e2; subst e3; subst e4; subst e5
    exact kretM C hP hD hS dX11_sheet_27
  · have hf := kneg hc hf
    refine lv_iload_n hx hb dX11_sheet_7 rfl (lv_at hl 2 rfl) ?_
    refine lv_i2l (v := Int32.toInt64 x2) hx hb dX11_sheet_8 rfl ?_
    refine lv_lconst (v := 0) hx hb dX11_sheet_9 (by decide) ?_
    refine lv_ldc2 (v := 2) hx hb hown (hts _ tw_1032) dX11_sheet_10 ?_
    obtain ⟨v13, hc13, hf⟩ := cb1_some hf
    refine kcRS (As := [.long (Int32.toInt64 x2), .long 0, .long 2]) (rest := []) (st1 := [.int v13]) C (c_Mo_in l D ct (Int32.toInt64 x2) 0 2 v13 hc13) ⟨rfl, rfl⟩ yn_yX11_in tw_1030 tw_1029 ⟨Nat.le_of_ble_eq_true rfl, Nat.le_of_ble_eq_true rfl⟩ ⟨Nat.zero_le _, Nat.zero_le _⟩ hP [] rfl hl.1 rfl rfl (Nat.le_of_ble_eq_true rfl) dX11_sheet_13 rfl ?_
    refine lv_if_eq (tgt := 25) hx hb dX11_sheet_16 (by decide) (fun hc => ?_) (fun hc => ?_)
    · have hf := kpos hc hf
      refine lv_bipush (v := (-2)) hx hb dX11_sheet_25 (by decide) ?_
      obtain ⟨e1, e2, e3, e4, e5⟩ := ti5 hf
      subst e1; subst e2; subst e3; subst e4; subst e5
      exact kretM C hP hD hS dX11_sheet_27
    · have hf := kneg hc hf
      refine lv_iload_n hx hb dX11_sheet_19 rfl (lv_at hl 3 rfl) ?_
      refine lv_bipush (v := 60) hx hb dX11_sheet_20 (by decide) ?_
      refine lv_icmp_le (tgt := 28) hx hb dX11_sheet_22 (by decide) (fun hc => ?_) (fun hc => ?_)
      · have hf := kpos hc hf
        refine lv_iload_n hx hb dX11_sheet_28 rfl (lv_at hl 3 rfl) ?_
        refine lv_if_ge (tgt := 38) hx hb dX11_sheet_29 (by decide) (fun hc => ?_) (fun hc => ?_)
        · have hf := kpos hc hf
          refine lv_aload_n hx hb dX11_sheet_38 rfl (lv_at hl 0 rfl) ?_
          refine va_get (ci := 11) (v := .ref a_forms) (C := RX11) (T := TX11) (N := 25) hx hb hts inX11 hown hK hP 0 rfl rfl 0 (by decide) (hts _ tw_944) (fun _ h9 => h9) rfl dX11_sheet_39 ?_
          refine lv_iload_n hx hb dX11_sheet_42 rfl (lv_at hl 1 rfl) ?_
          refine lv_iload_n hx hb dX11_sheet_43 rfl (lv_at hl 2 rfl) ?_
          obtain ⟨hin, f_forms_44, ev44, hf⟩ := wr_ex hf
          refine kiast hx hb hK hP hD hS 1 0 rfl rfl hin ev44 dX11_sheet_44 (fun H locs hP hD hS => ?_)
          have hP : va_P D vwCl (w_Mo_sheet ct a_this a_forms a_sizes a_items a_moved a_bytes a_typed a_chances a_longs a_letters a_isThere a_pieceLongs a_pieceLetters a_song a_settings a_guess a_row a_least a_nights f_latest f_at f_names f_pieces f_songLong f_guesses f_todo f_forms_44 f_sizes f_items) H := hP
          have hD : va_D A (w_Mo_sheet ct a_this a_forms a_sizes a_items a_moved a_bytes a_typed a_chances a_longs a_letters a_isThere a_pieceLongs a_pieceLetters a_song a_settings a_guess a_row a_least a_nights f_latest f_at f_names f_pieces f_songLong f_guesses f_todo f_forms_44 f_sizes f_items) := hD
          refine lv_aload_n hx hb dX11_sheet_45 rfl (lv_at hl 0 rfl) ?_
          refine va_get (ci := 11) (v := .ref a_sizes) (C := RX11) (T := TX11) (N := 25) hx hb hts inX11 hown hK hP 0 rfl rfl 1 (by decide) (hts _ tw_945) (fun _ h9 => h9) rfl dX11_sheet_46 ?_
          refine lv_iload_n hx hb dX11_sheet_49 rfl (lv_at hl 1 rfl) ?_
          refine lv_iload_n hx hb dX11_sheet_50 rfl (lv_at hl 3 rfl) ?_
          obtain ⟨hin, f_sizes_51, ev51, hf⟩ := wr_ex hf
          refine kiast hx hb hK hP hD hS 2 0 rfl rfl hin ev51 dX11_sheet_51 (fun H locs hP hD hS => ?_)
          have hP : va_P D vwCl (w_Mo_sheet ct a_this a_forms a_sizes a_items a_moved a_bytes a_typed a_chances a_longs a_letters a_isThere a_pieceLongs a_pieceLetters a_song a_settings a_guess a_row a_least a_nights f_latest f_at f_names f_pieces f_songLong f_guesses f_todo f_forms_44 f_sizes_51 f_items) H := hP
          have hD : va_D A (w_Mo_sheet ct a_this a_forms a_sizes a_items a_moved a_bytes a_typed a_chances a_longs a_letters a_isThere a_pieceLongs a_pieceLetters a_song a_settings a_guess a_row a_least a_nights f_latest f_at f_names f_pieces f_songLong f_guesses f_todo f_forms_44 f_sizes_51 f_items) := hD
          refine lv_iconst (v := 0) hx hb dX11_sheet_52 (by decide) ?_
          refine lv_istore (lv' := [(4, .int 0), (0, .ref a_this), (1, .int x1), (2, .int x2), (3, .int x3)]) hx hb dX11_sheet_53 hl (by decide) rfl (fun ls hl => ?_)
          exact t_Mo_sheet_l55 C hA a_this a_forms a_sizes a_items a_moved a_bytes a_typed a_chances a_longs a_letters a_isThere a_pieceLongs a_pieceLetters a_song a_settings a_guess a_row a_least a_nights f_at f_names f_pieces f_songLong f_guesses f_todo F x1 x2 x3 r r_latest r_forms r_sizes r_items F 0 f_latest f_forms_44 f_sizes_51 f_items hf _ _ hP hD hS _ (lv_sub hl [1, 2, 4, 0] rfl)
        · have hf := kneg hc hf
          refine lv_aload_n hx hb dX11_sheet_32 rfl (lv_at hl 0 rfl) ?_
          refine lv_iconst (v := 5) hx hb dX11_sheet_33 (by decide) ?_
          obtain ⟨v34, f_latest_34, hc34, hf⟩ := cb2_some hf
          refine kcMV (q0 := 0) (ci := 11) (As := [.int 5]) (rest := []) (st1 := [.int v34]) (wf := (w_Mo_sheet ct a_this a_forms a_sizes a_items a_moved a_bytes a_typed a_chances a_longs a_letters a_isThere a_pieceLongs a_pieceLetters a_song a_settings a_guess a_row a_least a_nights f_latest_34 f_at f_names f_pieces f_songLong f_guesses f_todo f_forms f_sizes f_items)) C (c_Mo_met l D ct a_this a_forms a_sizes a_items a_moved a_bytes a_typed a_chances a_longs a_letters a_isThere a_pieceLongs a_pieceLetters a_song a_settings a_guess a_row a_least a_nights f_at f_names f_pieces f_songLong f_guesses f_todo f_latest 5 v34 f_latest_34 _ hc34) ⟨rfl, rfl⟩ yn_yX11_met tw_1035 tw_25 tw_1033 ⟨Nat.le_of_ble_eq_true rfl, Nat.le_of_ble_eq_true rfl⟩ ⟨Nat.zero_le _, Nat.zero_le _⟩ hP hD hS hA [0] [1, 2, 3] [3, 0, 1, 2] rfl rfl rfl rfl rfl (by decide) rfl rfl rfl rfl rfl rfl hl.1 rfl rfl (Nat.le_of_ble_eq_true rfl) dX11_sheet_34 rfl (fun H locs hP hD hS => ?_)
          obtain ⟨e1, e2, e3, e4, e5⟩ := ti5 hf
          subst e1; subst e2; subst e3; subst e4; subst e5
          exact kretM C hP hD hS dX11_sheet_37
      · have hf := kneg hc hf
        refine lv_bipush (v := (-2)) hx hb dX11_sheet_25 (by decide) ?_
        obtain ⟨e1, e2, e3, e4, e5⟩ := ti5 hf
        subst e1; subst e2; subst e3; subst e4; subst e5
        exact kretM C hP hD hS dX11_sheet_27
def RM_Mo_lose : Room := { frames := 2, cells := 0, slots := 0, locals := 45 }
set_option maxHeartbeats 4000000 in
set_option maxRecDepth 100000 in
theorem c_Mo_lose (l : Launch) (D : va_G) (ct : Nat → ClassId) (a_this a_forms a_sizes a_items a_moved a_bytes a_typed a_chances a_longs a_letters a_isThere a_pieceLongs a_pieceLetters a_song a_settings a_guess a_row a_least a_nights : Nat) (f_at : Int32) (f_names : Int32) (f_pieces : Int32) (f_songLong : Int32) (f_guesses : Int32) (f_todo : Int32) (f_sizes : Nat → Int32) (f_latest : Int32) (f_forms : Nat → Int32) (x1 : Int32) (r : Int32) (r_latest : Int32) (r_forms : Nat → Int32) (sz : Nat) (hf : Mo_lose f_sizes f_latest f_forms x1 = some (r, r_latest, r_forms)) : Met l yX11_lose (WS yX11_lose cX11_lose 2 (some .int)) RM_Mo_lose (va_Pc [.ref a_this, .int x1] (PM D ct sz (w_Mo_lose ct a_this a_forms a_sizes a_items a_moved a_bytes a_typed a_chances a_longs a_letters a_isThere a_pieceLongs a_pieceLetters a_song a_settings a_guess a_row a_least a_nights f_latest f_at f_names f_pieces f_songLong f_guesses f_todo f_forms f_sizes))) (QM D (some (.int r)) (w_Mo_lose ct a_this a_forms a_sizes a_items a_moved a_bytes a_typed a_chances a_longs a_letters a_isThere a_pieceLongs a_pieceLetters a_song a_settings a_guess a_row a_least a_nights r_latest f_at f_names f_pieces f_songLong f_guesses f_todo r_forms f_sizes) (va_A (w_Mo_lose ct a_this a_forms a_sizes a_items a_moved a_bytes a_typed a_chances a_longs a_letters a_isThere a_pieceLongs a_pieceLetters a_song a_settings a_guess a_row a_least a_nights f_latest f_at f_names f_pieces f_songLong f_guesses f_todo f_forms f_sizes) sz)) 0 0 (va_A (w_Mo_lose ct a_this a_forms a_sizes a_items a_moved a_bytes a_typed a_chances a_longs a_letters a_isThere a_pieceLongs a_pieceLetters a_song a_settings a_guess a_row a_least a_nights f_latest f_at f_names f_pieces f_songLong f_guesses f_todo f_forms f_sizes) sz) := by
  refine kMetM yn_yX11_lose rfl (Nat.le_of_ble_eq_true rfl) ?_
  intro p e s m args below meth c A C hA hP hD ls hl
  have hl : lv_has ls 2 [(0, .ref a_this), (1, .int x1)] := hl
  have hS : va_S A s.heap s.heap [] := va_S.rf
  obtain ⟨hx, hb, hr, hml, hown, hts, hlk, hK, hN⟩ := id C
  unfold Mo_lose at hf
  refine lv_iload_n hx hb dX11_lose_0 rfl (lv_at hl 1 rfl) ?_
  obtain ⟨v1, hc1, hf⟩ := cb1_some hf
  refine kcRS (As := [.int x1]) (rest := []) (st1 := [.int v1]) C (c_Mo_isSheet l D ct x1 v1 hc1) ⟨rfl, rfl⟩ yn_yX11_isSheet tw_1026 tw_1025 ⟨Nat.le_of_ble_eq_true rfl, Nat.le_of_ble_eq_true rfl⟩ ⟨Nat.zero_le _, Nat.zero_le _⟩ hP [] rfl hl.1 rfl rfl (Nat.le_of_ble_eq_true rfl) dX11_lose_1 rfl ?_
  refine lv_if_ne (tgt := 10) hx hb dX11_lose_4 (by decide) (fun hc => ?_) (fun hc => ?_)
  · have hf := kneg hc hf
    refine lv_aload_n hx hb dX11_lose_10 rfl (lv_at hl 0 rfl) ?_
    refine va_get (ci := 11) (v := .ref a_forms) (C := RX11) (T := TX11) (N := 25) hx hb hts inX11 hown hK hP 0 rfl rfl 0 (by decide) (hts _ tw_944) (fun _ h9 => h9) rfl dX11_lose_11 ?_
    refine lv_iload_n hx hb dX11_lose_14 rfl (lv_at hl 1 rfl) ?_
    obtain ⟨hin, hf⟩ := rd_some hf
    generalize ev15 : f_forms (Int32.toNatClampNeg x1) = v15 at hf
    refine kiald hx hb hK hP 1 0 rfl rfl hin ev15 dX11_lose_15 ?_
    refine lv_if_ge (tgt := 25) hx hb dX11_lose_16 (by decide) (fun hc => ?_) (fun hc => ?_)
    · have hf := kpos hc hf
      refine lv_aload_n hx hb dX11_lose_25 rfl (lv_at hl 0 rfl) ?_
      refine va_get (ci := 11) (v := .ref a_forms) (C := RX11) (T := TX11) (N := 25) hx hb hts inX11 hown hK hP 0 rfl rfl 0 (by decide) (hts _ tw_944) (fun _ h9 => h9) rfl dX11_lose_26 ?_
      refine lv_iload_n hx hb dX11_lose_29 rfl (lv_at hl 1 rfl) ?_
      refine lv_iconst (v := (-1)) hx hb dX11_lose_30 (by decide) ?_
      obtain ⟨hin, f_forms_31, ev31, hf⟩ := wr_ex hf
      refine kiast hx hb hK hP hD hS 1 0 rfl rfl hin ev31 dX11_lose_31 (fun H locs hP hD hS => ?_)
      have hP : va_P D vwCl (w_Mo_lose ct a_this a_forms a_sizes a_items a_moved a_bytes a_typed a_chances a_longs a_letters a_isThere a_pieceLongs a_pieceLetters a_song a_settings a_guess a_row a_least a_nights f_latest f_at f_names f_pieces f_songLong f_guesses f_todo f_forms_31 f_sizes) H := hP
      have hD : va_D A (w_Mo_lose ct a_this a_forms a_sizes a_items a_moved a_bytes a_typed a_chances a_longs a_letters a_isThere a_pieceLongs a_pieceLetters a_song a_settings a_guess a_row a_least a_nights f_latest f_at f_names f_pieces f_songLong f_guesses f_todo f_forms_31 f_sizes) := hD
      refine lv_aload_n hx hb dX11_lose_32 rfl (lv_at hl 0 rfl) ?_
      refine va_get (ci := 11) (v := .ref a_sizes) (C := RX11) (T := TX11) (N := 25) hx hb hts inX11 hown hK hP 0 rfl rfl 1 (by decide) (hts _ tw_945) (fun _ h9 => h9) rfl dX11_lose_33 ?_
      refine lv_iload_n hx hb dX11_lose_36 rfl (lv_at hl 1 rfl) ?_
      obtain ⟨hin, hf⟩ := rd_some hf
      generalize ev37 : f_sizes (Int32.toNatClampNeg x1) = v37 at hf
      refine kiald hx hb hK hP 2 0 rfl rfl hin ev37 dX11_lose_37 ?_
      obtain ⟨e1, e2, e3⟩ := ti3 hf
      subst e1; subst e2; subst e3
      exact kretM C hP hD hS dX11_lose_38
    · have hf := kneg hc hf
      refine lv_aload_n hx hb dX11_lose_19 rfl (lv_at hl 0 rfl) ?_
      refine lv_iconst (v := 1) hx hb dX11_lose_20 (by decide) ?_
      obtain ⟨v21, f_latest_21, hc21, hf⟩ := cb2_some hf
      refine kcMV (q0 := 0) (ci := 11) (As := [.int 1]) (rest := []) (st1 := [.int v21]) (wf := (w_Mo_lose ct a_this a_forms a_sizes a_items a_moved a_bytes a_typed a_chances a_longs a_letters a_isThere a_pieceLongs a_pieceLetters a_song a_settings a_guess a_row a_least a_nights f_latest_21 f_at f_names f_pieces f_songLong f_guesses f_todo f_forms f_sizes)) C (c_Mo_met l D ct a_this a_forms a_sizes a_items a_moved a_bytes a_typed a_chances a_longs a_letters a_isThere a_pieceLongs a_pieceLetters a_song a_settings a_guess a_row a_least a_nights f_at f_names f_pieces f_songLong f_guesses f_todo f_latest 1 v21 f_latest_21 _ hc21) ⟨rfl, rfl⟩ yn_yX11_met tw_1035 tw_25 tw_1033 ⟨Nat.le_of_ble_eq_true rfl, Nat.le_of_ble_eq_true rfl⟩ ⟨Nat.zero_le _, Nat.zero_le _⟩ hP hD hS hA [0] [1, 2] [2, 0, 1] rfl rfl rfl rfl rfl (by decide) rfl rfl rfl rfl rfl rfl hl.1 rfl rfl (Nat.le_of_ble_eq_true rfl) dX11_lose_21 rfl (fun H locs hP hD hS => ?_)
      obtain ⟨e1, e2, e3⟩ := ti3 hf
      subst e1; subst e2; subst e3
      exact kretM C hP hD hS dX11_lose_24
  · have hf := kpos hc hf
    refine lv_bipush (v := (-2)) hx hb dX11_lose_7 (by decide) ?_
    obtain ⟨e1, e2, e3⟩ := ti3 hf
    subst e1; subst e2; subst e3
    exact kretM C hP hD hS dX11_lose_9
def RM_Mo_lacks : Room := { frames := 1, cells := 0, slots := 0, locals := 25 }
set_option maxHeartbeats 4000000 in
set_option maxRecDepth 100000 in
theorem c_Mo_lacks (l : Launch) (D : va_G) (ct : Nat → ClassId) (a_this a_forms a_sizes a_items a_moved a_bytes a_typed a_chances a_longs a_letters a_isThere a_pieceLongs a_pieceLetters a_song a_settings a_guess a_row a_least a_nights : Nat) (f_at : Int32) (f_names : Int32) (f_pieces : Int32) (f_songLong : Int32) (f_guesses : Int32) (f_todo : Int32) (f_forms : Nat → Int32) (f_sizes : Nat → Int32) (f_latest : Int32) (x1 : Int32) (x2 : Int32) (x3 : Int32) (r : Int32) (r_latest : Int32) (sz : Nat) (hf : Mo_lacks f_forms f_sizes f_latest x1 x2 x3 = some (r, r_latest)) : Met l yX11_lacks (WS yX11_lacks cX11_lacks 4 (some .int)) RM_Mo_lacks (va_Pc [.ref a_this, .int x1, .int x2, .int x3] (PM D ct sz (w_Mo_lacks ct a_this a_forms a_sizes a_items a_moved a_bytes a_typed a_chances a_longs a_letters a_isThere a_pieceLongs a_pieceLetters a_song a_settings a_guess a_row a_least a_nights f_latest f_at f_names f_pieces f_songLong f_guesses f_todo f_forms f_sizes))) (QM D (some (.int r)) (w_Mo_lacks ct a_this a_forms a_sizes a_items a_moved a_bytes a_typed a_chances a_longs a_letters a_isThere a_pieceLongs a_pieceLetters a_song a_settings a_guess a_row a_least a_nights r_latest f_at f_names f_pieces f_songLong f_guesses f_todo f_forms f_sizes) (va_A (w_Mo_lacks ct a_this a_forms a_sizes a_items a_moved a_bytes a_typed a_chances a_longs a_letters a_isThere a_pieceLongs a_pieceLetters a_song a_settings a_guess a_row a_least a_nights f_latest f_at f_names f_pieces f_songLong f_guesses f_todo f_forms f_sizes) sz)) 0 0 (va_A (w_Mo_lacks ct a_this a_forms a_sizes a_items a_moved a_bytes a_typed a_chances a_longs a_letters a_isThere a_pieceLongs a_pieceLetters a_song a_settings a_guess a_row a_least a_nights f_latest f_at f_names f_pieces f_songLong f_guesses f_todo f_forms f_sizes) sz) := by
  refine kMetM yn_yX11_lacks rfl (Nat.le_of_ble_eq_true rfl) ?_
  intro p e s m args below meth c A C hA hP hD ls hl
  have hl : lv_has ls 4 [(0, .ref a_this), (1, .int x1), (2, .int x2), (3, .int x3)] := hl
  have hS : va_S A s.heap s.heap [] := va_S.rf
  obtain ⟨hx, hb, hr, hml, hown, hts, hlk, hK, hN⟩ := id C
  unfold Mo_lacks at hf
  refine lv_aload_n hx hb dX11_lacks_0 rfl (lv_at hl 0 rfl) ?_
  refine va_get (ci := 11) (v := .ref a_forms) (C := RX11) (T := TX11) (N := 25) hx hb hts inX11 hown hK hP 0 rfl rfl 0 (by decide) (hts _ tw_944) (fun _ h9 => h9) rfl dX11_lacks_1 ?_
  refine lv_iload_n hx hb dX11_lacks_4 rfl (lv_at hl 1 rfl) ?_
  obtain ⟨hin, hf⟩ := rd_some hf
  generalize ev5 : f_forms (Int32.toNatClampNeg x1) = v5 at hf
  refine kiald hx hb hK hP 1 0 rfl rfl hin ev5 dX11_lacks_5 ?_
  refine lv_if_ge (tgt := 15) hx hb dX11_lacks_6 (by decide) (fun hc => ?_) (fun hc => ?_)
  · have hf := kpos hc hf
    refine lv_aload_n hx hb dX11_lacks_15 rfl (lv_at hl 0 rfl) ?_
    refine va_get (ci := 11) (v := .ref a_forms) (C := RX11) (T := TX11) (N := 25) hx hb hts inX11 hown hK hP 0 rfl rfl 0 (by decide) (hts _ tw_944) (fun _ h9 => h9) rfl dX11_lacks_16 ?_
    refine lv_iload_n hx hb dX11_lacks_19 rfl (lv_at hl 1 rfl) ?_
    obtain ⟨hin, hf⟩ := rd_some hf
    generalize ev20 : f_forms (Int32.toNatClampNeg x1) = v20 at hf
    refine kiald hx hb hK hP 1 0 rfl rfl hin ev20 dX11_lacks_20 ?_
    refine lv_iload_n hx hb dX11_lacks_21 rfl (lv_at hl 2 rfl) ?_
    refine lv_icmp_eq (tgt := 31) hx hb dX11_lacks_22 (by decide) (fun hc => ?_) (fun hc => ?_)
    · have hf := kpos hc hf
      refine lv_iload_n hx hb dX11_lacks_31 rfl (lv_at hl 3 rfl) ?_
      refine lv_i2l (v := Int32.toInt64 x3) hx hb dX11_lacks_32 rfl ?_
      refine lv_lconst (v := 0) hx hb dX11_lacks_33 (by decide) ?_
      refine lv_aload_n hx hb dX11_lacks_34 rfl (lv_at hl 0 rfl) ?_
      refine va_get (ci := 11) (v := .ref a_sizes) (C := RX11) (T := TX11) (N := 25) hx hb hts inX11 hown hK hP 0 rfl rfl 1 (by decide) (hts _ tw_945) (fun _ h9 => h9) rfl dX11_lacks_35 ?_
      refine lv_iload_n hx hb dX11_lacks_38 rfl (lv_at hl 1 rfl) ?_
      obtain ⟨hin, hf⟩ := rd_some hf
      generalize ev39 : f_sizes (Int32.toNatClampNeg x1) = v39 at hf
      refine kiald hx hb hK hP 2 0 rfl rfl hin ev39 dX11_lacks_39 ?_
      refine lv_iconst (v := 1) hx hb dX11_lacks_40 (by decide) ?_
      refine lv_isub hx hb dX11_lacks_41 ?_
      refine lv_i2l (v := Int32.toInt64 (v39 - 1)) hx hb dX11_lacks_42 rfl ?_
      obtain ⟨v43, hc43, hf⟩ := cb1_some hf
      refine kcRS (As := [.long (Int32.toInt64 x3), .long 0, .long (Int32.toInt64 (v39 - 1))]) (rest := []) (st1 := [.int v43]) C (c_Mo_in l D ct (Int32.toInt64 x3) 0 (Int32.toInt64 (v39 - 1)) v43 hc43) ⟨rfl, rfl⟩ yn_yX11_in tw_1030 tw_1029 ⟨Nat.le_of_ble_eq_true rfl, Nat.le_of_ble_eq_true rfl⟩ ⟨Nat.zero_le _, Nat.zero_le _⟩ hP [] rfl hl.1 rfl rfl (Nat.le_of_ble_eq_true rfl) dX11_lacks_43 rfl ?_
      refine lv_if_eq (tgt := 53) hx hb dX11_lacks_46 (by decide) (fun hc => ?_) (fun hc => ?_)
      · have hf := kpos hc hf
        refine lv_aload_n hx hb dX11_lacks_53 rfl (lv_at hl 0 rfl) ?_
        refine lv_iconst (v := 2) hx hb dX11_lacks_54 (by decide) ?_
        obtain ⟨v55, f_latest_55, hc55, hf⟩ := cb2_some hf
        refine kcMV (q0 := 0) (ci := 11) (As := [.int 2]) (rest := []) (st1 := [.int v55]) (wf := (w_Mo_lacks ct a_this a_forms a_sizes a_items a_moved a_bytes a_typed a_chances a_longs a_letters a_isThere a_pieceLongs a_pieceLetters a_song a_settings a_guess a_row a_least a_nights f_latest_55 f_at f_names f_pieces f_songLong f_guesses f_todo f_forms f_sizes)) C (c_Mo_met l D ct a_this a_forms a_sizes a_items a_moved a_bytes a_typed a_chances a_longs a_letters a_isThere a_pieceLongs a_pieceLetters a_song a_settings a_guess a_row a_least a_nights f_at f_names f_pieces f_songLong f_guesses f_todo f_latest 2 v55 f_latest_55 _ hc55) ⟨rfl, rfl⟩ yn_yX11_met tw_1035 tw_25 tw_1033 ⟨Nat.le_of_ble_eq_true rfl, Nat.le_of_ble_eq_true rfl⟩ ⟨Nat.zero_le _, Nat.zero_le _⟩ hP hD hS hA [0] [1, 2] [2, 0, 1] rfl rfl rfl rfl rfl (by decide) rfl rfl rfl rfl rfl rfl hl.1 rfl rfl (Nat.le_of_ble_eq_true rfl) dX11_lacks_55 rfl (fun H locs hP hD hS => ?_)
        obtain ⟨e1, e2⟩ := ti2 hf
        subst e1; subst e2
        exact kretM C hP hD hS dX11_lacks_58
      · have hf := kneg hc hf
        refine lv_iconst (v := 0) hx hb dX11_lacks_49 (by decide) ?_
        refine lv_goto (tgt := 58) hx hb dX11_lacks_50 (by decide) ?_
        obtain ⟨e1, e2⟩ := ti2 hf
        subst e1; subst e2
        exact kretM C hP hD hS dX11_lacks_58
    · have hf := kneg hc hf
      refine lv_aload_n hx hb dX11_lacks_25 rfl (lv_at hl 0 rfl) ?_
      refine lv_iconst (v := 3) hx hb dX11_lacks_26 (by decide) ?_
      obtain ⟨v27, f_latest_27, hc27, hf⟩ := cb2_some hf
      refine kcMV (q0 := 0) (ci := 11) (As := [.int 3]) (rest := []) (st1 := [.int v27]) (wf := (w_Mo_lacks ct a_this a_forms a_sizes a_items a_moved a_bytes a_typed a_chances a_longs a_letters a_isThere a_pieceLongs a_pieceLetters a_song a_settings a_guess a_row a_least a_nights f_latest_27 f_at f_names f_pieces f_songLong f_guesses f_todo f_forms f_sizes)) C (c_Mo_met l D ct a_this a_forms a_sizes a_items a_moved a_bytes a_typed a_chances a_longs a_letters a_isThere a_pieceLongs a_pieceLetters a_song a_settings a_guess a_row a_least a_nights f_at f_names f_pieces f_songLong f_guesses f_todo f_latest 3 v27 f_latest_27 _ hc27) ⟨rfl, rfl⟩ yn_yX11_met tw_1035 tw_25 tw_1033 ⟨Nat.le_of_ble_eq_true rfl, Nat.le_of_ble_eq_true rfl⟩ ⟨Nat.zero_le _, Nat.zero_le _⟩ hP hD hS hA [0] [1, 2] [2, 0, 1] rfl rfl rfl rfl rfl (by decide) rfl rfl rfl rfl rfl rfl hl.1 rfl rfl (Nat.le_of_ble_eq_true rfl) dX11_lacks_27 rfl (fun H locs hP hD hS => ?_)
      obtain ⟨e1, e2⟩ := ti2 hf
      subst e1; subst e2
      exact kretM C hP hD hS dX11_lacks_30
  · have hf := kneg hc hf
    refine lv_aload_n hx hb dX11_lacks_9 rfl (lv_at hl 0 rfl) ?_
    refine lv_iconst (v := 1) hx hb dX11_lacks_10 (by decide) ?_
    obtain ⟨v11, f_latest_11, hc11, hf⟩ := cb2_some hf
    refine kcMV (q0 := 0) (ci := 11) (As := [.int 1]) (rest := []) (st1 := [.int v11]) (wf := (w_Mo_lacks ct a_this a_forms a_sizes a_items a_moved a_bytes a_typed a_chances a_longs a_letters a_isThere a_pieceLongs a_pieceLetters a_song a_settings a_guess a_row a_least a_nights f_latest_11 f_at f_names f_pieces f_songLong f_guesses f_todo f_forms f_sizes)) C (c_Mo_met l D ct a_this a_forms a_sizes a_items a_moved a_bytes a_typed a_chances a_longs a_letters a_isThere a_pieceLongs a_pieceLetters a_song a_settings a_guess a_row a_least a_nights f_at f_names f_pieces f_songLong f_guesses f_todo f_latest 1 v11 f_latest_11 _ hc11) ⟨rfl, rfl⟩ yn_yX11_met tw_1035 tw_25 tw_1033 ⟨Nat.le_of_ble_eq_true rfl, Nat.le_of_ble_eq_true rfl⟩ ⟨Nat.zero_le _, Nat.zero_le _⟩ hP hD hS hA [0] [1, 2] [2, 0, 1] rfl rfl rfl rfl rfl (by decide) rfl rfl rfl rfl rfl rfl hl.1 rfl rfl (Nat.le_of_ble_eq_true rfl) dX11_lacks_11 rfl (fun H locs hP hD hS => ?_)
    obtain ⟨e1, e2⟩ := ti2 hf
    subst e1; subst e2
    exact kretM C hP hD hS dX11_lacks_14
def RM_Mo_cut : Room := { frames := 0, cells := 0, slots := 0, locals := 0 }
set_option maxHeartbeats 4000000 in
set_option maxRecDepth 100000 in
theorem c_Mo_cut (l : Launch) (D : va_G) (ct : Nat → ClassId) (x0 : Int32) (x1 : Int32) (r : Int32) (hf : Mo_cut x0 x1 = some r) : Met l yX11_cut (WS yX11_cut cX11_cut 2 (some .int)) RM_Mo_cut (va_Pc [.int x0, .int x1] (PR D ct (w_Mo_cut ct))) (QR (some (.int r))) 0 0 (fun _ => False) := by
  refine kMetR yn_yX11_cut rfl (Nat.le_of_ble_eq_true rfl) ?_
  intro p e s m args below meth c C hP ls hl
  have hl : lv_has ls 2 [(0, .int x0), (1, .int x1)] := hl
  obtain ⟨hx, hb, hr, hml, hown, hts, hlk, hK, hN⟩ := id C
  unfold Mo_cut at hf
  refine lv_iload_n hx hb dX11_cut_0 rfl (lv_at hl 0 rfl) ?_
  refine lv_if_ne (tgt := 9) hx hb dX11_cut_1 (by decide) (fun hc => ?_) (fun hc => ?_)
  · have hf := kneg hc hf
    refine lv_iload_n hx hb dX11_cut_9 rfl (lv_at hl 0 rfl) ?_
    refine lv_iconst (v := 1) hx hb dX11_cut_10 (by decide) ?_
    refine lv_icmp_ne (tgt := 19) hx hb dX11_cut_11 (by decide) (fun hc => ?_) (fun hc => ?_)
    · have hf := kneg hc hf
      refine lv_iload_n hx hb dX11_cut_19 rfl (lv_at hl 1 rfl) ?_
      have e1 := Option.some.inj hf
      subst e1
      exact kretR C dX11_cut_20
    · have hf := kpos hc hf
      refine lv_iload_n hx hb dX11_cut_14 rfl (lv_at hl 1 rfl) ?_
      refine lv_i2s (v := (Int32.toInt16 x1).toInt32) hx hb dX11_cut_15 rfl ?_
      refine lv_goto (tgt := 20) hx hb dX11_cut_16 (by decide) ?_
      have e1 := Option.some.inj hf
      subst e1
      exact kretR C dX11_cut_20
  · have hf := kpos hc hf
    refine lv_iload_n hx hb dX11_cut_4 rfl (lv_at hl 1 rfl) ?_
    refine lv_i2b (v := (Int32.toInt8 x1).toInt32) hx hb dX11_cut_5 rfl ?_
    refine lv_goto (tgt := 20) hx hb dX11_cut_6 (by decide) ?_
    have e1 := Option.some.inj hf
    subst e1
    exact kretR C dX11_cut_20
def RM_Mo_lay : Room := { frames := 2, cells := 0, slots := 0, locals := 48 }
set_option maxHeartbeats 4000000 in
set_option maxRecDepth 100000 in
theorem c_Mo_lay (l : Launch) (D : va_G) (ct : Nat → ClassId) (a_this a_forms a_sizes a_items a_moved a_bytes a_typed a_chances a_longs a_letters a_isThere a_pieceLongs a_pieceLetters a_song a_settings a_guess a_row a_least a_nights : Nat) (f_at : Int32) (f_names : Int32) (f_pieces : Int32) (f_songLong : Int32) (f_guesses : Int32) (f_todo : Int32) (f_forms : Nat → Int32) (f_sizes : Nat → Int32) (f_latest : Int32) (f_items : Nat → Int32) (x1 : Int32) (x2 : Int32) (x3 : Int32) (x4 : Int32) (r : Int32) (r_latest : Int32) (r_items : Nat → Int32) (sz : Nat) (hf : Mo_lay f_forms f_sizes f_latest f_items x1 x2 x3 x4 = some (r, r_latest, r_items)) : Met l yX11_lay (WS yX11_lay cX11_lay 6 (some .int)) RM_Mo_lay (va_Pc [.ref a_this, .int x1, .int x2, .int x3, .int x4] (PM D ct sz (w_Mo_lay ct a_this a_forms a_sizes a_items a_moved a_bytes a_typed a_chances a_longs a_letters a_isThere a_pieceLongs a_pieceLetters a_song a_settings a_guess a_row a_least a_nights f_latest f_at f_names f_pieces f_songLong f_guesses f_todo f_forms f_sizes f_items))) (QM D (some (.int r)) (w_Mo_lay ct a_this a_forms a_sizes a_items a_moved a_bytes a_typed a_chances a_longs a_letters a_isThere a_pieceLongs a_pieceLetters a_song a_settings a_guess a_row a_least a_nights r_latest f_at f_names f_pieces f_songLong f_guesses f_todo f_forms f_sizes r_items) (va_A (w_Mo_lay ct a_this a_forms a_sizes a_items a_moved a_bytes a_typed a_chances a_longs a_letters a_isThere a_pieceLongs a_pieceLetters a_song a_settings a_guess a_row a_least a_nights f_latest f_at f_names f_pieces f_songLong f_guesses f_todo f_forms f_sizes f_items) sz)) 0 0 (va_A (w_Mo_lay ct a_this a_forms a_sizes a_items a_moved a_bytes a_typed a_chances a_longs a_letters a_isThere a_pieceLongs a_pieceLetters a_song a_settings a_guess a_row a_least a_nights f_latest f_at f_names f_pieces f_songLong f_guesses f_todo f_forms f_sizes f_items) sz) := by
  refine kMetM yn_yX11_lay rfl (Nat.le_of_ble_eq_true rfl) ?_
  intro p e s m args below meth c A C hA hP hD ls hl
  have hl : lv_has ls 6 [(0, .ref a_this), (1, .int x1), (2, .int x2), (3, .int x3), (4, .int x4)] := hl
  have hS : va_S A s.heap s.heap [] := va_S.rf
  obtain ⟨hx, hb, hr, hml, hown, hts, hlk, hK, hN⟩ := id C
  unfold Mo_lay at hf
  refine lv_iload_n hx hb dX11_lay_0 rfl (lv_at hl 1 rfl) ?_
  obtain ⟨v1, hc1, hf⟩ := cb1_some hf
  refine kcRS (As := [.int x1]) (rest := []) (st1 := [.int v1]) C (c_Mo_isSheet l D ct x1 v1 hc1) ⟨rfl, rfl⟩ yn_yX11_isSheet tw_1026 tw_1025 ⟨Nat.le_of_ble_eq_true rfl, Nat.le_of_ble_eq_true rfl⟩ ⟨Nat.zero_le _, Nat.zero_le _⟩ hP [] rfl hl.1 rfl rfl (Nat.le_of_ble_eq_true rfl) dX11_lay_1 rfl ?_
  refine lv_if_eq (tgt := 19) hx hb dX11_lay_4 (by decide) (fun hc => ?_) (fun hc => ?_)
  · have hf := kpos hc hf
    refine lv_bipush (v := (-2)) hx hb dX11_lay_19 (by decide) ?_
    obtain ⟨e1, e2, e3⟩ := ti3 hf
    subst e1; subst e2; subst e3
    exact kretM C hP hD hS dX11_lay_21
  · have hf := kneg hc hf
    refine lv_iload_n hx hb dX11_lay_7 rfl (lv_at hl 2 rfl) ?_
    refine lv_i2l (v := Int32.toInt64 x2) hx hb dX11_lay_8 rfl ?_
    refine lv_lconst (v := 0) hx hb dX11_lay_9 (by decide) ?_
    refine lv_ldc2 (v := 2) hx hb hown (hts _ tw_1032) dX11_lay_10 ?_
    obtain ⟨v13, hc13, hf⟩ := cb1_some hf
    refine kcRS (As := [.long (Int32.toInt64 x2), .long 0, .long 2]) (rest := []) (st1 := [.int v13]) C (c_Mo_in l D ct (Int32.toInt64 x2) 0 2 v13 hc13) ⟨rfl, rfl⟩ yn_yX11_in tw_1030 tw_1029 ⟨Nat.le_of_ble_eq_true rfl, Nat.le_of_ble_eq_true rfl⟩ ⟨Nat.zero_le _, Nat.zero_le _⟩ hP [] rfl hl.1 rfl rfl (Nat.le_of_ble_eq_true rfl) dX11_lay_13 rfl ?_
    refine lv_if_ne (tgt := 22) hx hb dX11_lay_16 (by decide) (fun hc => ?_) (fun hc => ?_)
    · have hf := kneg hc hf
      refine lv_aload_n hx hb dX11_lay_22 rfl (lv_at hl 0 rfl) ?_
      refine lv_iload_n hx hb dX11_lay_23 rfl (lv_at hl 1 rfl) ?_
      refine lv_iload_n hx hb dX11_lay_24 rfl (lv_at hl 2 rfl) ?_
      refine lv_iload_n hx hb dX11_lay_25 rfl (lv_at hl 3 rfl) ?_
      obtain ⟨v26, f_latest_26, hc26, hf⟩ := cb2_some hf
      refine kcMV (q0 := 0) (ci := 11) (As := [.int x1, .int x2, .int x3]) (rest := []) (st1 := [.int v26]) (wf := (w_Mo_lay ct a_this a_forms a_sizes a_items a_moved a_bytes a_typed a_chances a_longs a_letters a_isThere a_pieceLongs a_pieceLetters a_song a_settings a_guess a_row a_least a_nights f_latest_26 f_at f_names f_pieces f_songLong f_guesses f_todo f_forms f_sizes f_items)) C (c_Mo_lacks l D ct a_this a_forms a_sizes a_items a_moved a_bytes a_typed a_chances a_longs a_letters a_isThere a_pieceLongs a_pieceLetters a_song a_settings a_guess a_row a_least a_nights f_at f_names f_pieces f_songLong f_guesses f_todo f_forms f_sizes f_latest x1 x2 x3 v26 f_latest_26 _ hc26) ⟨rfl, rfl⟩ yn_yX11_lacks tw_1047 tw_26 tw_1045 ⟨Nat.le_of_ble_eq_true rfl, Nat.le_of_ble_eq_true rfl⟩ ⟨Nat.zero_le _, Nat.zero_le _⟩ hP hD hS hA [0, 1, 2] [3] [1, 2, 3, 0] rfl rfl rfl rfl rfl (by decide) rfl rfl rfl rfl rfl rfl hl.1 rfl rfl (Nat.le_of_ble_eq_true rfl) dX11_lay_26 rfl (fun H locs hP hD hS => ?_)
      refine lv_istore (lv' := [(5, .int v26), (0, .ref a_this), (1, .int x1), (2, .int x2), (3, .int x3), (4, .int x4)]) hx hb dX11_lay_29 hl (by decide) rfl (fun ls hl => ?_)
      refine lv_iload hx hb dX11_lay_31 (lv_at hl 0 rfl) ?_
      refine lv_if_eq (tgt := 39) hx hb dX11_lay_33 (by decide) (fun hc => ?_) (fun hc => ?_)
      · have hf := kpos hc hf
        refine lv_aload_n hx hb dX11_lay_39 rfl (lv_at hl 1 rfl) ?_
        refine va_get (ci := 11) (v := .ref a_items) (C := RX11) (T := TX11) (N := 25) hx hb hts inX11 hown hK hP 0 rfl rfl 2 (by decide) (hts _ tw_946) (fun _ h9 => h9) rfl dX11_lay_40 ?_
        refine lv_bipush (v := 60) hx hb dX11_lay_43 (by decide) ?_
        refine lv_iload_n hx hb dX11_lay_45 rfl (lv_at hl 2 rfl) ?_
        refine lv_imul hx hb dX11_lay_46 ?_
        refine lv_iload_n hx hb dX11_lay_47 rfl (lv_at hl 4 rfl) ?_
        refine lv_iadd hx hb dX11_lay_48 ?_
        refine lv_iload_n hx hb dX11_lay_49 rfl (lv_at hl 3 rfl) ?_
        refine lv_iload hx hb dX11_lay_50 (lv_at hl 5 rfl) ?_
        obtain ⟨v52, hc52, hf⟩ := cb1_some hf
        refine kcRS (As := [.int x2, .int x4]) (rest := [.int ((60 * x1) + x3), .ref a_items]) (st1 := [.int v52, .int ((60 * x1) + x3), .ref a_items]) C (c_Mo_cut l D ct x2 x4 v52 hc52) ⟨rfl, rfl⟩ yn_yX11_cut tw_1050 tw_1049 ⟨Nat.le_of_ble_eq_true rfl, Nat.le_of_ble_eq_true rfl⟩ ⟨Nat.zero_le _, Nat.zero_le _⟩ hP [] rfl hl.1 rfl rfl (Nat.le_of_ble_eq_true rfl) dX11_lay_52 rfl ?_
        obtain ⟨hin, f_items_55, ev55, hf⟩ := wr_ex hf
        refine kiast hx hb hK hP hD hS 3 0 rfl rfl hin ev55 dX11_lay_55 (fun H locs hP hD hS => ?_)
        have hP : va_P D vwCl (w_Mo_lay ct a_this a_forms a_sizes a_items a_moved a_bytes a_typed a_chances a_longs a_letters a_isThere a_pieceLongs a_pieceLetters a_song a_settings a_guess a_row a_least a_nights f_latest_26 f_at f_names f_pieces f_songLong f_guesses f_todo f_forms f_sizes f_items_55) H := hP
        have hD : va_D A (w_Mo_lay ct a_this a_forms a_sizes a_items a_moved a_bytes a_typed a_chances a_longs a_letters a_isThere a_pieceLongs a_pieceLetters a_song a_settings a_guess a_row a_least a_nights f_latest_26 f_at f_names f_pieces f_songLong f_guesses f_todo f_forms f_sizes f_items_55) := hD
        refine lv_iconst (v := 1) hx hb dX11_lay_56 (by decide) ?_
        obtain ⟨e1, e2, e3⟩ := ti3 hf
        subst e1; subst e2; subst e3
        exact kretM C hP hD hS dX11_lay_57
      · have hf := kneg hc hf
        refine lv_iload hx hb dX11_lay_36 (lv_at hl 0 rfl) ?_
        obtain ⟨e1, e2, e3⟩ := ti3 hf
        subst e1; subst e2; subst e3
        exact kretM C hP hD hS dX11_lay_38
    · have hf := kpos hc hf
      refine lv_bipush (v := (-2)) hx hb dX11_lay_19 (by decide) ?_
      obtain ⟨e1, e2, e3⟩ := ti3 hf
      subst e1; subst e2; subst e3
      exact kretM C hP hD hS dX11_lay_21
def RM_Mo_get : Room := { frames := 2, cells := 0, slots := 0, locals := 48 }
set_option maxHeartbeats 4000000 in
set_option maxRecDepth 100000 in
theorem t_Mo_get_b29 {p : Program} {l : Launch} {e : Env} {s : State} {m : MethodId} {args : Array Value} {below : List Frame} {meth : Method} {c : Code} {D : va_G} {ct : Nat → ClassId} (C : CX p s m args meth c RX11 cX11_get 4 (some .int) D ct) {A : Nat → Prop} (hA : ∀ q : Nat, s.heap.size ≤ q → A q) (a_this a_forms a_sizes a_items a_moved a_bytes a_typed a_chances a_longs a_letters a_isThere a_pieceLongs a_pieceLetters a_song a_settings a_guess a_row a_least a_nights : Nat) (f_at : Int32) (f_names : Int32) (f_pieces : Int32) (f_songLong : Int32) (f_guesses : Int32) (f_todo : Int32) (f_forms : Nat → Int32) (f_sizes : Nat → Int32) (f_items : Nat → Int32) (x1 : Int32) (x2 : Int32) (x3 : Int32) (r : Int32) (r_latest : Int32) : ∀ (f_latest : Int32), Mo_get_b29 f_forms f_sizes f_items x1 x2 x3 f_latest = some (r, r_latest) → ∀ (H : Heap) (locs : List Loc), va_P D vwCl (w_Mo_get ct a_this a_forms a_sizes a_items a_moved a_bytes a_typed a_chances a_longs a_letters a_isThere a_pieceLongs a_pieceLetters a_song a_settings a_guess a_row a_least a_nights f_latest f_at f_names f_pieces f_songLong f_guesses f_todo f_forms f_sizes f_items) H → va_D A (w_Mo_get ct a_this a_forms a_sizes a_items a_moved a_bytes a_typed a_chances a_longs a_letters a_isThere a_pieceLongs a_pieceLetters a_song a_settings a_guess a_row a_least a_nights f_latest f_at f_names f_pieces f_songLong f_guesses f_todo f_forms f_sizes f_items) → va_S A s.heap H locs → ∀ ls : Array Slot, lv_has ls 4 [] → W p l e RM_Mo_get s m args below meth c H locs 0 0 (MQ below (QM D (some (.int r)) (w_Mo_get ct a_this a_forms a_sizes a_items a_moved a_bytes a_typed a_chances a_longs a_letters a_isThere a_pieceLongs a_pieceLetters a_song a_settings a_guess a_row a_least a_nights r_latest f_at f_names f_pieces f_songLong f_guesses f_todo f_forms f_sizes f_items) A) args s 0 0 A) (F0 m 29 ls []) := by
  obtain ⟨hx, hb, hr, hml, hown, hts, hlk, hK, hN⟩ := id C
  intro f_latest hf H locs hP hD hS ls hl
  unfold Mo_get_b29 at hf
  refine lv_ldc (v := (-2147483648)) hx hb hown (hts _ tw_1056) dX11_get_29 ?_
  obtain ⟨e1, e2⟩ := ti2 hf
  subst e1; subst e2
  exact kretM C hP hD hS dX11_get_31
set_option maxHeartbeats 4000000 in
set_option maxRecDepth 100000 in
theorem c_Mo_get (l : Launch) (D : va_G) (ct : Nat → ClassId) (a_this a_forms a_sizes a_items a_moved a_bytes a_typed a_chances a_longs a_letters a_isThere a_pieceLongs a_pieceLetters a_song a_settings a_guess a_row a_least a_nights : Nat) (f_at : Int32) (f_names : Int32) (f_pieces : Int32) (f_songLong : Int32) (f_guesses : Int32) (f_todo : Int32) (f_forms : Nat → Int32) (f_sizes : Nat → Int32) (f_items : Nat → Int32) (f_latest : Int32) (x1 : Int32) (x2 : Int32) (x3 : Int32) (r : Int32) (r_latest : Int32) (sz : Nat) (hf : Mo_get f_forms f_sizes f_items f_latest x1 x2 x3 = some (r, r_latest)) : Met l yX11_get (WS yX11_get cX11_get 4 (some .int)) RM_Mo_get (va_Pc [.ref a_this, .int x1, .int x2, .int x3] (PM D ct sz (w_Mo_get ct a_this a_forms a_sizes a_items a_moved a_bytes a_typed a_chances a_longs a_letters a_isThere a_pieceLongs a_pieceLetters a_song a_settings a_guess a_row a_least a_nights f_latest f_at f_names f_pieces f_songLong f_guesses f_todo f_forms f_sizes f_items))) (QM D (some (.int r)) (w_Mo_get ct a_this a_forms a_sizes a_items a_moved a_bytes a_typed a_chances a_longs a_letters a_isThere a_pieceLongs a_pieceLetters a_song a_settings a_guess a_row a_least a_nights r_latest f_at f_names f_pieces f_songLong f_guesses f_todo f_forms f_sizes f_items) (va_A (w_Mo_get ct a_this a_forms a_sizes a_items a_moved a_bytes a_typed a_chances a_longs a_letters a_isThere a_pieceLongs a_pieceLetters a_song a_settings a_guess a_row a_least a_nights f_latest f_at f_names f_pieces f_songLong f_guesses f_todo f_forms f_sizes f_items) sz)) 0 0 (va_A (w_Mo_get ct a_this a_forms a_sizes a_items a_moved a_bytes a_typed a_chances a_longs a_letters a_isThere a_pieceLongs a_pieceLetters a_song a_settings a_guess a_row a_least a_nights f_latest f_at f_names f_pieces f_songLong f_guesses f_todo f_forms f_sizes f_items) sz) := by
  refine kMetM yn_yX11_get rfl (Nat.le_of_ble_eq_true rfl) ?_
  intro p e s m args below meth c A C hA hP hD ls hl
  have hl : lv_has ls 4 [(0, .ref a_this), (1, .int x1), (2, .int x2), (3, .int x3)] := hl
  have hS : va_S A s.heap s.heap [] := va_S.rf
  obtain ⟨hx, hb, hr, hml, hown, hts, hlk, hK, hN⟩ := id C
  unfold Mo_get at hf
  refine lv_iload_n hx hb dX11_get_0 rfl (lv_at hl 1 rfl) ?_
  obtain ⟨v1, hc1, hf⟩ := cb1_some hf
  refine kcRS (As := [.int x1]) (rest := []) (st1 := [.int v1]) C (c_Mo_isSheet l D ct x1 v1 hc1) ⟨rfl, rfl⟩ yn_yX11_isSheet tw_1026 tw_1025 ⟨Nat.le_of_ble_eq_true rfl, Nat.le_of_ble_eq_true rfl⟩ ⟨Nat.zero_le _, Nat.zero_le _⟩ hP [] rfl hl.1 rfl rfl (Nat.le_of_ble_eq_true rfl) dX11_get_1 rfl ?_
  refine lv_if_eq (tgt := 29) hx hb dX11_get_4 (by decide) (fun hc => ?_) (fun hc => ?_)
  · have hf := kpos hc hf
    exact t_Mo_get_b29 C hA a_this a_forms a_sizes a_items a_moved a_bytes a_typed a_chances a_longs a_letters a_isThere a_pieceLongs a_pieceLetters a_song a_settings a_guess a_row a_least a_nights f_at f_names f_pieces f_songLong f_guesses f_todo f_forms f_sizes f_items x1 x2 x3 r r_latest f_latest hf _ _ hP hD hS _ (lv_sub hl [] rfl)
  · have hf := kneg hc hf
    refine lv_iload_n hx hb dX11_get_7 rfl (lv_at hl 2 rfl) ?_
    refine lv_i2l (v := Int32.toInt64 x2) hx hb dX11_get_8 rfl ?_
    refine lv_lconst (v := 0) hx hb dX11_get_9 (by decide) ?_
    refine lv_ldc2 (v := 2) hx hb hown (hts _ tw_1032) dX11_get_10 ?_
    obtain ⟨v13, hc13, hf⟩ := cb1_some hf
    refine kcRS (As := [.long (Int32.toInt64 x2), .long 0, .long 2]) (rest := []) (st1 := [.int v13]) C (c_Mo_in l D ct (Int32.toInt64 x2) 0 2 v13 hc13) ⟨rfl, rfl⟩ yn_yX11_in tw_1030 tw_1029 ⟨Nat.le_of_ble_eq_true rfl, Nat.le_of_ble_eq_true rfl⟩ ⟨Nat.zero_le _, Nat.zero_le _⟩ hP [] rfl hl.1 rfl rfl (Nat.le_of_ble_eq_true rfl) dX11_get_13 rfl ?_
    refine lv_if_eq (tgt := 29) hx hb dX11_get_16 (by decide) (fun hc => ?_) (fun hc => ?_)
    · have hf := kpos hc hf
      exact t_Mo_get_b29 C hA a_this a_forms a_sizes a_items a_moved a_bytes a_typed a_chances a_longs a_letters a_isThere a_pieceLongs a_pieceLetters a_song a_settings a_guess a_row a_least a_nights f_at f_names f_pieces f_songLong f_guesses f_todo f_forms f_sizes f_items x1 x2 x3 r r_latest f_latest hf _ _ hP hD hS _ (lv_sub hl [] rfl)
    · have hf := kneg hc hf
      refine lv_aload_n hx hb dX11_get_19 rfl (lv_at hl 0 rfl) ?_
      refine lv_iload_n hx hb dX11_get_20 rfl (lv_at hl 1 rfl) ?_
      refine lv_iload_n hx hb dX11_get_21 rfl (lv_at hl 2 rfl) ?_
      refine lv_iload_n hx hb dX11_get_22 rfl (lv_at hl 3 rfl) ?_
      obtain ⟨v23, f_latest_23, hc23, hf⟩ := cb2_some hf
      refine kcMV (q0 := 0) (ci := 11) (As := [.int x1, .int x2, .int x3]) (rest := []) (st1 := [.int v23]) (wf := (w_Mo_get ct a_this a_forms a_sizes a_items a_moved a_bytes a_typed a_chances a_longs a_letters a_isThere a_pieceLongs a_pieceLetters a_song a_settings a_guess a_row a_least a_nights f_latest_23 f_at f_names f_pieces f_songLong f_guesses f_todo f_forms f_sizes f_items)) C (c_Mo_lacks l D ct a_this a_forms a_sizes a_items a_moved a_bytes a_typed a_chances a_longs a_letters a_isThere a_pieceLongs a_pieceLetters a_song a_settings a_guess a_row a_least a_nights f_at f_names f_pieces f_songLong f_guesses f_todo f_forms f_sizes f_latest x1 x2 x3 v23 f_latest_23 _ hc23) ⟨rfl, rfl⟩ yn_yX11_lacks tw_1047 tw_26 tw_1045 ⟨Nat.le_of_ble_eq_true rfl, Nat.le_of_ble_eq_true rfl⟩ ⟨Nat.zero_le _, Nat.zero_le _⟩ hP hD hS hA [0, 1, 2] [3] [1, 2, 3, 0] rfl rfl rfl rfl rfl (by decide) rfl rfl rfl rfl rfl rfl hl.1 rfl rfl (Nat.le_of_ble_eq_true rfl) dX11_get_23 rfl (fun H locs hP hD hS => ?_)
      refine lv_if_eq (tgt := 32) hx hb dX11_get_26 (by decide) (fun hc => ?_) (fun hc => ?_)
      · have hf := kpos hc hf
        refine lv_aload_n hx hb dX11_get_32 rfl (lv_at hl 0 rfl) ?_
        refine va_get (ci := 11) (v := .ref a_items) (C := RX11) (T := TX11) (N := 25) hx hb hts inX11 hown hK hP 0 rfl rfl 2 (by decide) (hts _ tw_946) (fun _ h9 => h9) rfl dX11_get_33 ?_
        refine lv_bipush (v := 60) hx hb dX11_get_36 (by decide) ?_
        refine lv_iload_n hx hb dX11_get_38 rfl (lv_at hl 1 rfl) ?_
        refine lv_imul hx hb dX11_get_39 ?_
        refine lv_iload_n hx hb dX11_get_40 rfl (lv_at hl 3 rfl) ?_
        refine lv_iadd hx hb dX11_get_41 ?_
        obtain ⟨hin, hf⟩ := rd_some hf
        generalize ev42 : f_items (Int32.toNatClampNeg ((60 * x1) + x3)) = v42 at hf
        refine kiald hx hb hK hP 3 0 rfl rfl hin ev42 dX11_get_42 ?_
        obtain ⟨e1, e2⟩ := ti2 hf
        subst e1; subst e2
        exact kretM C hP hD hS dX11_get_43
      · have hf := kneg hc hf
        exact t_Mo_get_b29 C hA a_this a_forms a_sizes a_items a_moved a_bytes a_typed a_chances a_longs a_letters a_isThere a_pieceLongs a_pieceLetters a_song a_settings a_guess a_row a_least a_nights f_at f_names f_pieces f_songLong f_guesses f_todo f_forms f_sizes f_items x1 x2 x3 r r_latest f_latest_23 hf _ _ hP hD hS _ (lv_sub hl [] rfl)
