def RM_Mo_spunBy : Room := { frames := 2, cells := 0, slots := 0, locals := 44 }
set_option maxHeartbeats 4000000 in
set_option maxRecDepth 100000 in
theorem c_Mo_spunBy (l : Launch) (D : va_G) (ct : Nat → ClassId) (a_this a_forms a_sizes a_items a_moved a_bytes a_typed a_chances a_longs a_letters a_isThere a_pieceLongs a_pieceLetters a_song a_settings a_guess a_row a_least a_nights : Nat) (f_latest : Int32) (f_at : Int32) (f_pieces : Int32) (f_songLong : Int32) (f_guesses : Int32) (f_todo : Int32) (F : Nat) (f_names : Int32) (f_chances : Nat → Int32) (f_least : Nat → Int64) (x1 : Int32) (x2 : Int32) (r : Int32) (hf : Mo_spunBy F f_names f_chances f_least x1 x2 = some r) : Met l yX11_spunBy (WS yX11_spunBy cX11_spunBy 3 (some .int)) RM_Mo_spunBy (va_Pc [.ref a_this, .int x1, .int x2] (PR D ct (w_Mo_spunBy ct a_this a_forms a_sizes a_items a_moved a_bytes a_typed a_chances a_longs a_letters a_isThere a_pieceLongs a_pieceLetters a_song a_settings a_guess a_row a_least a_nights f_latest f_at f_names f_pieces f_songLong f_guesses f_todo f_chances f_least))) (QR (some (.int r))) 0 0 (fun _ => False) := by
  refine kMetR yn_yX11_spunBy rfl (Nat.le_of_ble_eq_true rfl) ?_
  intro p e s m args below meth c C hP ls hl
  have hl : lv_has ls 3 [(0, .ref a_this), (1, .int x1), (2, .int x2)] := hl
  obtain ⟨hx, hb, hr, hml, hown, hts, hlk, hK, hN⟩ := id C
  unfold Mo_spunBy at hf
  refine lv_iload_n hx hb dX11_spunBy_0 rfl (lv_at hl 2 rfl) ?_
  refine lv_if_ne (tgt := 9) hx hb dX11_spunBy_1 (by decide) (fun hc => ?_) (fun hc => ?_)
  · have hf := kneg hc hf
    refine lv_iload_n hx hb dX11_spunBy_9 rfl (lv_at hl 1 rfl) ?_
    refine lv_i2l (v := Int32.toInt64 x1) hx hb dX11_spunBy_10 rfl ?_
    refine lv_aload_n hx hb dX11_spunBy_11 rfl (lv_at hl 0 rfl) ?_
    refine lv_iload_n hx hb dX11_spunBy_12 rfl (lv_at hl 2 rfl) ?_
    obtain ⟨v13, hc13, hf⟩ := cb1_some hf
    refine kcRV (q0 := 0) (ci := 11) (As := [.int x2]) (rest := [.long (Int32.toInt64 x1)]) (st1 := [.int v13, .long (Int32.toInt64 x1)]) C (c_Mo_weight l D ct a_this a_forms a_sizes a_items a_moved a_bytes a_typed a_chances a_longs a_letters a_isThere a_pieceLongs a_pieceLetters a_song a_settings a_guess a_row a_least a_nights f_latest f_at f_pieces f_songLong f_guesses f_todo F f_names f_chances x2 v13 hc13) ⟨rfl, rfl⟩ yn_yX11_weight tw_1192 tw_43 tw_1190 ⟨Nat.le_of_ble_eq_true rfl, Nat.le_of_ble_eq_true rfl⟩ ⟨Nat.zero_le _, Nat.zero_le _⟩ hP [0, 1] rfl rfl rfl rfl hl.1 rfl rfl (Nat.le_of_ble_eq_true rfl) dX11_spunBy_13 rfl ?_
    refine lv_i2l (v := Int32.toInt64 v13) hx hb dX11_spunBy_16 rfl ?_
    refine lv_lmul hx hb dX11_spunBy_17 ?_
    refine lv_aload_n hx hb dX11_spunBy_18 rfl (lv_at hl 0 rfl) ?_
    refine va_get (ci := 11) (v := .ref a_least) (C := RX11) (T := TX11) (N := 25) hx hb hts inX11 hown hK hP 0 rfl rfl 22 (by decide) (hts _ tw_967) (fun _ h9 => h9) rfl dX11_spunBy_19 ?_
    refine lv_iload_n hx hb dX11_spunBy_22 rfl (lv_at hl 2 rfl) ?_
    obtain ⟨hin, hf⟩ := rd_some hf
    generalize ev23 : f_least (Int32.toNatClampNeg x2) = v23 at hf
    refine klald hx hb hK hP 2 2 rfl rfl hin ev23 dX11_spunBy_23 ?_
    refine W.lcmp hx hb dX11_spunBy_24 ?_
    refine lv_if_lt (tgt := 32) hx hb dX11_spunBy_25 (by decide) (fun hc => ?_) (fun hc => ?_)
    · have hf := kpos hc hf
      refine lv_iconst (v := 0) hx hb dX11_spunBy_32 (by decide) ?_
      have e1 := Option.some.inj hf
      subst e1
      exact kretR C dX11_spunBy_33
    · have hf := kneg hc hf
      refine lv_iconst (v := 1) hx hb dX11_spunBy_28 (by decide) ?_
      refine lv_goto (tgt := 33) hx hb dX11_spunBy_29 (by decide) ?_
      have e1 := Option.some.inj hf
      subst e1
      exact kretR C dX11_spunBy_33
  · have hf := kpos hc hf
    refine lv_bipush (v := (-3)) hx hb dX11_spunBy_4 (by decide) ?_
    refine lv_goto (tgt := 33) hx hb dX11_spunBy_6 (by decide) ?_
    have e1 := Option.some.inj hf
    subst e1
    exact kretR C dX11_spunBy_33
def RM_Mo_spunOf : Room := { frames := 5, cells := 0, slots := 0, locals := 124 }
set_option maxHeartbeats 4000000 in
set_option maxRecDepth 100000 in
theorem c_Mo_spunOf (l : Launch) (D : va_G) (ct : Nat → ClassId) (a_this a_forms a_sizes a_items a_moved a_bytes a_typed a_chances a_longs a_letters a_isThere a_pieceLongs a_pieceLetters a_song a_settings a_guess a_row a_least a_nights : Nat) (f_latest : Int32) (f_at : Int32) (f_guesses : Int32) (F : Nat) (f_names : Int32) (f_pieces : Int32) (f_songLong : Int32) (f_chances : Nat → Int32) (f_longs : Nat → Int32) (f_letters : Nat → Int32) (f_isThere : Nat → Int32) (f_pieceLongs : Nat → Int32) (f_pieceLetters : Nat → Int32) (f_song : Nat → Int32) (f_settings : Nat → Int32) (f_todo : Int32) (f_least : Nat → Int64) (x1 : Int32) (r : Int32) (r_todo : Int32) (r_least : Nat → Int64) (sz : Nat) (hf : Mo_spunOf F f_names f_pieces f_songLong f_chances f_longs f_letters f_isThere f_pieceLongs f_pieceLetters f_song f_settings f_todo f_least x1 = some (r, r_todo, r_least)) : Met l yX11_spunOf (WS yX11_spunOf cX11_spunOf 3 (some .int)) RM_Mo_spunOf (va_Pc [.ref a_this, .int x1] (PM D ct sz (w_Mo_spunOf ct a_this a_forms a_sizes a_items a_moved a_bytes a_typed a_chances a_longs a_letters a_isThere a_pieceLongs a_pieceLetters a_song a_settings a_guess a_row a_least a_nights f_latest f_at f_names f_pieces f_songLong f_guesses f_todo f_chances f_longs f_letters f_isThere f_pieceLongs f_pieceLetters f_song f_settings f_least))) (QM D (some (.int r)) (w_Mo_spunOf ct a_this a_forms a_sizes a_items a_moved a_bytes a_typed a_chances a_longs a_letters a_isThere a_pieceLongs a_pieceLetters a_song a_settings a_guess a_row a_least a_nights f_latest f_at f_names f_pieces f_songLong f_guesses r_todo f_chances f_longs f_letters f_isThere f_pieceLongs f_pieceLetters f_song f_settings r_least) (va_A (w_Mo_spunOf ct a_this a_forms a_sizes a_items a_moved a_bytes a_typed a_chances a_longs a_letters a_isThere a_pieceLongs a_pieceLetters a_song a_settings a_guess a_row a_least a_nights f_latest f_at f_names f_pieces f_songLong f_guesses f_todo f_chances f_longs f_letters f_isThere f_pieceLongs f_pieceLetters f_song f_settings f_least) sz)) 0 0 (va_A (w_Mo_spunOf ct a_this a_forms a_sizes a_items a_moved a_bytes a_typed a_chances a_longs a_letters a_isThere a_pieceLongs a_pieceLetters a_song a_settings a_guess a_row a_least a_nights f_latest f_at f_names f_pieces f_songLong f_guesses f_todo f_chances f_longs f_letters f_isThere f_pieceLongs f_pieceLetters f_song f_settings f_least) sz) := by
  refine kMetM yn_yX11_spunOf rfl (Nat.le_of_ble_eq_true rfl) ?_
  intro p e s m args below meth c A C hA hP hD ls hl
  have hl : lv_has ls 3 [(0, .ref a_this), (1, .int x1)] := hl
  have hS : va_S A s.heap s.heap [] := va_S.rf
  obtain ⟨hx, hb, hr, hml, hown, hts, hlk, hK, hN⟩ := id C
  unfold Mo_spunOf at hf
  refine lv_aload_n hx hb dX11_spunOf_0 rfl (lv_at hl 0 rfl) ?_
  obtain ⟨v1, hc1, hf⟩ := cb1_some hf
  refine kcRV (q0 := 0) (ci := 11) (As := []) (rest := []) (st1 := [.int v1]) C (c_Mo_fitsNow l D ct a_this a_forms a_sizes a_items a_moved a_bytes a_typed a_chances a_longs a_letters a_isThere a_pieceLongs a_pieceLetters a_song a_settings a_guess a_row a_least a_nights f_latest f_at f_guesses f_todo F f_names f_pieces f_songLong f_longs f_letters f_isThere f_pieceLongs f_pieceLetters f_song v1 hc1) ⟨rfl, rfl⟩ yn_yX11_fitsNow tw_1158 tw_38 tw_1156 ⟨Nat.le_of_ble_eq_true rfl, Nat.le_of_ble_eq_true rfl⟩ ⟨Nat.zero_le _, Nat.zero_le _⟩ hP [0, 2, 3, 4, 5, 6, 7] rfl rfl rfl rfl hl.1 rfl rfl (Nat.le_of_ble_eq_true rfl) dX11_spunOf_1 rfl ?_
  refine lv_istore_n (lv' := [(2, .int v1), (0, .ref a_this), (1, .int x1)]) hx hb dX11_spunOf_4 rfl hl (by decide) rfl (fun ls hl => ?_)
  refine lv_aload_n hx hb dX11_spunOf_5 rfl (lv_at hl 1 rfl) ?_
  refine lv_iconst (v := 0) hx hb dX11_spunOf_6 (by decide) ?_
  refine lv_iload_n hx hb dX11_spunOf_7 rfl (lv_at hl 0 rfl) ?_
  obtain ⟨f_todo_8, f_least_8, hc8, hf⟩ := cb2_some hf
  refine kcMV (q0 := 0) (ci := 11) (As := [.int 0, .int v1]) (rest := []) (st1 := []) (wf := (w_Mo_spunOf ct a_this a_forms a_sizes a_items a_moved a_bytes a_typed a_chances a_longs a_letters a_isThere a_pieceLongs a_pieceLetters a_song a_settings a_guess a_row a_least a_nights f_latest f_at f_names f_pieces f_songLong f_guesses f_todo_8 f_chances f_longs f_letters f_isThere f_pieceLongs f_pieceLetters f_song f_settings f_least_8)) C (c_Mo_findWisest l D ct a_this a_forms a_sizes a_items a_moved a_bytes a_typed a_chances a_longs a_letters a_isThere a_pieceLongs a_pieceLetters a_song a_settings a_guess a_row a_least a_nights f_latest f_at f_pieces f_songLong f_guesses F f_names f_chances f_longs f_letters f_settings f_todo f_least 0 v1 f_todo_8 f_least_8 _ hc8) ⟨rfl, rfl⟩ yn_yX11_findWisest tw_1260 tw_53 tw_1258 ⟨Nat.le_of_ble_eq_true rfl, Nat.le_of_ble_eq_true rfl⟩ ⟨Nat.zero_le _, Nat.zero_le _⟩ hP hD hS hA [0, 1, 2, 3, 8, 9] [4, 5, 6, 7] [4, 5, 6, 7, 0, 1, 2, 3, 8, 9] rfl rfl rfl rfl rfl (by decide) rfl rfl rfl rfl rfl rfl hl.1 rfl rfl (Nat.le_of_ble_eq_true rfl) dX11_spunOf_8 rfl (fun H locs hP hD hS => ?_)
  refine lv_aload_n hx hb dX11_spunOf_11 rfl (lv_at hl 1 rfl) ?_
  refine lv_iload_n hx hb dX11_spunOf_12 rfl (lv_at hl 2 rfl) ?_
  refine lv_iload_n hx hb dX11_spunOf_13 rfl (lv_at hl 0 rfl) ?_
  obtain ⟨v14, hc14, hf⟩ := cb1_some hf
  refine kcRV (q0 := 0) (ci := 11) (As := [.int x1, .int v1]) (rest := []) (st1 := [.int v14]) C (c_Mo_spunBy l D ct a_this a_forms a_sizes a_items a_moved a_bytes a_typed a_chances a_longs a_letters a_isThere a_pieceLongs a_pieceLetters a_song a_settings a_guess a_row a_least a_nights f_latest f_at f_pieces f_songLong f_guesses f_todo_8 F f_names f_chances f_least_8 x1 v1 v14 hc14) ⟨rfl, rfl⟩ yn_yX11_spunBy tw_1325 tw_65 tw_1323 ⟨Nat.le_of_ble_eq_true rfl, Nat.le_of_ble_eq_true rfl⟩ ⟨Nat.zero_le _, Nat.zero_le _⟩ hP [0, 1, 9] rfl rfl rfl rfl hl.1 rfl rfl (Nat.le_of_ble_eq_true rfl) dX11_spunOf_14 rfl ?_
  obtain ⟨e1, e2, e3⟩ := ti3 hf
  subst e1; subst e2; subst e3
  exact kretM C hP hD hS dX11_spunOf_17
def RM_Mo_spun : Room := { frames := 6, cells := 0, slots := 0, locals := 146 }
set_option maxHeartbeats 4000000 in
set_option maxRecDepth 100000 in
theorem c_Mo_spun (l : Launch) (D : va_G) (ct : Nat → ClassId) (a_this a_forms a_sizes a_items a_moved a_bytes a_typed a_chances a_longs a_letters a_isThere a_pieceLongs a_pieceLetters a_song a_settings a_guess a_row a_least a_nights : Nat) (f_latest : Int32) (f_guesses : Int32) (F : Nat) (f_bytes : Nat → Int32) (f_typed : Nat → Int32) (f_settings : Nat → Int32) (f_at : Int32) (f_names : Int32) (f_pieces : Int32) (f_songLong : Int32) (f_todo : Int32) (f_chances : Nat → Int32) (f_longs : Nat → Int32) (f_letters : Nat → Int32) (f_isThere : Nat → Int32) (f_pieceLongs : Nat → Int32) (f_pieceLetters : Nat → Int32) (f_song : Nat → Int32) (f_least : Nat → Int64) (x1 : Int32) (r : Int32) (r_at : Int32) (r_names : Int32) (r_pieces : Int32) (r_songLong : Int32) (r_todo : Int32) (r_chances : Nat → Int32) (r_longs : Nat → Int32) (r_letters : Nat → Int32) (r_isThere : Nat → Int32) (r_pieceLongs : Nat → Int32) (r_pieceLetters : Nat → Int32) (r_song : Nat → Int32) (r_least : Nat → Int64) (sz : Nat) (hf : Mo_spun F f_bytes f_typed f_settings f_at f_names f_pieces f_songLong f_todo f_chances f_longs f_letters f_isThere f_pieceLongs f_pieceLetters f_song f_least x1 = some (r, r_at, r_names, r_pieces, r_songLong, r_todo, r_chances, r_longs, r_letters, r_isThere, r_pieceLongs, r_pieceLetters, r_song, r_least)) : Met l yX11_spun (WS yX11_spun cX11_spun 2 (some .int)) RM_Mo_spun (va_Pc [.ref a_this, .int x1] (PM D ct sz (w_Mo_spun ct a_this a_forms a_sizes a_items a_moved a_bytes a_typed a_chances a_longs a_letters a_isThere a_pieceLongs a_pieceLetters a_song a_settings a_guess a_row a_least a_nights f_latest f_at f_names f_pieces f_songLong f_guesses f_todo f_bytes f_typed f_chances f_longs f_letters f_isThere f_pieceLongs f_pieceLetters f_song f_settings f_least))) (QM D (some (.int r)) (w_Mo_spun ct a_this a_forms a_sizes a_items a_moved a_bytes a_typed a_chances a_longs a_letters a_isThere a_pieceLongs a_pieceLetters a_song a_settings a_guess a_row a_least a_nights f_latest r_at r_names r_pieces r_songLong f_guesses r_todo f_bytes f_typed r_chances r_longs r_letters r_isThere r_pieceLongs r_pieceLetters r_song f_settings r_least) (va_A (w_Mo_spun ct a_this a_forms a_sizes a_items a_moved a_bytes a_typed a_chances a_longs a_letters a_isThere a_pieceLongs a_pieceLetters a_song a_settings a_guess a_row a_least a_nights f_latest f_at f_names f_pieces f_songLong f_guesses f_todo f_bytes f_typed f_chances f_longs f_letters f_isThere f_pieceLongs f_pieceLetters f_song f_settings f_least) sz)) 0 0 (va_A (w_Mo_spun ct a_this a_forms a_sizes a_items a_moved a_bytes a_typed a_chances a_longs a_letters a_isThere a_pieceLongs a_pieceLetters a_song a_settings a_guess a_row a_least a_nights f_latest f_at f_names f_pieces f_songLong f_guesses f_todo f_bytes f_typed f_chances f_longs f_letters f_isThere f_pieceLongs f_pieceLetters f_song f_settings f_least) sz) := by
  refine kMetM yn_yX11_spun rfl (Nat.le_of_ble_eq_true rfl) ?_
  intro p e s m args below meth c A C hA hP hD ls hl
  have hl : lv_has ls 2 [(0, .ref a_this), (1, .int x1)] := hl
  have hS : va_S A s.heap s.heap [] := va_S.rf
  obtain ⟨hx, hb, hr, hml, hown, hts, hlk, hK, hN⟩ := id C
  unfold Mo_spun at hf
  refine lv_aload_n hx hb dX11_spun_0 rfl (lv_at hl 0 rfl) ?_
  obtain ⟨f_at_1, f_names_1, f_pieces_1, f_songLong_1, f_chances_1, f_longs_1, f_letters_1, f_isThere_1, f_pieceLongs_1, f_pieceLetters_1, f_song_1, hc1, hf⟩ := cb11_some hf
  refine kcMV (q0 := 0) (ci := 11) (As := []) (rest := []) (st1 := []) (wf := (w_Mo_spun ct a_this a_forms a_sizes a_items a_moved a_bytes a_typed a_chances a_longs a_letters a_isThere a_pieceLongs a_pieceLetters a_song a_settings a_guess a_row a_least a_nights f_latest f_at_1 f_names_1 f_pieces_1 f_songLong_1 f_guesses f_todo f_bytes f_typed f_chances_1 f_longs_1 f_letters_1 f_isThere_1 f_pieceLongs_1 f_pieceLetters_1 f_song_1 f_settings f_least)) C (c_Mo_reads l D ct a_this a_forms a_sizes a_items a_moved a_bytes a_typed a_chances a_longs a_letters a_isThere a_pieceLongs a_pieceLetters a_song a_settings a_guess a_row a_least a_nights f_latest f_guesses f_todo F f_bytes f_typed f_at f_names f_pieces f_songLong f_chances f_longs f_letters f_isThere f_pieceLongs f_pieceLetters f_song f_at_1 f_names_1 f_pieces_1 f_songLong_1 f_chances_1 f_longs_1 f_letters_1 f_isThere_1 f_pieceLongs_1 f_pieceLetters_1 f_song_1 _ hc1) ⟨rfl, rfl⟩ yn_yX11_reads tw_1121 tw_35 tw_1119 ⟨Nat.le_of_ble_eq_true rfl, Nat.le_of_ble_eq_true rfl⟩ ⟨Nat.zero_le _, Nat.zero_le _⟩ hP hD hS hA [0, 1, 2, 3, 4, 5, 6, 7, 8, 9] [10, 11] [2, 3, 4, 5, 6, 7, 8, 9, 10, 11, 0, 1] rfl rfl rfl rfl rfl (by decide) rfl rfl rfl rfl rfl rfl hl.1 rfl rfl (Nat.le_of_ble_eq_true rfl) dX11_spun_1 rfl (fun H locs hP hD hS => ?_)
  refine lv_iload_n hx hb dX11_spun_4 rfl (lv_at hl 1 rfl) ?_
  refine lv_i2l (v := Int32.toInt64 x1) hx hb dX11_spun_5 rfl ?_
  refine lv_lconst (v := 0) hx hb dX11_spun_6 (by decide) ?_
  refine lv_ldc2 (v := 99999) hx hb hown (hts _ tw_1318) dX11_spun_7 ?_
  obtain ⟨v10, hc10, hf⟩ := cb1_some hf
  refine kcRS (As := [.long (Int32.toInt64 x1), .long 0, .long 99999]) (rest := []) (st1 := [.int v10]) C (c_Mo_in l D ct (Int32.toInt64 x1) 0 99999 v10 hc10) ⟨rfl, rfl⟩ yn_yX11_in tw_1031 tw_1030 ⟨Nat.le_of_ble_eq_true rfl, Nat.le_of_ble_eq_true rfl⟩ ⟨Nat.zero_le _, Nat.zero_le _⟩ hP [] rfl hl.1 rfl rfl (Nat.le_of_ble_eq_true rfl) dX11_spun_10 rfl ?_
  refine lv_if_eq (tgt := 24) hx hb dX11_spun_13 (by decide) (fun hc => ?_) (fun hc => ?_)
  · have hf := kpos hc hf
    refine lv_bipush (v := (-2)) hx hb dX11_spun_24 (by decide) ?_
    obtain ⟨e1, e2, e3, e4, e5, e6, e7, e8, e9, e10, e11, e12, e13, e14⟩ := ti14 hf
    subst e1; subst e2; subst e3; subst e4; subst e5; subst e6; subst e7; subst e8; subst e9; subst e10; subst e11; subst e12; subst e13; subst e14
    exact kretM C hP hD hS dX11_spun_26
  · have hf := kneg hc hf
    refine lv_aload_n hx hb dX11_spun_16 rfl (lv_at hl 0 rfl) ?_
    refine lv_iload_n hx hb dX11_spun_17 rfl (lv_at hl 1 rfl) ?_
    obtain ⟨v18, f_todo_18, f_least_18, hc18, hf⟩ := cb3_some hf
    refine kcMV (q0 := 0) (ci := 11) (As := [.int x1]) (rest := []) (st1 := [.int v18]) (wf := (w_Mo_spun ct a_this a_forms a_sizes a_items a_moved a_bytes a_typed a_chances a_longs a_letters a_isThere a_pieceLongs a_pieceLetters a_song a_settings a_guess a_row a_least a_nights f_latest f_at_1 f_names_1 f_pieces_1 f_songLong_1 f_guesses f_todo_18 f_bytes f_typed f_chances_1 f_longs_1 f_letters_1 f_isThere_1 f_pieceLongs_1 f_pieceLetters_1 f_song_1 f_settings f_least_18)) C (c_Mo_spunOf l D ct a_this a_forms a_sizes a_items a_moved a_bytes a_typed a_chances a_longs a_letters a_isThere a_pieceLongs a_pieceLetters a_song a_settings a_guess a_row a_least a_nights f_latest f_at_1 f_guesses F f_names_1 f_pieces_1 f_songLong_1 f_chances_1 f_longs_1 f_letters_1 f_isThere_1 f_pieceLongs_1 f_pieceLetters_1 f_song_1 f_settings f_todo f_least x1 v18 f_todo_18 f_least_18 _ hc18) ⟨rfl, rfl⟩ yn_yX11_spunOf tw_1321 tw_64 tw_1319 ⟨Nat.le_of_ble_eq_true rfl, Nat.le_of_ble_eq_true rfl⟩ ⟨Nat.zero_le _, Nat.zero_le _⟩ hP hD hS hA [0, 3, 4, 5, 6, 7, 8, 9, 10, 11] [1, 2] [2, 0, 1, 3, 4, 5, 6, 7, 8, 9, 10, 11] rfl rfl rfl rfl rfl (by decide) rfl rfl rfl rfl rfl rfl hl.1 rfl rfl (Nat.le_of_ble_eq_true rfl) dX11_spun_18 rfl (fun H locs hP hD hS => ?_)
    refine lv_goto (tgt := 26) hx hb dX11_spun_21 (by decide) ?_
    obtain ⟨e1, e2, e3, e4, e5, e6, e7, e8, e9, e10, e11, e12, e13, e14⟩ := ti14 hf
    subst e1; subst e2; subst e3; subst e4; subst e5; subst e6; subst e7; subst e8; subst e9; subst e10; subst e11; subst e12; subst e13; subst e14
    exact kretM C hP hD hS dX11_spun_26
def RM_Mo_poolOf : Room := { frames := 2, cells := 0, slots := 0, locals := 51 }
set_option maxHeartbeats 4000000 in
set_option maxRecDepth 100000 in
theorem t_Mo_poolOf_b21 {p : Program} {l : Launch} {e : Env} {s : State} {m : MethodId} {args : Array Value} {below : List Frame} {meth : Method} {c : Code} {D : va_G} {ct : Nat → ClassId} (C : CX p s m args meth c RX11 cX11_poolOf 4 (some .int) D ct) (a_this a_forms a_sizes a_items a_moved a_bytes a_typed a_chances a_longs a_letters a_isThere a_pieceLongs a_pieceLetters a_song a_settings a_guess a_row a_least a_nights : Nat) (f_latest : Int32) (f_at : Int32) (f_guesses : Int32) (f_todo : Int32) (F : Nat) (f_names : Int32) (f_pieces : Int32) (f_songLong : Int32) (f_longs : Nat → Int32) (f_letters : Nat → Int32) (f_isThere : Nat → Int32) (f_pieceLongs : Nat → Int32) (f_pieceLetters : Nat → Int32) (f_song : Nat → Int32) (x1 : Int32) (x2 : Int32) (x3 : Int32) (r : Int32) : ∀ (k1 : Int32), Mo_poolOf_b21 F f_names f_pieces f_songLong f_longs f_letters f_isThere f_pieceLongs f_pieceLetters f_song x1 x2 x3 k1 = some r → va_P D vwCl (w_Mo_poolOf ct a_this a_forms a_sizes a_items a_moved a_bytes a_typed a_chances a_longs a_letters a_isThere a_pieceLongs a_pieceLetters a_song a_settings a_guess a_row a_least a_nights f_latest f_at f_names f_pieces f_songLong f_guesses f_todo f_longs f_letters f_isThere f_pieceLongs f_pieceLetters f_song) s.heap → ∀ ls : Array Slot, lv_has ls 4 [] → W p l e RM_Mo_poolOf s m args below meth c s.heap [] 0 0 (MQ below (QR (some (.int r))) args s 0 0 (fun _ => False)) (F0 m 21 ls [.int k1, .ref a_this]) := by
  obtain ⟨hx, hb, hr, hml, hown, hts, hlk, hK, hN⟩ := id C
  intro k1 hf hP ls hl
  unfold Mo_poolOf_b21 at hf
  obtain ⟨v21, hc21, hf⟩ := cb1_some hf
  refine kcRV (q0 := 0) (ci := 11) (As := [.int k1]) (rest := []) (st1 := [.int v21]) C (c_Mo_fitsBy l D ct a_this a_forms a_sizes a_items a_moved a_bytes a_typed a_chances a_longs a_letters a_isThere a_pieceLongs a_pieceLetters a_song a_settings a_guess a_row a_least a_nights f_latest f_at f_guesses f_todo F f_names f_pieces f_songLong f_longs f_letters f_isThere f_pieceLongs f_pieceLetters f_song k1 v21 hc21) ⟨rfl, rfl⟩ yn_yX11_fitsBy tw_1162 tw_39 tw_1160 ⟨Nat.le_of_ble_eq_true rfl, Nat.le_of_ble_eq_true rfl⟩ ⟨Nat.zero_le _, Nat.zero_le _⟩ hP [0, 1, 2, 3, 4, 5, 6] rfl rfl rfl rfl hl.1 rfl rfl (Nat.le_of_ble_eq_true rfl) dX11_poolOf_21 rfl ?_
  obtain ⟨v24, hc24, hf⟩ := cb1_some hf
  refine kcRS (As := [.int v21]) (rest := []) (st1 := [.int v24]) C (c_Mo_ones l D ct F v21 v24 hc24) ⟨rfl, rfl⟩ yn_yX11_ones tw_1300 tw_1299 ⟨Nat.le_of_ble_eq_true rfl, Nat.le_of_ble_eq_true rfl⟩ ⟨Nat.zero_le _, Nat.zero_le _⟩ hP [] rfl hl.1 rfl rfl (Nat.le_of_ble_eq_true rfl) dX11_poolOf_24 rfl ?_
  have e1 := Option.some.inj hf
  subst e1
  exact kretR C dX11_poolOf_27
set_option maxHeartbeats 4000000 in
set_option maxRecDepth 100000 in
theorem c_Mo_poolOf (l : Launch) (D : va_G) (ct : Nat → ClassId) (a_this a_forms a_sizes a_items a_moved a_bytes a_typed a_chances a_longs a_letters a_isThere a_pieceLongs a_pieceLetters a_song a_settings a_guess a_row a_least a_nights : Nat) (f_latest : Int32) (f_at : Int32) (f_guesses : Int32) (f_todo : Int32) (F : Nat) (f_names : Int32) (f_pieces : Int32) (f_songLong : Int32) (f_longs : Nat → Int32) (f_letters : Nat → Int32) (f_isThere : Nat → Int32) (f_pieceLongs : Nat → Int32) (f_pieceLetters : Nat → Int32) (f_song : Nat → Int32) (x1 : Int32) (x2 : Int32) (x3 : Int32) (r : Int32) (hf : Mo_poolOf F f_names f_pieces f_songLong f_longs f_letters f_isThere f_pieceLongs f_pieceLetters f_song x1 x2 x3 = some r) : Met l yX11_poolOf (WS yX11_poolOf cX11_poolOf 4 (some .int)) RM_Mo_poolOf (va_Pc [.ref a_this, .int x1, .int x2, .int x3] (PR D ct (w_Mo_poolOf ct a_this a_forms a_sizes a_items a_moved a_bytes a_typed a_chances a_longs a_letters a_isThere a_pieceLongs a_pieceLetters a_song a_settings a_guess a_row a_least a_nights f_latest f_at f_names f_pieces f_songLong f_guesses f_todo f_longs f_letters f_isThere f_pieceLongs f_pieceLetters f_song))) (QR (some (.int r))) 0 0 (fun _ => False) := by
  refine kMetR yn_yX11_poolOf rfl (Nat.le_of_ble_eq_true rfl) ?_
  intro p e s m args below meth c C hP ls hl
  have hl : lv_has ls 4 [(0, .ref a_this), (1, .int x1), (2, .int x2), (3, .int x3)] := hl
  obtain ⟨hx, hb, hr, hml, hown, hts, hlk, hK, hN⟩ := id C
  unfold Mo_poolOf at hf
  refine lv_aload_n hx hb dX11_poolOf_0 rfl (lv_at hl 0 rfl) ?_
  refine lv_iload_n hx hb dX11_poolOf_1 rfl (lv_at hl 3 rfl) ?_
  refine lv_if_ne (tgt := 9) hx hb dX11_poolOf_2 (by decide) (fun hc => ?_) (fun hc => ?_)
  · have hf := kneg hc hf
    refine lv_iload_n hx hb dX11_poolOf_9 rfl (lv_at hl 3 rfl) ?_
    refine lv_iconst (v := 1) hx hb dX11_poolOf_10 (by decide) ?_
    refine lv_icmp_ne (tgt := 18) hx hb dX11_poolOf_11 (by decide) (fun hc => ?_) (fun hc => ?_)
    · have hf := kneg hc hf
      refine lv_iload_n hx hb dX11_poolOf_18 rfl (lv_at hl 1 rfl) ?_
      refine lv_iload_n hx hb dX11_poolOf_19 rfl (lv_at hl 2 rfl) ?_
      refine lv_ior hx hb dX11_poolOf_20 ?_
      exact t_Mo_poolOf_b21 C a_this a_forms a_sizes a_items a_moved a_bytes a_typed a_chances a_longs a_letters a_isThere a_pieceLongs a_pieceLetters a_song a_settings a_guess a_row a_least a_nights f_latest f_at f_guesses f_todo F f_names f_pieces f_songLong f_longs f_letters f_isThere f_pieceLongs f_pieceLetters f_song x1 x2 x3 r (x1 ||| x2) hf hP _ (lv_sub hl [] rfl)
    · have hf := kpos hc hf
      refine lv_iload_n hx hb dX11_poolOf_14 rfl (lv_at hl 2 rfl) ?_
      refine lv_goto (tgt := 21) hx hb dX11_poolOf_15 (by decide) ?_
      exact t_Mo_poolOf_b21 C a_this a_forms a_sizes a_items a_moved a_bytes a_typed a_chances a_longs a_letters a_isThere a_pieceLongs a_pieceLetters a_song a_settings a_guess a_row a_least a_nights f_latest f_at f_guesses f_todo F f_names f_pieces f_songLong f_longs f_letters f_isThere f_pieceLongs f_pieceLetters f_song x1 x2 x3 r x2 hf hP _ (lv_sub hl [] rfl)
  · have hf := kpos hc hf
    refine lv_iload_n hx hb dX11_poolOf_5 rfl (lv_at hl 1 rfl) ?_
    refine lv_goto (tgt := 21) hx hb dX11_poolOf_6 (by decide) ?_
    exact t_Mo_poolOf_b21 C a_this a_forms a_sizes a_items a_moved a_bytes a_typed a_chances a_longs a_letters a_isThere a_pieceLongs a_pieceLetters a_song a_settings a_guess a_row a_least a_nights f_latest f_at f_guesses f_todo F f_names f_pieces f_songLong f_longs f_letters f_isThere f_pieceLongs f_pieceLetters f_song x1 x2 x3 r x1 hf hP _ (lv_sub hl [] rfl)
def RM_Mo_pool : Room := { frames := 5, cells := 0, slots := 0, locals := 111 }
set_option maxHeartbeats 4000000 in
set_option maxRecDepth 100000 in
theorem c_Mo_pool (l : Launch) (D : va_G) (ct : Nat → ClassId) (a_this a_forms a_sizes a_items a_moved a_bytes a_typed a_chances a_longs a_letters a_isThere a_pieceLongs a_pieceLetters a_song a_settings a_guess a_row a_least a_nights : Nat) (f_latest : Int32) (f_guesses : Int32) (f_todo : Int32) (F : Nat) (f_bytes : Nat → Int32) (f_typed : Nat → Int32) (f_at : Int32) (f_names : Int32) (f_pieces : Int32) (f_songLong : Int32) (f_chances : Nat → Int32) (f_longs : Nat → Int32) (f_letters : Nat → Int32) (f_isThere : Nat → Int32) (f_pieceLongs : Nat → Int32) (f_pieceLetters : Nat → Int32) (f_song : Nat → Int32) (x1 : Int32) (x2 : Int32) (x3 : Int32) (r : Int32) (r_at : Int32) (r_names : Int32) (r_pieces : Int32) (r_songLong : Int32) (r_chances : Nat → Int32) (r_longs : Nat → Int32) (r_letters : Nat → Int32) (r_isThere : Nat → Int32) (r_pieceLongs : Nat → Int32) (r_pieceLetters : Nat → Int32) (r_song : Nat → Int32) (sz : Nat) (hf : Mo_pool F f_bytes f_typed f_at f_names f_pieces f_songLong f_chances f_longs f_letters f_isThere f_pieceLongs f_pieceLetters f_song x1 x2 x3 = some (r, r_at, r_names, r_pieces, r_songLong, r_chances, r_longs, r_letters, r_isThere, r_pieceLongs, r_pieceLetters, r_song)) : Met l yX11_pool (WS yX11_pool cX11_pool 4 (some .int)) RM_Mo_pool (va_Pc [.ref a_this, .int x1, .int x2, .int x3] (PM D ct sz (w_Mo_pool ct a_this a_forms a_sizes a_items a_moved a_bytes a_typed a_chances a_longs a_letters a_isThere a_pieceLongs a_pieceLetters a_song a_settings a_guess a_row a_least a_nights f_latest f_at f_names f_pieces f_songLong f_guesses f_todo f_bytes f_typed f_chances f_longs f_letters f_isThere f_pieceLongs f_pieceLetters f_song))) (QM D (some (.int r)) (w_Mo_pool ct a_this a_forms a_sizes a_items a_moved a_bytes a_typed a_chances a_longs a_letters a_isThere a_pieceLongs a_pieceLetters a_song a_settings a_guess a_row a_least a_nights f_latest r_at r_names r_pieces r_songLong f_guesses f_todo f_bytes f_typed r_chances r_longs r_letters r_isThere r_pieceLongs r_pieceLetters r_song) (va_A (w_Mo_pool ct a_this a_forms a_sizes a_items a_moved a_bytes a_typed a_chances a_longs a_letters a_isThere a_pieceLongs a_pieceLetters a_song a_settings a_guess a_row a_least a_nights f_latest f_at f_names f_pieces f_songLong f_guesses f_todo f_bytes f_typed f_chances f_longs f_letters f_isThere f_pieceLongs f_pieceLetters f_song) sz)) 0 0 (va_A (w_Mo_pool ct a_this a_forms a_sizes a_items a_moved a_bytes a_typed a_chances a_longs a_letters a_isThere a_pieceLongs a_pieceLetters a_song a_settings a_guess a_row a_least a_nights f_latest f_at f_names f_pieces f_songLong f_guesses f_todo f_bytes f_typed f_chances f_longs f_letters f_isThere f_pieceLongs f_pieceLetters f_song) sz) := by
  refine kMetM yn_yX11_pool rfl (Nat.le_of_ble_eq_true rfl) ?_
  intro p e s m args below meth c A C hA hP hD ls hl
  have hl : lv_has ls 4 [(0, .ref a_this), (1, .int x1), (2, .int x2), (3, .int x3)] := hl
  have hS : va_S A s.heap s.heap [] := va_S.rf
  obtain ⟨hx, hb, hr, hml, hown, hts, hlk, hK, hN⟩ := id C
  unfold Mo_pool at hf
  refine lv_aload_n hx hb dX11_pool_0 rfl (lv_at hl 0 rfl) ?_
  obtain ⟨f_at_1, f_names_1, f_pieces_1, f_songLong_1, f_chances_1, f_longs_1, f_letters_1, f_isThere_1, f_pieceLongs_1, f_pieceLetters_1, f_song_1, hc1, hf⟩ := cb11_some hf
  refine kcMV (q0 := 0) (ci := 11) (As := []) (rest := []) (st1 := []) (wf := (w_Mo_pool ct a_this a_forms a_sizes a_items a_moved a_bytes a_typed a_chances a_longs a_letters a_isThere a_pieceLongs a_pieceLetters a_song a_settings a_guess a_row a_least a_nights f_latest f_at_1 f_names_1 f_pieces_1 f_songLong_1 f_guesses f_todo f_bytes f_typed f_chances_1 f_longs_1 f_letters_1 f_isThere_1 f_pieceLongs_1 f_pieceLetters_1 f_song_1)) C (c_Mo_reads l D ct a_this a_forms a_sizes a_items a_moved a_bytes a_typed a_chances a_longs a_letters a_isThere a_pieceLongs a_pieceLetters a_song a_settings a_guess a_row a_least a_nights f_latest f_guesses f_todo F f_bytes f_typed f_at f_names f_pieces f_songLong f_chances f_longs f_letters f_isThere f_pieceLongs f_pieceLetters f_song f_at_1 f_names_1 f_pieces_1 f_songLong_1 f_chances_1 f_longs_1 f_letters_1 f_isThere_1 f_pieceLongs_1 f_pieceLetters_1 f_song_1 _ hc1) ⟨rfl, rfl⟩ yn_yX11_reads tw_1121 tw_35 tw_1119 ⟨Nat.le_of_ble_eq_true rfl, Nat.le_of_ble_eq_true rfl⟩ ⟨Nat.zero_le _, Nat.zero_le _⟩ hP hD hS hA [0, 1, 2, 3, 4, 5, 6, 7, 8, 9] [] [0, 1, 2, 3, 4, 5, 6, 7, 8, 9] rfl rfl rfl rfl rfl (by decide) rfl rfl rfl rfl rfl rfl hl.1 rfl rfl (Nat.le_of_ble_eq_true rfl) dX11_pool_1 rfl (fun H locs hP hD hS => ?_)
  refine lv_iload_n hx hb dX11_pool_4 rfl (lv_at hl 1 rfl) ?_
  refine lv_i2l (v := Int32.toInt64 x1) hx hb dX11_pool_5 rfl ?_
  refine lv_lconst (v := 0) hx hb dX11_pool_6 (by decide) ?_
  refine lv_ldc2 (v := 63) hx hb hown (hts _ tw_1331) dX11_pool_7 ?_
  obtain ⟨v10, hc10, hf⟩ := cb1_some hf
  refine kcRS (As := [.long (Int32.toInt64 x1), .long 0, .long 63]) (rest := []) (st1 := [.int v10]) C (c_Mo_in l D ct (Int32.toInt64 x1) 0 63 v10 hc10) ⟨rfl, rfl⟩ yn_yX11_in tw_1031 tw_1030 ⟨Nat.le_of_ble_eq_true rfl, Nat.le_of_ble_eq_true rfl⟩ ⟨Nat.zero_le _, Nat.zero_le _⟩ hP [] rfl hl.1 rfl rfl (Nat.le_of_ble_eq_true rfl) dX11_pool_10 rfl ?_
  refine lv_if_eq (tgt := 50) hx hb dX11_pool_13 (by decide) (fun hc => ?_) (fun hc => ?_)
  · have hf := kpos hc hf
    refine lv_bipush (v := (-2)) hx hb dX11_pool_50 (by decide) ?_
    obtain ⟨e1, e2, e3, e4, e5, e6, e7, e8, e9, e10, e11, e12⟩ := ti12 hf
    subst e1; subst e2; subst e3; subst e4; subst e5; subst e6; subst e7; subst e8; subst e9; subst e10; subst e11; subst e12
    exact kretM C hP hD hS dX11_pool_52
  · have hf := kneg hc hf
    refine lv_iload_n hx hb dX11_pool_16 rfl (lv_at hl 2 rfl) ?_
    refine lv_i2l (v := Int32.toInt64 x2) hx hb dX11_pool_17 rfl ?_
    refine lv_lconst (v := 0) hx hb dX11_pool_18 (by decide) ?_
    refine lv_ldc2 (v := 63) hx hb hown (hts _ tw_1331) dX11_pool_19 ?_
    obtain ⟨v22, hc22, hf⟩ := cb1_some hf
    refine kcRS (As := [.long (Int32.toInt64 x2), .long 0, .long 63]) (rest := []) (st1 := [.int v22]) C (c_Mo_in l D ct (Int32.toInt64 x2) 0 63 v22 hc22) ⟨rfl, rfl⟩ yn_yX11_in tw_1031 tw_1030 ⟨Nat.le_of_ble_eq_true rfl, Nat.le_of_ble_eq_true rfl⟩ ⟨Nat.zero_le _, Nat.zero_le _⟩ hP [] rfl hl.1 rfl rfl (Nat.le_of_ble_eq_true rfl) dX11_pool_22 rfl ?_
    refine lv_if_eq (tgt := 50) hx hb dX11_pool_25 (by decide) (fun hc => ?_) (fun hc => ?_)
    · have hf := kpos hc hf
      refine lv_bipush (v := (-2)) hx hb dX11_pool_50 (by decide) ?_
      obtain ⟨e1, e2, e3, e4, e5, e6, e7, e8, e9, e10, e11, e12⟩ := ti12 hf
      subst e1; subst e2; subst e3; subst e4; subst e5; subst e6; subst e7; subst e8; subst e9; subst e10; subst e11; subst e12
      exact kretM C hP hD hS dX11_pool_52
    · have hf := kneg hc hf
      refine lv_iload_n hx hb dX11_pool_28 rfl (lv_at hl 3 rfl) ?_
      refine lv_i2l (v := Int32.toInt64 x3) hx hb dX11_pool_29 rfl ?_
      refine lv_lconst (v := 0) hx hb dX11_pool_30 (by decide) ?_
      refine lv_ldc2 (v := 2) hx hb hown (hts _ tw_1033) dX11_pool_31 ?_
      obtain ⟨v34, hc34, hf⟩ := cb1_some hf
      refine kcRS (As := [.long (Int32.toInt64 x3), .long 0, .long 2]) (rest := []) (st1 := [.int v34]) C (c_Mo_in l D ct (Int32.toInt64 x3) 0 2 v34 hc34) ⟨rfl, rfl⟩ yn_yX11_in tw_1031 tw_1030 ⟨Nat.le_of_ble_eq_true rfl, Nat.le_of_ble_eq_true rfl⟩ ⟨Nat.zero_le _, Nat.zero_le _⟩ hP [] rfl hl.1 rfl rfl (Nat.le_of_ble_eq_true rfl) dX11_pool_34 rfl ?_
      refine lv_if_eq (tgt := 50) hx hb dX11_pool_37 (by decide) (fun hc => ?_) (fun hc => ?_)
      · have hf := kpos hc hf
        refine lv_bipush (v := (-2)) hx hb dX11_pool_50 (by decide) ?_
        obtain ⟨e1, e2, e3, e4, e5, e6, e7, e8, e9, e10, e11, e12⟩ := ti12 hf
        subst e1; subst e2; subst e3; subst e4; subst e5; subst e6; subst e7; subst e8; subst e9; subst e10; subst e11; subst e12
        exact kretM C hP hD hS dX11_pool_52
      · have hf := kneg hc hf
        refine lv_aload_n hx hb dX11_pool_40 rfl (lv_at hl 0 rfl) ?_
        refine lv_iload_n hx hb dX11_pool_41 rfl (lv_at hl 1 rfl) ?_
        refine lv_iload_n hx hb dX11_pool_42 rfl (lv_at hl 2 rfl) ?_
        refine lv_iload_n hx hb dX11_pool_43 rfl (lv_at hl 3 rfl) ?_
        obtain ⟨v44, hc44, hf⟩ := cb1_some hf
        refine kcRV (q0 := 0) (ci := 11) (As := [.int x1, .int x2, .int x3]) (rest := []) (st1 := [.int v44]) C (c_Mo_poolOf l D ct a_this a_forms a_sizes a_items a_moved a_bytes a_typed a_chances a_longs a_letters a_isThere a_pieceLongs a_pieceLetters a_song a_settings a_guess a_row a_least a_nights f_latest f_at_1 f_guesses f_todo F f_names_1 f_pieces_1 f_songLong_1 f_longs_1 f_letters_1 f_isThere_1 f_pieceLongs_1 f_pieceLetters_1 f_song_1 x1 x2 x3 v44 hc44) ⟨rfl, rfl⟩ yn_yX11_poolOf tw_1334 tw_66 tw_1332 ⟨Nat.le_of_ble_eq_true rfl, Nat.le_of_ble_eq_true rfl⟩ ⟨Nat.zero_le _, Nat.zero_le _⟩ hP [0, 4, 5, 6, 7, 8, 9] rfl rfl rfl rfl hl.1 rfl rfl (Nat.le_of_ble_eq_true rfl) dX11_pool_44 rfl ?_
        refine lv_goto (tgt := 52) hx hb dX11_pool_47 (by decide) ?_
        obtain ⟨e1, e2, e3, e4, e5, e6, e7, e8, e9, e10, e11, e12⟩ := ti12 hf
        subst e1; subst e2; subst e3; subst e4; subst e5; subst e6; subst e7; subst e8; subst e9; subst e10; subst e11; subst e12
        exact kretM C hP hD hS dX11_pool_52
def RM_Mo_shortestOf : Room := { frames := 3, cells := 0, slots := 0, locals := 71 }
set_option maxHeartbeats 4000000 in
set_option maxRecDepth 100000 in
theorem t_Mo_shortestOf_b73 {p : Program} {l : Launch} {e : Env} {s : State} {m : MethodId} {args : Array Value} {below : List Frame} {meth : Method} {c : Code} {D : va_G} {ct : Nat → ClassId} (C : CX p s m args meth c RX11 cX11_shortestOf 6 (some .int) D ct) (a_this a_forms a_sizes a_items a_moved a_bytes a_typed a_chances a_longs a_letters a_isThere a_pieceLongs a_pieceLetters a_song a_settings a_guess a_row a_least a_nights : Nat) (f_latest : Int32) (f_at : Int32) (f_guesses : Int32) (f_todo : Int32) (F : Nat) (f_names : Int32) (f_pieces : Int32) (f_songLong : Int32) (f_longs : Nat → Int32) (f_letters : Nat → Int32) (f_isThere : Nat → Int32) (f_pieceLongs : Nat → Int32) (f_pieceLetters : Nat → Int32) (f_song : Nat → Int32) (x1 : Int32) (r : Int32) : ∀ (x3 : Int32), Mo_shortestOf_b73 F f_names f_pieces f_songLong f_longs f_letters f_isThere f_pieceLongs f_pieceLetters f_song x1 x3 = some r → va_P D vwCl (w_Mo_shortestOf ct a_this a_forms a_sizes a_items a_moved a_bytes a_typed a_chances a_longs a_letters a_isThere a_pieceLongs a_pieceLetters a_song a_settings a_guess a_row a_least a_nights f_latest f_at f_names f_pieces f_songLong f_guesses f_todo f_longs f_letters f_isThere f_pieceLongs f_pieceLetters f_song) s.heap → ∀ ls : Array Slot, lv_has ls 6 [(1, .int x1), (3, .int x3)] → W p l e RM_Mo_shortestOf s m args below meth c s.heap [] 0 0 (MQ below (QR (some (.int r))) args s 0 0 (fun _ => False)) (F0 m 73 ls []) := by
  obtain ⟨hx, hb, hr, hml, hown, hts, hlk, hK, hN⟩ := id C
  intro x3 hf hP ls hl
  unfold Mo_shortestOf_b73 at hf
  refine lv_iload_n hx hb dX11_shortestOf_73 rfl (lv_at hl 0 rfl) ?_
  refine lv_if_ne (tgt := 84) hx hb dX11_shortestOf_74 (by decide) (fun hc => ?_) (fun hc => ?_)
  · have hf := kneg hc hf
    refine lv_iload_n hx hb dX11_shortestOf_84 rfl (lv_at hl 1 rfl) ?_
    have e1 := Option.some.inj hf
    subst e1
    exact kretR C dX11_shortestOf_85
  · have hf := kpos hc hf
    refine lv_iload_n hx hb dX11_shortestOf_77 rfl (lv_at hl 1 rfl) ?_
    obtain ⟨v78, hc78, hf⟩ := cb1_some hf
    refine kcRS (As := [.int x3]) (rest := []) (st1 := [.int v78]) C (c_Mo_ones l D ct F x3 v78 hc78) ⟨rfl, rfl⟩ yn_yX11_ones tw_1300 tw_1299 ⟨Nat.le_of_ble_eq_true rfl, Nat.le_of_ble_eq_true rfl⟩ ⟨Nat.zero_le _, Nat.zero_le _⟩ hP [] rfl hl.1 rfl rfl (Nat.le_of_ble_eq_true rfl) dX11_shortestOf_78 rfl ?_
    refine lv_goto (tgt := 85) hx hb dX11_shortestOf_81 (by decide) ?_
    have e1 := Option.some.inj hf
    subst e1
    exact kretR C dX11_shortestOf_85
set_option maxHeartbeats 4000000 in
set_option maxRecDepth 100000 in
theorem t_Mo_shortestOf_b66 {p : Program} {l : Launch} {e : Env} {s : State} {m : MethodId} {args : Array Value} {below : List Frame} {meth : Method} {c : Code} {D : va_G} {ct : Nat → ClassId} (C : CX p s m args meth c RX11 cX11_shortestOf 6 (some .int) D ct) (a_this a_forms a_sizes a_items a_moved a_bytes a_typed a_chances a_longs a_letters a_isThere a_pieceLongs a_pieceLetters a_song a_settings a_guess a_row a_least a_nights : Nat) (f_latest : Int32) (f_at : Int32) (f_guesses : Int32) (f_todo : Int32) (F : Nat) (f_names : Int32) (f_pieces : Int32) (f_songLong : Int32) (f_longs : Nat → Int32) (f_letters : Nat → Int32) (f_isThere : Nat → Int32) (f_pieceLongs : Nat → Int32) (f_pieceLetters : Nat → Int32) (f_song : Nat → Int32) (x1 : Int32) (r : Int32) (rec10 : Int32 → Int32 → Int32 → Option Int32) (hr10 : ∀ (x2 : Int32) (x3 : Int32) (x4 : Int32), rec10 x2 x3 x4 = some r → va_P D vwCl (w_Mo_shortestOf ct a_this a_forms a_sizes a_items a_moved a_bytes a_typed a_chances a_longs a_letters a_isThere a_pieceLongs a_pieceLetters a_song a_settings a_guess a_row a_least a_nights f_latest f_at f_names f_pieces f_songLong f_guesses f_todo f_longs f_letters f_isThere f_pieceLongs f_pieceLetters f_song) s.heap → ∀ ls : Array Slot, lv_has ls 6 [(0, .ref a_this), (1, .int x1), (2, .int x2), (3, .int x3), (4, .int x4)] → W p l e RM_Mo_shortestOf s m args below meth c s.heap [] 0 0 (MQ below (QR (some (.int r))) args s 0 0 (fun _ => False)) (F0 m 10 ls [])) : ∀ (x2 : Int32) (x4 : Int32) (k0 : Int32), Mo_shortestOf_b66 F f_names f_pieces f_songLong f_longs f_letters f_isThere f_pieceLongs f_pieceLetters f_song x1 rec10 x2 x4 k0 = some r → va_P D vwCl (w_Mo_shortestOf ct a_this a_forms a_sizes a_items a_moved a_bytes a_typed a_chances a_longs a_letters a_isThere a_pieceLongs a_pieceLetters a_song a_settings a_guess a_row a_least a_nights f_latest f_at f_names f_pieces f_songLong f_guesses f_todo f_longs f_letters f_isThere f_pieceLongs f_pieceLetters f_song) s.heap → ∀ ls : Array Slot, lv_has ls 6 [(0, .ref a_this), (1, .int x1), (2, .int x2), (4, .int x4)] → W p l e RM_Mo_shortestOf s m args below meth c s.heap [] 0 0 (MQ below (QR (some (.int r))) args s 0 0 (fun _ => False)) (F0 m 66 ls [.int k0]) := by
  obtain ⟨hx, hb, hr, hml, hown, hts, hlk, hK, hN⟩ := id C
  intro x2 x4 k0 hf hP ls hl
  unfold Mo_shortestOf_b66 at hf
  refine lv_istore_n (lv' := [(3, .int k0), (0, .ref a_this), (1, .int x1), (2, .int x2), (4, .int x4)]) hx hb dX11_shortestOf_66 rfl hl (by decide) rfl (fun ls hl => ?_)
  refine lv_iinc (v := x4 + 1) (lv' := [(4, .int (x4 + 1)), (3, .int k0), (0, .ref a_this), (1, .int x1), (2, .int x2)]) hx hb dX11_shortestOf_67 hl (k := 4) rfl rfl (by decide) rfl (fun ls hl => ?_)
  refine lv_goto (tgt := 10) hx hb dX11_shortestOf_70 (by decide) ?_
  exact hr10 x2 k0 (x4 + 1) hf hP _ (lv_sub hl [2, 3, 4, 1, 0] rfl)
set_option maxHeartbeats 4000000 in
set_option maxRecDepth 100000 in
theorem t_Mo_shortestOf_b65 {p : Program} {l : Launch} {e : Env} {s : State} {m : MethodId} {args : Array Value} {below : List Frame} {meth : Method} {c : Code} {D : va_G} {ct : Nat → ClassId} (C : CX p s m args meth c RX11 cX11_shortestOf 6 (some .int) D ct) (a_this a_forms a_sizes a_items a_moved a_bytes a_typed a_chances a_longs a_letters a_isThere a_pieceLongs a_pieceLetters a_song a_settings a_guess a_row a_least a_nights : Nat) (f_latest : Int32) (f_at : Int32) (f_guesses : Int32) (f_todo : Int32) (F : Nat) (f_names : Int32) (f_pieces : Int32) (f_songLong : Int32) (f_longs : Nat → Int32) (f_letters : Nat → Int32) (f_isThere : Nat → Int32) (f_pieceLongs : Nat → Int32) (f_pieceLetters : Nat → Int32) (f_song : Nat → Int32) (x1 : Int32) (r : Int32) (rec10 : Int32 → Int32 → Int32 → Option Int32) (hr10 : ∀ (x2 : Int32) (x3 : Int32) (x4 : Int32), rec10 x2 x3 x4 = some r → va_P D vwCl (w_Mo_shortestOf ct a_this a_forms a_sizes a_items a_moved a_bytes a_typed a_chances a_longs a_letters a_isThere a_pieceLongs a_pieceLetters a_song a_settings a_guess a_row a_least a_nights f_latest f_at f_names f_pieces f_songLong f_guesses f_todo f_longs f_letters f_isThere f_pieceLongs f_pieceLetters f_song) s.heap → ∀ ls : Array Slot, lv_has ls 6 [(0, .ref a_this), (1, .int x1), (2, .int x2), (3, .int x3), (4, .int x4)] → W p l e RM_Mo_shortestOf s m args below meth c s.heap [] 0 0 (MQ below (QR (some (.int r))) args s 0 0 (fun _ => False)) (F0 m 10 ls [])) : ∀ (x2 : Int32) (x3 : Int32) (x4 : Int32), Mo_shortestOf_b65 F f_names f_pieces f_songLong f_longs f_letters f_isThere f_pieceLongs f_pieceLetters f_song x1 rec10 x2 x3 x4 = some r → va_P D vwCl (w_Mo_shortestOf ct a_this a_forms a_sizes a_items a_moved a_bytes a_typed a_chances a_longs a_letters a_isThere a_pieceLongs a_pieceLetters a_song a_settings a_guess a_row a_least a_nights f_latest f_at f_names f_pieces f_songLong f_guesses f_todo f_longs f_letters f_isThere f_pieceLongs f_pieceLetters f_song) s.heap → ∀ ls : Array Slot, lv_has ls 6 [(0, .ref a_this), (1, .int x1), (2, .int x2), (3, .int x3), (4, .int x4)] → W p l e RM_Mo_shortestOf s m args below meth c s.heap [] 0 0 (MQ below (QR (some (.int r))) args s 0 0 (fun _ => False)) (F0 m 65 ls []) := by
  obtain ⟨hx, hb, hr, hml, hown, hts, hlk, hK, hN⟩ := id C
  intro x2 x3 x4 hf hP ls hl
  unfold Mo_shortestOf_b65 at hf
  refine lv_iload_n hx hb dX11_shortestOf_65 rfl (lv_at hl 3 rfl) ?_
  exact t_Mo_shortestOf_b66 C a_this a_forms a_sizes a_items a_moved a_bytes a_typed a_chances a_longs a_letters a_isThere a_pieceLongs a_pieceLetters a_song a_settings a_guess a_row a_least a_nights f_latest f_at f_guesses f_todo F f_names f_pieces f_songLong f_longs f_letters f_isThere f_pieceLongs f_pieceLetters f_song x1 r rec10 hr10 x2 x4 x3 hf hP _ (lv_sub hl [0, 1, 2, 4] rfl)
set_option maxHeartbeats 4000000 in
set_option maxRecDepth 100000 in
theorem t_Mo_shortestOf_b43 {p : Program} {l : Launch} {e : Env} {s : State} {m : MethodId} {args : Array Value} {below : List Frame} {meth : Method} {c : Code} {D : va_G} {ct : Nat → ClassId} (C : CX p s m args meth c RX11 cX11_shortestOf 6 (some .int) D ct) (a_this a_forms a_sizes a_items a_moved a_bytes a_typed a_chances a_longs a_letters a_isThere a_pieceLongs a_pieceLetters a_song a_settings a_guess a_row a_least a_nights : Nat) (f_latest : Int32) (f_at : Int32) (f_guesses : Int32) (f_todo : Int32) (F : Nat) (f_names : Int32) (f_pieces : Int32) (f_songLong : Int32) (f_longs : Nat → Int32) (f_letters : Nat → Int32) (f_isThere : Nat → Int32) (f_pieceLongs : Nat → Int32) (f_pieceLetters : Nat → Int32) (f_song : Nat → Int32) (x1 : Int32) (r : Int32) (rec10 : Int32 → Int32 → Int32 → Option Int32) (hr10 : ∀ (x2 : Int32) (x3 : Int32) (x4 : Int32), rec10 x2 x3 x4 = some r → va_P D vwCl (w_Mo_shortestOf ct a_this a_forms a_sizes a_items a_moved a_bytes a_typed a_chances a_longs a_letters a_isThere a_pieceLongs a_pieceLetters a_song a_settings a_guess a_row a_least a_nights f_latest f_at f_names f_pieces f_songLong f_guesses f_todo f_longs f_letters f_isThere f_pieceLongs f_pieceLetters f_song) s.heap → ∀ ls : Array Slot, lv_has ls 6 [(0, .ref a_this), (1, .int x1), (2, .int x2), (3, .int x3), (4, .int x4)] → W p l e RM_Mo_shortestOf s m args below meth c s.heap [] 0 0 (MQ below (QR (some (.int r))) args s 0 0 (fun _ => False)) (F0 m 10 ls [])) : ∀ (x2 : Int32) (x3 : Int32) (x4 : Int32) (k0 : Int32), Mo_shortestOf_b43 F f_names f_pieces f_songLong f_longs f_letters f_isThere f_pieceLongs f_pieceLetters f_song x1 rec10 x2 x3 x4 k0 = some r → va_P D vwCl (w_Mo_shortestOf ct a_this a_forms a_sizes a_items a_moved a_bytes a_typed a_chances a_longs a_letters a_isThere a_pieceLongs a_pieceLetters a_song a_settings a_guess a_row a_least a_nights f_latest f_at f_names f_pieces f_songLong f_guesses f_todo f_longs f_letters f_isThere f_pieceLongs f_pieceLetters f_song) s.heap → ∀ ls : Array Slot, lv_has ls 6 [(0, .ref a_this), (1, .int x1), (2, .int x2), (3, .int x3), (4, .int x4)] → W p l e RM_Mo_shortestOf s m args below meth c s.heap [] 0 0 (MQ below (QR (some (.int r))) args s 0 0 (fun _ => False)) (F0 m 43 ls [.int k0]) := by
  obtain ⟨hx, hb, hr, hml, hown, hts, hlk, hK, hN⟩ := id C
  intro x2 x3 x4 k0 hf hP ls hl
  unfold Mo_shortestOf_b43 at hf
  refine lv_istore (lv' := [(5, .int k0), (0, .ref a_this), (1, .int x1), (2, .int x2), (3, .int x3), (4, .int x4)]) hx hb dX11_shortestOf_43 hl (by decide) rfl (fun ls hl => ?_)
  refine lv_iload hx hb dX11_shortestOf_45 (lv_at hl 0 rfl) ?_
  refine lv_if_eq (tgt := 65) hx hb dX11_shortestOf_47 (by decide) (fun hc => ?_) (fun hc => ?_)
  · have hf := kpos hc hf
    exact t_Mo_shortestOf_b65 C a_this a_forms a_sizes a_items a_moved a_bytes a_typed a_chances a_longs a_letters a_isThere a_pieceLongs a_pieceLetters a_song a_settings a_guess a_row a_least a_nights f_latest f_at f_guesses f_todo F f_names f_pieces f_songLong f_longs f_letters f_isThere f_pieceLongs f_pieceLetters f_song x1 r rec10 hr10 x2 x3 x4 hf hP _ (lv_sub hl [1, 2, 3, 4, 5] rfl)
  · have hf := kneg hc hf
    refine lv_aload_n hx hb dX11_shortestOf_50 rfl (lv_at hl 1 rfl) ?_
    refine lv_iload hx hb dX11_shortestOf_51 (lv_at hl 5 rfl) ?_
    obtain ⟨v53, hc53, hf⟩ := cb1_some hf
    refine kcRV (q0 := 0) (ci := 11) (As := [.int x4]) (rest := []) (st1 := [.int v53]) C (c_Mo_fitsBy l D ct a_this a_forms a_sizes a_items a_moved a_bytes a_typed a_chances a_longs a_letters a_isThere a_pieceLongs a_pieceLetters a_song a_settings a_guess a_row a_least a_nights f_latest f_at f_guesses f_todo F f_names f_pieces f_songLong f_longs f_letters f_isThere f_pieceLongs f_pieceLetters f_song x4 v53 hc53) ⟨rfl, rfl⟩ yn_yX11_fitsBy tw_1162 tw_39 tw_1160 ⟨Nat.le_of_ble_eq_true rfl, Nat.le_of_ble_eq_true rfl⟩ ⟨Nat.zero_le _, Nat.zero_le _⟩ hP [0, 1, 2, 3, 4, 5, 6] rfl rfl rfl rfl hl.1 rfl rfl (Nat.le_of_ble_eq_true rfl) dX11_shortestOf_53 rfl ?_
    refine lv_iload_n hx hb dX11_shortestOf_56 rfl (lv_at hl 3 rfl) ?_
    refine lv_icmp_ne (tgt := 65) hx hb dX11_shortestOf_57 (by decide) (fun hc => ?_) (fun hc => ?_)
    · have hf := kneg hc hf
      exact t_Mo_shortestOf_b65 C a_this a_forms a_sizes a_items a_moved a_bytes a_typed a_chances a_longs a_letters a_isThere a_pieceLongs a_pieceLetters a_song a_settings a_guess a_row a_least a_nights f_latest f_at f_guesses f_todo F f_names f_pieces f_songLong f_longs f_letters f_isThere f_pieceLongs f_pieceLetters f_song x1 r rec10 hr10 x2 x3 x4 hf hP _ (lv_sub hl [1, 2, 3, 4, 5] rfl)
    · have hf := kpos hc hf
      refine lv_iload hx hb dX11_shortestOf_60 (lv_at hl 5 rfl) ?_
      refine lv_goto (tgt := 66) hx hb dX11_shortestOf_62 (by decide) ?_
      exact t_Mo_shortestOf_b66 C a_this a_forms a_sizes a_items a_moved a_bytes a_typed a_chances a_longs a_letters a_isThere a_pieceLongs a_pieceLetters a_song a_settings a_guess a_row a_least a_nights f_latest f_at f_guesses f_todo F f_names f_pieces f_songLong f_longs f_letters f_isThere f_pieceLongs f_pieceLetters f_song x1 r rec10 hr10 x2 x4 x4 hf hP _ (lv_sub hl [1, 2, 3, 5] rfl)
set_option maxHeartbeats 4000000 in
set_option maxRecDepth 100000 in
theorem t_Mo_shortestOf_b38 {p : Program} {l : Launch} {e : Env} {s : State} {m : MethodId} {args : Array Value} {below : List Frame} {meth : Method} {c : Code} {D : va_G} {ct : Nat → ClassId} (C : CX p s m args meth c RX11 cX11_shortestOf 6 (some .int) D ct) (a_this a_forms a_sizes a_items a_moved a_bytes a_typed a_chances a_longs a_letters a_isThere a_pieceLongs a_pieceLetters a_song a_settings a_guess a_row a_least a_nights : Nat) (f_latest : Int32) (f_at : Int32) (f_guesses : Int32) (f_todo : Int32) (F : Nat) (f_names : Int32) (f_pieces : Int32) (f_songLong : Int32) (f_longs : Nat → Int32) (f_letters : Nat → Int32) (f_isThere : Nat → Int32) (f_pieceLongs : Nat → Int32) (f_pieceLetters : Nat → Int32) (f_song : Nat → Int32) (x1 : Int32) (r : Int32) (rec10 : Int32 → Int32 → Int32 → Option Int32) (hr10 : ∀ (x2 : Int32) (x3 : Int32) (x4 : Int32), rec10 x2 x3 x4 = some r → va_P D vwCl (w_Mo_shortestOf ct a_this a_forms a_sizes a_items a_moved a_bytes a_typed a_chances a_longs a_letters a_isThere a_pieceLongs a_pieceLetters a_song a_settings a_guess a_row a_least a_nights f_latest f_at f_names f_pieces f_songLong f_guesses f_todo f_longs f_letters f_isThere f_pieceLongs f_pieceLetters f_song) s.heap → ∀ ls : Array Slot, lv_has ls 6 [(0, .ref a_this), (1, .int x1), (2, .int x2), (3, .int x3), (4, .int x4)] → W p l e RM_Mo_shortestOf s m args below meth c s.heap [] 0 0 (MQ below (QR (some (.int r))) args s 0 0 (fun _ => False)) (F0 m 10 ls [])) : ∀ (x2 : Int32) (x3 : Int32) (x4 : Int32), Mo_shortestOf_b38 F f_names f_pieces f_songLong f_longs f_letters f_isThere f_pieceLongs f_pieceLetters f_song x1 rec10 x2 x3 x4 = some r → va_P D vwCl (w_Mo_shortestOf ct a_this a_forms a_sizes a_items a_moved a_bytes a_typed a_chances a_longs a_letters a_isThere a_pieceLongs a_pieceLetters a_song a_settings a_guess a_row a_least a_nights f_latest f_at f_names f_pieces f_songLong f_guesses f_todo f_longs f_letters f_isThere f_pieceLongs f_pieceLetters f_song) s.heap → ∀ ls : Array Slot, lv_has ls 6 [(0, .ref a_this), (1, .int x1), (2, .int x2), (3, .int x3), (4, .int x4)] → W p l e RM_Mo_shortestOf s m args below meth c s.heap [] 0 0 (MQ below (QR (some (.int r))) args s 0 0 (fun _ => False)) (F0 m 38 ls []) := by
  obtain ⟨hx, hb, hr, hml, hown, hts, hlk, hK, hN⟩ := id C
  intro x2 x3 x4 hf hP ls hl
  unfold Mo_shortestOf_b38 at hf
  refine lv_iconst (v := 1) hx hb dX11_shortestOf_38 (by decide) ?_
  refine lv_goto (tgt := 43) hx hb dX11_shortestOf_39 (by decide) ?_
  exact t_Mo_shortestOf_b43 C a_this a_forms a_sizes a_items a_moved a_bytes a_typed a_chances a_longs a_letters a_isThere a_pieceLongs a_pieceLetters a_song a_settings a_guess a_row a_least a_nights f_latest f_at f_guesses f_todo F f_names f_pieces f_songLong f_longs f_letters f_isThere f_pieceLongs f_pieceLetters f_song x1 r rec10 hr10 x2 x3 x4 1 hf hP _ (lv_sub hl [0, 1, 2, 3, 4] rfl)
set_option maxHeartbeats 4000000 in
set_option maxRecDepth 100000 in
theorem t_Mo_shortestOf_b10 {p : Program} {l : Launch} {e : Env} {s : State} {m : MethodId} {args : Array Value} {below : List Frame} {meth : Method} {c : Code} {D : va_G} {ct : Nat → ClassId} (C : CX p s m args meth c RX11 cX11_shortestOf 6 (some .int) D ct) (a_this a_forms a_sizes a_items a_moved a_bytes a_typed a_chances a_longs a_letters a_isThere a_pieceLongs a_pieceLetters a_song a_settings a_guess a_row a_least a_nights : Nat) (f_latest : Int32) (f_at : Int32) (f_guesses : Int32) (f_todo : Int32) (F : Nat) (f_names : Int32) (f_pieces : Int32) (f_songLong : Int32) (f_longs : Nat → Int32) (f_letters : Nat → Int32) (f_isThere : Nat → Int32) (f_pieceLongs : Nat → Int32) (f_pieceLetters : Nat → Int32) (f_song : Nat → Int32) (x1 : Int32) (r : Int32) (rec10 : Int32 → Int32 → Int32 → Option Int32) (hr10 : ∀ (x2 : Int32) (x3 : Int32) (x4 : Int32), rec10 x2 x3 x4 = some r → va_P D vwCl (w_Mo_shortestOf ct a_this a_forms a_sizes a_items a_moved a_bytes a_typed a_chances a_longs a_letters a_isThere a_pieceLongs a_pieceLetters a_song a_settings a_guess a_row a_least a_nights f_latest f_at f_names f_pieces f_songLong f_guesses f_todo f_longs f_letters f_isThere f_pieceLongs f_pieceLetters f_song) s.heap → ∀ ls : Array Slot, lv_has ls 6 [(0, .ref a_this), (1, .int x1), (2, .int x2), (3, .int x3), (4, .int x4)] → W p l e RM_Mo_shortestOf s m args below meth c s.heap [] 0 0 (MQ below (QR (some (.int r))) args s 0 0 (fun _ => False)) (F0 m 10 ls [])) : ∀ (x2 : Int32) (x3 : Int32) (x4 : Int32), Mo_shortestOf_b10 F f_names f_pieces f_songLong f_longs f_letters f_isThere f_pieceLongs f_pieceLetters f_song x1 rec10 x2 x3 x4 = some r → va_P D vwCl (w_Mo_shortestOf ct a_this a_forms a_sizes a_items a_moved a_bytes a_typed a_chances a_longs a_letters a_isThere a_pieceLongs a_pieceLetters a_song a_settings a_guess a_row a_least a_nights f_latest f_at f_names f_pieces f_songLong f_guesses f_todo f_longs f_letters f_isThere f_pieceLongs f_pieceLetters f_song) s.heap → ∀ ls : Array Slot, lv_has ls 6 [(0, .ref a_this), (1, .int x1), (2, .int x2), (3, .int x3), (4, .int x4)] → W p l e RM_Mo_shortestOf s m args below meth c s.heap [] 0 0 (MQ below (QR (some (.int r))) args s 0 0 (fun _ => False)) (F0 m 10 ls []) := by
  obtain ⟨hx, hb, hr, hml, hown, hts, hlk, hK, hN⟩ := id C
  intro x2 x3 x4 hf hP ls hl
  unfold Mo_shortestOf_b10 at hf
  refine lv_iload hx hb dX11_shortestOf_10 (lv_at hl 4 rfl) ?_
  refine lv_iconst (v := 1) hx hb dX11_shortestOf_12 (by decide) ?_
  refine lv_aload_n hx hb dX11_shortestOf_13 rfl (lv_at hl 0 rfl) ?_
  refine va_get (ci := 11) (v := .int f_pieces) (C := RX11) (T := TX11) (N := 25) hx hb hts inX11 hown hK hP 0 rfl rfl 12 (by decide) (hts _ tw_957) (fun _ h9 => h9) rfl dX11_shortestOf_14 ?_
  refine lv_ishl hx hb dX11_shortestOf_17 ?_
  refine lv_icmp_ge (tgt := 73) hx hb dX11_shortestOf_18 (by decide) (fun hc => ?_) (fun hc => ?_)
  · have hf := kpos hc hf
    exact t_Mo_shortestOf_b73 C a_this a_forms a_sizes a_items a_moved a_bytes a_typed a_chances a_longs a_letters a_isThere a_pieceLongs a_pieceLetters a_song a_settings a_guess a_row a_least a_nights f_latest f_at f_guesses f_todo F f_names f_pieces f_songLong f_longs f_letters f_isThere f_pieceLongs f_pieceLetters f_song x1 r x3 hf hP _ (lv_sub hl [1, 3] rfl)
  · have hf := kneg hc hf
    refine lv_iload_n hx hb dX11_shortestOf_21 rfl (lv_at hl 3 rfl) ?_
    refine lv_iconst (v := (-1)) hx hb dX11_shortestOf_22 (by decide) ?_
    refine lv_icmp_eq (tgt := 38) hx hb dX11_shortestOf_23 (by decide) (fun hc => ?_) (fun hc => ?_)
    · have hf := kpos hc hf
      exact t_Mo_shortestOf_b38 C a_this a_forms a_sizes a_items a_moved a_bytes a_typed a_chances a_longs a_letters a_isThere a_pieceLongs a_pieceLetters a_song a_settings a_guess a_row a_least a_nights f_latest f_at f_guesses f_todo F f_names f_pieces f_songLong f_longs f_letters f_isThere f_pieceLongs f_pieceLetters f_song x1 r rec10 hr10 x2 x3 x4 hf hP _ (lv_sub hl [0, 1, 2, 3, 4] rfl)
    · have hf := kneg hc hf
      refine lv_iload hx hb dX11_shortestOf_26 (lv_at hl 4 rfl) ?_
      obtain ⟨v28, hc28, hf⟩ := cb1_some hf
      refine kcRS (As := [.int x4]) (rest := []) (st1 := [.int v28]) C (c_Mo_ones l D ct F x4 v28 hc28) ⟨rfl, rfl⟩ yn_yX11_ones tw_1300 tw_1299 ⟨Nat.le_of_ble_eq_true rfl, Nat.le_of_ble_eq_true rfl⟩ ⟨Nat.zero_le _, Nat.zero_le _⟩ hP [] rfl hl.1 rfl rfl (Nat.le_of_ble_eq_true rfl) dX11_shortestOf_28 rfl ?_
      refine lv_iload_n hx hb dX11_shortestOf_31 rfl (lv_at hl 3 rfl) ?_
      obtain ⟨v32, hc32, hf⟩ := cb1_some hf
      refine kcRS (As := [.int x3]) (rest := [.int v28]) (st1 := [.int v32, .int v28]) C (c_Mo_ones l D ct F x3 v32 hc32) ⟨rfl, rfl⟩ yn_yX11_ones tw_1300 tw_1299 ⟨Nat.le_of_ble_eq_true rfl, Nat.le_of_ble_eq_true rfl⟩ ⟨Nat.zero_le _, Nat.zero_le _⟩ hP [] rfl hl.1 rfl rfl (Nat.le_of_ble_eq_true rfl) dX11_shortestOf_32 rfl ?_
      refine lv_icmp_ge (tgt := 42) hx hb dX11_shortestOf_35 (by decide) (fun hc => ?_) (fun hc => ?_)
      · have hf := kpos hc hf
        refine lv_iconst (v := 0) hx hb dX11_shortestOf_42 (by decide) ?_
        exact t_Mo_shortestOf_b43 C a_this a_forms a_sizes a_items a_moved a_bytes a_typed a_chances a_longs a_letters a_isThere a_pieceLongs a_pieceLetters a_song a_settings a_guess a_row a_least a_nights f_latest f_at f_guesses f_todo F f_names f_pieces f_songLong f_longs f_letters f_isThere f_pieceLongs f_pieceLetters f_song x1 r rec10 hr10 x2 x3 x4 0 hf hP _ (lv_sub hl [0, 1, 2, 3, 4] rfl)
      · have hf := kneg hc hf
        exact t_Mo_shortestOf_b38 C a_this a_forms a_sizes a_items a_moved a_bytes a_typed a_chances a_longs a_letters a_isThere a_pieceLongs a_pieceLetters a_song a_settings a_guess a_row a_least a_nights f_latest f_at f_guesses f_todo F f_names f_pieces f_songLong f_longs f_letters f_isThere f_pieceLongs f_pieceLetters f_song x1 r rec10 hr10 x2 x3 x4 hf hP _ (lv_sub hl [0, 1, 2, 3, 4] rfl)
set_option maxHeartbeats 4000000 in
set_option maxRecDepth 100000 in
theorem t_Mo_shortestOf_l10 {p : Program} {l : Launch} {e : Env} {s : State} {m : MethodId} {args : Array Value} {below : List Frame} {meth : Method} {c : Code} {D : va_G} {ct : Nat → ClassId} (C : CX p s m args meth c RX11 cX11_shortestOf 6 (some .int) D ct) (a_this a_forms a_sizes a_items a_moved a_bytes a_typed a_chances a_longs a_letters a_isThere a_pieceLongs a_pieceLetters a_song a_settings a_guess a_row a_least a_nights : Nat) (f_latest : Int32) (f_at : Int32) (f_guesses : Int32) (f_todo : Int32) (F : Nat) (f_names : Int32) (f_pieces : Int32) (f_songLong : Int32) (f_longs : Nat → Int32) (f_letters : Nat → Int32) (f_isThere : Nat → Int32) (f_pieceLongs : Nat → Int32) (f_pieceLetters : Nat → Int32) (f_song : Nat → Int32) (x1 : Int32) (r : Int32) : ∀ (n : Nat) (x2 : Int32) (x3 : Int32) (x4 : Int32), Mo_shortestOf_l10 F f_names f_pieces f_songLong f_longs f_letters f_isThere f_pieceLongs f_pieceLetters f_song x1 n x2 x3 x4 = some r → va_P D vwCl (w_Mo_shortestOf ct a_this a_forms a_sizes a_items a_moved a_bytes a_typed a_chances a_longs a_letters a_isThere a_pieceLongs a_pieceLetters a_song a_settings a_guess a_row a_least a_nights f_latest f_at f_names f_pieces f_songLong f_guesses f_todo f_longs f_letters f_isThere f_pieceLongs f_pieceLetters f_song) s.heap → ∀ ls : Array Slot, lv_has ls 6 [(0, .ref a_this), (1, .int x1), (2, .int x2), (3, .int x3), (4, .int x4)] → W p l e RM_Mo_shortestOf s m args below meth c s.heap [] 0 0 (MQ below (QR (some (.int r))) args s 0 0 (fun _ => False)) (F0 m 10 ls []) := by
  intro n
  induction n with
  | zero =>
    intro x2 x3 x4 hf
    exact absurd hf (by simp [Mo_shortestOf_l10])
  | succ n ih =>
    intro x2 x3 x4 hf
    exact t_Mo_shortestOf_b10 C a_this a_forms a_sizes a_items a_moved a_bytes a_typed a_chances a_longs a_letters a_isThere a_pieceLongs a_pieceLetters a_song a_settings a_guess a_row a_least a_nights f_latest f_at f_guesses f_todo F f_names f_pieces f_songLong f_longs f_letters f_isThere f_pieceLongs f_pieceLetters f_song x1 r (Mo_shortestOf_l10 F f_names f_pieces f_songLong f_longs f_letters f_isThere f_pieceLongs f_pieceLetters f_song x1 n) ih x2 x3 x4 hf
set_option maxHeartbeats 4000000 in
set_option maxRecDepth 100000 in
theorem c_Mo_shortestOf (l : Launch) (D : va_G) (ct : Nat → ClassId) (a_this a_forms a_sizes a_items a_moved a_bytes a_typed a_chances a_longs a_letters a_isThere a_pieceLongs a_pieceLetters a_song a_settings a_guess a_row a_least a_nights : Nat) (f_latest : Int32) (f_at : Int32) (f_guesses : Int32) (f_todo : Int32) (F : Nat) (f_names : Int32) (f_pieces : Int32) (f_songLong : Int32) (f_longs : Nat → Int32) (f_letters : Nat → Int32) (f_isThere : Nat → Int32) (f_pieceLongs : Nat → Int32) (f_pieceLetters : Nat → Int32) (f_song : Nat → Int32) (x1 : Int32) (r : Int32) (hf : Mo_shortestOf F f_names f_pieces f_songLong f_longs f_letters f_isThere f_pieceLongs f_pieceLetters f_song x1 = some r) : Met l yX11_shortestOf (WS yX11_shortestOf cX11_shortestOf 6 (some .int)) RM_Mo_shortestOf (va_Pc [.ref a_this, .int x1] (PR D ct (w_Mo_shortestOf ct a_this a_forms a_sizes a_items a_moved a_bytes a_typed a_chances a_longs a_letters a_isThere a_pieceLongs a_pieceLetters a_song a_settings a_guess a_row a_least a_nights f_latest f_at f_names f_pieces f_songLong f_guesses f_todo f_longs f_letters f_isThere f_pieceLongs f_pieceLetters f_song))) (QR (some (.int r))) 0 0 (fun _ => False) := by
  refine kMetR yn_yX11_shortestOf rfl (Nat.le_of_ble_eq_true rfl) ?_
  intro p e s m args below meth c C hP ls hl
  have hl : lv_has ls 6 [(0, .ref a_this), (1, .int x1)] := hl
  obtain ⟨hx, hb, hr, hml, hown, hts, hlk, hK, hN⟩ := id C
  unfold Mo_shortestOf at hf
  refine lv_aload_n hx hb dX11_shortestOf_0 rfl (lv_at hl 0 rfl) ?_
  obtain ⟨v1, hc1, hf⟩ := cb1_some hf
  refine kcRV (q0 := 0) (ci := 11) (As := []) (rest := []) (st1 := [.int v1]) C (c_Mo_fitsNow l D ct a_this a_forms a_sizes a_items a_moved a_bytes a_typed a_chances a_longs a_letters a_isThere a_pieceLongs a_pieceLetters a_song a_settings a_guess a_row a_least a_nights f_latest f_at f_guesses f_todo F f_names f_pieces f_songLong f_longs f_letters f_isThere f_pieceLongs f_pieceLetters f_song v1 hc1) ⟨rfl, rfl⟩ yn_yX11_fitsNow tw_1158 tw_38 tw_1156 ⟨Nat.le_of_ble_eq_true rfl, Nat.le_of_ble_eq_true rfl⟩ ⟨Nat.zero_le _, Nat.zero_le _⟩ hP [0, 1, 2, 3, 4, 5, 6] rfl rfl rfl rfl hl.1 rfl rfl (Nat.le_of_ble_eq_true rfl) dX11_shortestOf_1 rfl ?_
  refine lv_istore_n (lv' := [(2, .int v1), (0, .ref a_this), (1, .int x1)]) hx hb dX11_shortestOf_4 rfl hl (by decide) rfl (fun ls hl => ?_)
  refine lv_iconst (v := (-1)) hx hb dX11_shortestOf_5 (by decide) ?_
  refine lv_istore_n (lv' := [(3, .int (-1)), (2, .int v1), (0, .ref a_this), (1, .int x1)]) hx hb dX11_shortestOf_6 rfl hl (by decide) rfl (fun ls hl => ?_)
  refine lv_iconst (v := 0) hx hb dX11_shortestOf_7 (by decide) ?_
  refine lv_istore (lv' := [(4, .int 0), (3, .int (-1)), (2, .int v1), (0, .ref a_this), (1, .int x1)]) hx hb dX11_shortestOf_8 hl (by decide) rfl (fun ls hl => ?_)
  exact t_Mo_shortestOf_l10 C a_this a_forms a_sizes a_items a_moved a_bytes a_typed a_chances a_longs a_letters a_isThere a_pieceLongs a_pieceLetters a_song a_settings a_guess a_row a_least a_nights f_latest f_at f_guesses f_todo F f_names f_pieces f_songLong f_longs f_letters f_isThere f_pieceLongs f_pieceLetters f_song x1 r F v1 (-1) 0 hf hP _ (lv_sub hl [3, 4, 2, 1, 0] rfl)
def RM_Mo_shortest : Room := { frames := 5, cells := 0, slots := 0, locals := 111 }
set_option maxHeartbeats 4000000 in
set_option maxRecDepth 100000 in
theorem c_Mo_shortest (l : Launch) (D : va_G) (ct : Nat → ClassId) (a_this a_forms a_sizes a_items a_moved a_bytes a_typed a_chances a_longs a_letters a_isThere a_pieceLongs a_pieceLetters a_song a_settings a_guess a_row a_least a_nights : Nat) (f_latest : Int32) (f_guesses : Int32) (f_todo : Int32) (F : Nat) (f_bytes : Nat → Int32) (f_typed : Nat → Int32) (f_at : Int32) (f_names : Int32) (f_pieces : Int32) (f_songLong : Int32) (f_chances : Nat → Int32) (f_longs : Nat → Int32) (f_letters : Nat → Int32) (f_isThere : Nat → Int32) (f_pieceLongs : Nat → Int32) (f_pieceLetters : Nat → Int32) (f_song : Nat → Int32) (x1 : Int32) (r : Int32) (r_at : Int32) (r_names : Int32) (r_pieces : Int32) (r_songLong : Int32) (r_chances : Nat → Int32) (r_longs : Nat → Int32) (r_letters : Nat → Int32) (r_isThere : Nat → Int32) (r_pieceLongs : Nat → Int32) (r_pieceLetters : Nat → Int32) (r_song : Nat → Int32) (sz : Nat) (hf : Mo_shortest F f_bytes f_typed f_at f_names f_pieces f_songLong f_chances f_longs f_letters f_isThere f_pieceLongs f_pieceLetters f_song x1 = some (r, r_at, r_names, r_pieces, r_songLong, r_chances, r_longs, r_letters, r_isThere, r_pieceLongs, r_pieceLetters, r_song)) : Met l yX11_shortest (WS yX11_shortest cX11_shortest 2 (some .int)) RM_Mo_shortest (va_Pc [.ref a_this, .int x1] (PM D ct sz (w_Mo_shortest ct a_this a_forms a_sizes a_items a_moved a_bytes a_typed a_chances a_longs a_letters a_isThere a_pieceLongs a_pieceLetters a_song a_settings a_guess a_row a_least a_nights f_latest f_at f_names f_pieces f_songLong f_guesses f_todo f_bytes f_typed f_chances f_longs f_letters f_isThere f_pieceLongs f_pieceLetters f_song))) (QM D (some (.int r)) (w_Mo_shortest ct a_this a_forms a_sizes a_items a_moved a_bytes a_typed a_chances a_longs a_letters a_isThere a_pieceLongs a_pieceLetters a_song a_settings a_guess a_row a_least a_nights f_latest r_at r_names r_pieces r_songLong f_guesses f_todo f_bytes f_typed r_chances r_longs r_letters r_isThere r_pieceLongs r_pieceLetters r_song) (va_A (w_Mo_shortest ct a_this a_forms a_sizes a_items a_moved a_bytes a_typed a_chances a_longs a_letters a_isThere a_pieceLongs a_pieceLetters a_song a_settings a_guess a_row a_least a_nights f_latest f_at f_names f_pieces f_songLong f_guesses f_todo f_bytes f_typed f_chances f_longs f_letters f_isThere f_pieceLongs f_pieceLetters f_song) sz)) 0 0 (va_A (w_Mo_shortest ct a_this a_forms a_sizes a_items a_moved a_bytes a_typed a_chances a_longs a_letters a_isThere a_pieceLongs a_pieceLetters a_song a_settings a_guess a_row a_least a_nights f_latest f_at f_names f_pieces f_songLong f_guesses f_todo f_bytes f_typed f_chances f_longs f_letters f_isThere f_pieceLongs f_pieceLetters f_song) sz) := by
  refine kMetM yn_yX11_shortest rfl (Nat.le_of_ble_eq_true rfl) ?_
  intro p e s m args below meth c A C hA hP hD ls hl
  have hl : lv_has ls 2 [(0, .ref a_this), (1, .int x1)] := hl
  have hS : va_S A s.heap s.heap [] := va_S.rf
  obtain ⟨hx, hb, hr, hml, hown, hts, hlk, hK, hN⟩ := id C
  unfold Mo_shortest at hf
  refine lv_aload_n hx hb dX11_shortest_0 rfl (lv_at hl 0 rfl) ?_
  obtain ⟨f_at_1, f_names_1, f_pieces_1, f_songLong_1, f_chances_1, f_longs_1, f_letters_1, f_isThere_1, f_pieceLongs_1, f_pieceLetters_1, f_song_1, hc1, hf⟩ := cb11_some hf
  refine kcMV (q0 := 0) (ci := 11) (As := []) (rest := []) (st1 := []) (wf := (w_Mo_shortest ct a_this a_forms a_sizes a_items a_moved a_bytes a_typed a_chances a_longs a_letters a_isThere a_pieceLongs a_pieceLetters a_song a_settings a_guess a_row a_least a_nights f_latest f_at_1 f_names_1 f_pieces_1 f_songLong_1 f_guesses f_todo f_bytes f_typed f_chances_1 f_longs_1 f_letters_1 f_isThere_1 f_pieceLongs_1 f_pieceLetters_1 f_song_1)) C (c_Mo_reads l D ct a_this a_forms a_sizes a_items a_moved a_bytes a_typed a_chances a_longs a_letters a_isThere a_pieceLongs a_pieceLetters a_song a_settings a_guess a_row a_least a_nights f_latest f_guesses f_todo F f_bytes f_typed f_at f_names f_pieces f_songLong f_chances f_longs f_letters f_isThere f_pieceLongs f_pieceLetters f_song f_at_1 f_names_1 f_pieces_1 f_songLong_1 f_chances_1 f_longs_1 f_letters_1 f_isThere_1 f_pieceLongs_1 f_pieceLetters_1 f_song_1 _ hc1) ⟨rfl, rfl⟩ yn_yX11_reads tw_1121 tw_35 tw_1119 ⟨Nat.le_of_ble_eq_true rfl, Nat.le_of_ble_eq_true rfl⟩ ⟨Nat.zero_le _, Nat.zero_le _⟩ hP hD hS hA [0, 1, 2, 3, 4, 5, 6, 7, 8, 9] [] [0, 1, 2, 3, 4, 5, 6, 7, 8, 9] rfl rfl rfl rfl rfl (by decide) rfl rfl rfl rfl rfl rfl hl.1 rfl rfl (Nat.le_of_ble_eq_true rfl) dX11_shortest_1 rfl (fun H locs hP hD hS => ?_)
  refine lv_iload_n hx hb dX11_shortest_4 rfl (lv_at hl 1 rfl) ?_
  obtain ⟨v5, hc5, hf⟩ := cb1_some hf
  refine kcRS (As := [.int x1]) (rest := []) (st1 := [.int v5]) C (c_Mo_isTwo l D ct x1 v5 hc5) ⟨rfl, rfl⟩ yn_yX11_isTwo tw_1180 tw_1179 ⟨Nat.le_of_ble_eq_true rfl, Nat.le_of_ble_eq_true rfl⟩ ⟨Nat.zero_le _, Nat.zero_le _⟩ hP [] rfl hl.1 rfl rfl (Nat.le_of_ble_eq_true rfl) dX11_shortest_5 rfl ?_
  refine lv_if_eq (tgt := 19) hx hb dX11_shortest_8 (by decide) (fun hc => ?_) (fun hc => ?_)
  · have hf := kpos hc hf
    refine lv_bipush (v := (-2)) hx hb dX11_shortest_19 (by decide) ?_
    obtain ⟨e1, e2, e3, e4, e5, e6, e7, e8, e9, e10, e11, e12⟩ := ti12 hf
    subst e1; subst e2; subst e3; subst e4; subst e5; subst e6; subst e7; subst e8; subst e9; subst e10; subst e11; subst e12
    exact kretM C hP hD hS dX11_shortest_21
  · have hf := kneg hc hf
    refine lv_aload_n hx hb dX11_shortest_11 rfl (lv_at hl 0 rfl) ?_
    refine lv_iload_n hx hb dX11_shortest_12 rfl (lv_at hl 1 rfl) ?_
    obtain ⟨v13, hc13, hf⟩ := cb1_some hf
    refine kcRV (q0 := 0) (ci := 11) (As := [.int x1]) (rest := []) (st1 := [.int v13]) C (c_Mo_shortestOf l D ct a_this a_forms a_sizes a_items a_moved a_bytes a_typed a_chances a_longs a_letters a_isThere a_pieceLongs a_pieceLetters a_song a_settings a_guess a_row a_least a_nights f_latest f_at_1 f_guesses f_todo F f_names_1 f_pieces_1 f_songLong_1 f_longs_1 f_letters_1 f_isThere_1 f_pieceLongs_1 f_pieceLetters_1 f_song_1 x1 v13 hc13) ⟨rfl, rfl⟩ yn_yX11_shortestOf tw_1342 tw_67 tw_1340 ⟨Nat.le_of_ble_eq_true rfl, Nat.le_of_ble_eq_true rfl⟩ ⟨Nat.zero_le _, Nat.zero_le _⟩ hP [0, 4, 5, 6, 7, 8, 9] rfl rfl rfl rfl hl.1 rfl rfl (Nat.le_of_ble_eq_true rfl) dX11_shortest_13 rfl ?_
    refine lv_goto (tgt := 21) hx hb dX11_shortest_16 (by decide) ?_
    obtain ⟨e1, e2, e3, e4, e5, e6, e7, e8, e9, e10, e11, e12⟩ := ti12 hf
    subst e1; subst e2; subst e3; subst e4; subst e5; subst e6; subst e7; subst e8; subst e9; subst e10; subst e11; subst e12
    exact kretM C hP hD hS dX11_shortest_21
def RM_Mo_sungOf : Room := { frames := 1, cells := 0, slots := 0, locals := 22 }
set_option maxHeartbeats 4000000 in
set_option maxRecDepth 100000 in
theorem t_Mo_sungOf_b128 {p : Program} {l : Launch} {e : Env} {s : State} {m : MethodId} {args : Array Value} {below : List Frame} {meth : Method} {c : Code} {D : va_G} {ct : Nat → ClassId} (C : CX p s m args meth c RX11 cX11_sungOf 7 (some .int) D ct) (a_this a_forms a_sizes a_items a_moved a_bytes a_typed a_chances a_longs a_letters a_isThere a_pieceLongs a_pieceLetters a_song a_settings a_guess a_row a_least a_nights : Nat) (f_latest : Int32) (f_at : Int32) (f_pieces : Int32) (f_songLong : Int32) (f_guesses : Int32) (f_todo : Int32) (F : Nat) (f_names : Int32) (f_longs : Nat → Int32) (f_letters : Nat → Int32) (x1 : Int32) (x2 : Int32) (r : Int32) : Mo_sungOf_b128 F f_names f_longs f_letters x1 x2 = some r → va_P D vwCl (w_Mo_sungOf ct a_this a_forms a_sizes a_items a_moved a_bytes a_typed a_chances a_longs a_letters a_isThere a_pieceLongs a_pieceLetters a_song a_settings a_guess a_row a_least a_nights f_latest f_at f_names f_pieces f_songLong f_guesses f_todo f_longs f_letters) s.heap → ∀ ls : Array Slot, lv_has ls 7 [] → W p l e RM_Mo_sungOf s m args below meth c s.heap [] 0 0 (MQ below (QR (some (.int r))) args s 0 0 (fun _ => False)) (F0 m 128 ls []) := by
  obtain ⟨hx, hb, hr, hml, hown, hts, hlk, hK, hN⟩ := id C
  intro hf hP ls hl
  unfold Mo_sungOf_b128 at hf
  refine lv_iconst (v := (-1)) hx hb dX11_sungOf_128 (by decide) ?_
  refine lv_goto (tgt := 156) hx hb dX11_sungOf_129 (by decide) ?_
  have e1 := Option.some.inj hf
  subst e1
  exact kretR C dX11_sungOf_156
set_option maxHeartbeats 4000000 in
set_option maxRecDepth 100000 in
theorem t_Mo_sungOf_b103 {p : Program} {l : Launch} {e : Env} {s : State} {m : MethodId} {args : Array Value} {below : List Frame} {meth : Method} {c : Code} {D : va_G} {ct : Nat → ClassId} (C : CX p s m args meth c RX11 cX11_sungOf 7 (some .int) D ct) (a_this a_forms a_sizes a_items a_moved a_bytes a_typed a_chances a_longs a_letters a_isThere a_pieceLongs a_pieceLetters a_song a_settings a_guess a_row a_least a_nights : Nat) (f_latest : Int32) (f_at : Int32) (f_pieces : Int32) (f_songLong : Int32) (f_guesses : Int32) (f_todo : Int32) (F : Nat) (f_names : Int32) (f_longs : Nat → Int32) (f_letters : Nat → Int32) (x1 : Int32) (x2 : Int32) (r : Int32) : ∀ (x3 : Int32) (x4 : Int32) (x5 : Int32), Mo_sungOf_b103 F f_names f_longs f_letters x1 x2 x3 x4 x5 = some r → va_P D vwCl (w_Mo_sungOf ct a_this a_forms a_sizes a_items a_moved a_bytes a_typed a_chances a_longs a_letters a_isThere a_pieceLongs a_pieceLetters a_song a_settings a_guess a_row a_least a_nights f_latest f_at f_names f_pieces f_songLong f_guesses f_todo f_longs f_letters) s.heap → ∀ ls : Array Slot, lv_has ls 7 [(0, .ref a_this), (2, .int x2), (3, .int x3), (4, .int x4), (5, .int x5)] → W p l e RM_Mo_sungOf s m args below meth c s.heap [] 0 0 (MQ below (QR (some (.int r))) args s 0 0 (fun _ => False)) (F0 m 103 ls []) := by
  obtain ⟨hx, hb, hr, hml, hown, hts, hlk, hK, hN⟩ := id C
  intro x3 x4 x5 hf hP ls hl
  unfold Mo_sungOf_b103 at hf
  refine lv_iload_n hx hb dX11_sungOf_103 rfl (lv_at hl 2 rfl) ?_
  refine lv_iconst (v := (-1)) hx hb dX11_sungOf_104 (by decide) ?_
  refine lv_icmp_ne (tgt := 113) hx hb dX11_sungOf_105 (by decide) (fun hc => ?_) (fun hc => ?_)
  · have hf := kneg hc hf
    refine lv_iload hx hb dX11_sungOf_113 (lv_at hl 4 rfl) ?_
    refine lv_if_eq (tgt := 128) hx hb dX11_sungOf_115 (by decide) (fun hc => ?_) (fun hc => ?_)
    · have hf := kpos hc hf
      exact t_Mo_sungOf_b128 C a_this a_forms a_sizes a_items a_moved a_bytes a_typed a_chances a_longs a_letters a_isThere a_pieceLongs a_pieceLetters a_song a_settings a_guess a_row a_least a_nights f_latest f_at f_pieces f_songLong f_guesses f_todo F f_names f_longs f_letters x1 x2 r hf hP _ (lv_sub hl [] rfl)
    · have hf := kneg hc hf
      refine lv_iload_n hx hb dX11_sungOf_118 rfl (lv_at hl 1 rfl) ?_
      refine lv_aload_n hx hb dX11_sungOf_119 rfl (lv_at hl 0 rfl) ?_
      refine va_get (ci := 11) (v := .ref a_longs) (C := RX11) (T := TX11) (N := 25) hx hb hts inX11 hown hK hP 0 rfl rfl 10 (by decide) (hts _ tw_955) (fun _ h9 => h9) rfl dX11_sungOf_120 ?_
      refine lv_iload_n hx hb dX11_sungOf_123 rfl (lv_at hl 2 rfl) ?_
      obtain ⟨hin, hf⟩ := rd_some hf
      generalize ev124 : f_longs (Int32.toNatClampNeg x3) = v124 at hf
      refine kiald hx hb hK hP 1 0 rfl rfl hin ev124 dX11_sungOf_124 ?_
      refine lv_icmp_lt (tgt := 132) hx hb dX11_sungOf_125 (by decide) (fun hc => ?_) (fun hc => ?_)
      · have hf := kpos hc hf
        refine lv_iload hx hb dX11_sungOf_132 (lv_at hl 3 rfl) ?_
        refine lv_if_eq (tgt := 154) hx hb dX11_sungOf_134 (by decide) (fun hc => ?_) (fun hc => ?_)
        · have hf := kpos hc hf
          refine lv_bipush (v := 46) hx hb dX11_sungOf_154 (by decide) ?_
          have e1 := Option.some.inj hf
          subst e1
          exact kretR C dX11_sungOf_156
        · have hf := kneg hc hf
          refine lv_bipush (v := 97) hx hb dX11_sungOf_137 (by decide) ?_
          refine lv_aload_n hx hb dX11_sungOf_139 rfl (lv_at hl 0 rfl) ?_
          refine va_get (ci := 11) (v := .ref a_letters) (C := RX11) (T := TX11) (N := 25) hx hb hts inX11 hown hK hP 0 rfl rfl 11 (by decide) (hts _ tw_956) (fun _ h9 => h9) rfl dX11_sungOf_140 ?_
          refine lv_bipush (v := 6) hx hb dX11_sungOf_143 (by decide) ?_
          refine lv_iload_n hx hb dX11_sungOf_145 rfl (lv_at hl 2 rfl) ?_
          refine lv_imul hx hb dX11_sungOf_146 ?_
          refine lv_iload_n hx hb dX11_sungOf_147 rfl (lv_at hl 1 rfl) ?_
          refine lv_iadd hx hb dX11_sungOf_148 ?_
          obtain ⟨hin, hf⟩ := rd_some hf
          generalize ev149 : f_letters (Int32.toNatClampNeg ((6 * x3) + x2)) = v149 at hf
          refine kiald hx hb hK hP 2 0 rfl rfl hin ev149 dX11_sungOf_149 ?_
          refine lv_iadd hx hb dX11_sungOf_150 ?_
          refine lv_goto (tgt := 156) hx hb dX11_sungOf_151 (by decide) ?_
          have e1 := Option.some.inj hf
          subst e1
          exact kretR C dX11_sungOf_156
      · have hf := kneg hc hf
        exact t_Mo_sungOf_b128 C a_this a_forms a_sizes a_items a_moved a_bytes a_typed a_chances a_longs a_letters a_isThere a_pieceLongs a_pieceLetters a_song a_settings a_guess a_row a_least a_nights f_latest f_at f_pieces f_songLong f_guesses f_todo F f_names f_longs f_letters x1 x2 r hf hP _ (lv_sub hl [] rfl)
  · have hf := kpos hc hf
    refine lv_bipush (v := (-2)) hx hb dX11_sungOf_108 (by decide) ?_
    refine lv_goto (tgt := 156) hx hb dX11_sungOf_110 (by decide) ?_
    have e1 := Option.some.inj hf
    subst e1
    exact kretR C dX11_sungOf_156
set_option maxHeartbeats 4000000 in
set_option maxRecDepth 100000 in
theorem t_Mo_sungOf_b97 {p : Program} {l : Launch} {e : Env} {s : State} {m : MethodId} {args : Array Value} {below : List Frame} {meth : Method} {c : Code} {D : va_G} {ct : Nat → ClassId} (C : CX p s m args meth c RX11 cX11_sungOf 7 (some .int) D ct) (a_this a_forms a_sizes a_items a_moved a_bytes a_typed a_chances a_longs a_letters a_isThere a_pieceLongs a_pieceLetters a_song a_settings a_guess a_row a_least a_nights : Nat) (f_latest : Int32) (f_at : Int32) (f_pieces : Int32) (f_songLong : Int32) (f_guesses : Int32) (f_todo : Int32) (F : Nat) (f_names : Int32) (f_longs : Nat → Int32) (f_letters : Nat → Int32) (x1 : Int32) (x2 : Int32) (r : Int32) (rec11 : Int32 → Int32 → Int32 → Int32 → Option Int32) (hr11 : ∀ (x3 : Int32) (x4 : Int32) (x5 : Int32) (x6 : Int32), rec11 x3 x4 x5 x6 = some r → va_P D vwCl (w_Mo_sungOf ct a_this a_forms a_sizes a_items a_moved a_bytes a_typed a_chances a_longs a_letters a_isThere a_pieceLongs a_pieceLetters a_song a_settings a_guess a_row a_least a_nights f_latest f_at f_names f_pieces f_songLong f_guesses f_todo f_longs f_letters) s.heap → ∀ ls : Array Slot, lv_has ls 7 [(0, .ref a_this), (1, .int x1), (2, .int x2), (3, .int x3), (4, .int x4), (5, .int x5), (6, .int x6)] → W p l e RM_Mo_sungOf s m args below meth c s.heap [] 0 0 (MQ below (QR (some (.int r))) args s 0 0 (fun _ => False)) (F0 m 11 ls [])) : ∀ (x3 : Int32) (x4 : Int32) (x5 : Int32) (x6 : Int32), Mo_sungOf_b97 F f_names f_longs f_letters x1 x2 rec11 x3 x4 x5 x6 = some r → va_P D vwCl (w_Mo_sungOf ct a_this a_forms a_sizes a_items a_moved a_bytes a_typed a_chances a_longs a_letters a_isThere a_pieceLongs a_pieceLetters a_song a_settings a_guess a_row a_least a_nights f_latest f_at f_names f_pieces f_songLong f_guesses f_todo f_longs f_letters) s.heap → ∀ ls : Array Slot, lv_has ls 7 [(0, .ref a_this), (1, .int x1), (2, .int x2), (3, .int x3), (4, .int x4), (5, .int x5), (6, .int x6)] → W p l e RM_Mo_sungOf s m args below meth c s.heap [] 0 0 (MQ below (QR (some (.int r))) args s 0 0 (fun _ => False)) (F0 m 97 ls []) := by
  obtain ⟨hx, hb, hr, hml, hown, hts, hlk, hK, hN⟩ := id C
  intro x3 x4 x5 x6 hf hP ls hl
  unfold Mo_sungOf_b97 at hf
  refine lv_iinc (v := x6 + 1) (lv' := [(6, .int (x6 + 1)), (0, .ref a_this), (1, .int x1), (2, .int x2), (3, .int x3), (4, .int x4), (5, .int x5)]) hx hb dX11_sungOf_97 hl (k := 6) rfl rfl (by decide) rfl (fun ls hl => ?_)
  refine lv_goto (tgt := 11) hx hb dX11_sungOf_100 (by decide) ?_
  exact hr11 x3 x4 x5 (x6 + 1) hf hP _ (lv_sub hl [1, 2, 3, 4, 5, 6, 0] rfl)
set_option maxHeartbeats 4000000 in
set_option maxRecDepth 100000 in
theorem t_Mo_sungOf_b95 {p : Program} {l : Launch} {e : Env} {s : State} {m : MethodId} {args : Array Value} {below : List Frame} {meth : Method} {c : Code} {D : va_G} {ct : Nat → ClassId} (C : CX p s m args meth c RX11 cX11_sungOf 7 (some .int) D ct) (a_this a_forms a_sizes a_items a_moved a_bytes a_typed a_chances a_longs a_letters a_isThere a_pieceLongs a_pieceLetters a_song a_settings a_guess a_row a_least a_nights : Nat) (f_latest : Int32) (f_at : Int32) (f_pieces : Int32) (f_songLong : Int32) (f_guesses : Int32) (f_todo : Int32) (F : Nat) (f_names : Int32) (f_longs : Nat → Int32) (f_letters : Nat → Int32) (x1 : Int32) (x2 : Int32) (r : Int32) (rec11 : Int32 → Int32 → Int32 → Int32 → Option Int32) (hr11 : ∀ (x3 : Int32) (x4 : Int32) (x5 : Int32) (x6 : Int32), rec11 x3 x4 x5 x6 = some r → va_P D vwCl (w_Mo_sungOf ct a_this a_forms a_sizes a_items a_moved a_bytes a_typed a_chances a_longs a_letters a_isThere a_pieceLongs a_pieceLetters a_song a_settings a_guess a_row a_least a_nights f_latest f_at f_names f_pieces f_songLong f_guesses f_todo f_longs f_letters) s.heap → ∀ ls : Array Slot, lv_has ls 7 [(0, .ref a_this), (1, .int x1), (2, .int x2), (3, .int x3), (4, .int x4), (5, .int x5), (6, .int x6)] → W p l e RM_Mo_sungOf s m args below meth c s.heap [] 0 0 (MQ below (QR (some (.int r))) args s 0 0 (fun _ => False)) (F0 m 11 ls [])) : ∀ (x3 : Int32) (x5 : Int32) (x6 : Int32) (k0 : Int32), Mo_sungOf_b95 F f_names f_longs f_letters x1 x2 rec11 x3 x5 x6 k0 = some r → va_P D vwCl (w_Mo_sungOf ct a_this a_forms a_sizes a_items a_moved a_bytes a_typed a_chances a_longs a_letters a_isThere a_pieceLongs a_pieceLetters a_song a_settings a_guess a_row a_least a_nights f_latest f_at f_names f_pieces f_songLong f_guesses f_todo f_longs f_letters) s.heap → ∀ ls : Array Slot, lv_has ls 7 [(0, .ref a_this), (1, .int x1), (2, .int x2), (3, .int x3), (5, .int x5), (6, .int x6)] → W p l e RM_Mo_sungOf s m args below meth c s.heap [] 0 0 (MQ below (QR (some (.int r))) args s 0 0 (fun _ => False)) (F0 m 95 ls [.int k0]) := by
  obtain ⟨hx, hb, hr, hml, hown, hts, hlk, hK, hN⟩ := id C
  intro x3 x5 x6 k0 hf hP ls hl
  unfold Mo_sungOf_b95 at hf
  refine lv_istore (lv' := [(4, .int k0), (0, .ref a_this), (1, .int x1), (2, .int x2), (3, .int x3), (5, .int x5), (6, .int x6)]) hx hb dX11_sungOf_95 hl (by decide) rfl (fun ls hl => ?_)
  exact t_Mo_sungOf_b97 C a_this a_forms a_sizes a_items a_moved a_bytes a_typed a_chances a_longs a_letters a_isThere a_pieceLongs a_pieceLetters a_song a_settings a_guess a_row a_least a_nights f_latest f_at f_pieces f_songLong f_guesses f_todo F f_names f_longs f_letters x1 x2 r rec11 hr11 x3 k0 x5 x6 hf hP _ (lv_sub hl [1, 2, 3, 4, 0, 5, 6] rfl)
set_option maxHeartbeats 4000000 in
set_option maxRecDepth 100000 in
theorem t_Mo_sungOf_b94 {p : Program} {l : Launch} {e : Env} {s : State} {m : MethodId} {args : Array Value} {below : List Frame} {meth : Method} {c : Code} {D : va_G} {ct : Nat → ClassId} (C : CX p s m args meth c RX11 cX11_sungOf 7 (some .int) D ct) (a_this a_forms a_sizes a_items a_moved a_bytes a_typed a_chances a_longs a_letters a_isThere a_pieceLongs a_pieceLetters a_song a_settings a_guess a_row a_least a_nights : Nat) (f_latest : Int32) (f_at : Int32) (f_pieces : Int32) (f_songLong : Int32) (f_guesses : Int32) (f_todo : Int32) (F : Nat) (f_names : Int32) (f_longs : Nat → Int32) (f_letters : Nat → Int32) (x1 : Int32) (x2 : Int32) (r : Int32) (rec11 : Int32 → Int32 → Int32 → Int32 → Option Int32) (hr11 : ∀ (x3 : Int32) (x4 : Int32) (x5 : Int32) (x6 : Int32), rec11 x3 x4 x5 x6 = some r → va_P D vwCl (w_Mo_sungOf ct a_this a_forms a_sizes a_items a_moved a_bytes a_typed a_chances a_longs a_letters a_isThere a_pieceLongs a_pieceLetters a_song a_settings a_guess a_row a_least a_nights f_latest f_at f_names f_pieces f_songLong f_guesses f_todo f_longs f_letters) s.heap → ∀ ls : Array Slot, lv_has ls 7 [(0, .ref a_this), (1, .int x1), (2, .int x2), (3, .int x3), (4, .int x4), (5, .int x5), (6, .int x6)] → W p l e RM_Mo_sungOf s m args below meth c s.heap [] 0 0 (MQ below (QR (some (.int r))) args s 0 0 (fun _ => False)) (F0 m 11 ls [])) : ∀ (x3 : Int32) (x5 : Int32) (x6 : Int32), Mo_sungOf_b94 F f_names f_longs f_letters x1 x2 rec11 x3 x5 x6 = some r → va_P D vwCl (w_Mo_sungOf ct a_this a_forms a_sizes a_items a_moved a_bytes a_typed a_chances a_longs a_letters a_isThere a_pieceLongs a_pieceLetters a_song a_settings a_guess a_row a_least a_nights f_latest f_at f_names f_pieces f_songLong f_guesses f_todo f_longs f_letters) s.heap → ∀ ls : Array Slot, lv_has ls 7 [(0, .ref a_this), (1, .int x1), (2, .int x2), (3, .int x3), (5, .int x5), (6, .int x6)] → W p l e RM_Mo_sungOf s m args below meth c s.heap [] 0 0 (MQ below (QR (some (.int r))) args s 0 0 (fun _ => False)) (F0 m 94 ls []) := by
  obtain ⟨hx, hb, hr, hml, hown, hts, hlk, hK, hN⟩ := id C
  intro x3 x5 x6 hf hP ls hl
  unfold Mo_sungOf_b94 at hf
  refine lv_iconst (v := 0) hx hb dX11_sungOf_94 (by decide) ?_
  exact t_Mo_sungOf_b95 C a_this a_forms a_sizes a_items a_moved a_bytes a_typed a_chances a_longs a_letters a_isThere a_pieceLongs a_pieceLetters a_song a_settings a_guess a_row a_least a_nights f_latest f_at f_pieces f_songLong f_guesses f_todo F f_names f_longs f_letters x1 x2 r rec11 hr11 x3 x5 x6 0 hf hP _ (lv_sub hl [0, 1, 2, 3, 4, 5] rfl)
set_option maxHeartbeats 4000000 in
set_option maxRecDepth 100000 in
theorem t_Mo_sungOf_b67 {p : Program} {l : Launch} {e : Env} {s : State} {m : MethodId} {args : Array Value} {below : List Frame} {meth : Method} {c : Code} {D : va_G} {ct : Nat → ClassId} (C : CX p s m args meth c RX11 cX11_sungOf 7 (some .int) D ct) (a_this a_forms a_sizes a_items a_moved a_bytes a_typed a_chances a_longs a_letters a_isThere a_pieceLongs a_pieceLetters a_song a_settings a_guess a_row a_least a_nights : Nat) (f_latest : Int32) (f_at : Int32) (f_pieces : Int32) (f_songLong : Int32) (f_guesses : Int32) (f_todo : Int32) (F : Nat) (f_names : Int32) (f_longs : Nat → Int32) (f_letters : Nat → Int32) (x1 : Int32) (x2 : Int32) (r : Int32) (rec11 : Int32 → Int32 → Int32 → Int32 → Option Int32) (hr11 : ∀ (x3 : Int32) (x4 : Int32) (x5 : Int32) (x6 : Int32), rec11 x3 x4 x5 x6 = some r → va_P D vwCl (w_Mo_sungOf ct a_this a_forms a_sizes a_items a_moved a_bytes a_typed a_chances a_longs a_letters a_isThere a_pieceLongs a_pieceLetters a_song a_settings a_guess a_row a_least a_nights f_latest f_at f_names f_pieces f_songLong f_guesses f_todo f_longs f_letters) s.heap → ∀ ls : Array Slot, lv_has ls 7 [(0, .ref a_this), (1, .int x1), (2, .int x2), (3, .int x3), (4, .int x4), (5, .int x5), (6, .int x6)] → W p l e RM_Mo_sungOf s m args below meth c s.heap [] 0 0 (MQ below (QR (some (.int r))) args s 0 0 (fun _ => False)) (F0 m 11 ls [])) : ∀ (x3 : Int32) (x4 : Int32) (x6 : Int32) (k0 : Int32), Mo_sungOf_b67 F f_names f_longs f_letters x1 x2 rec11 x3 x4 x6 k0 = some r → va_P D vwCl (w_Mo_sungOf ct a_this a_forms a_sizes a_items a_moved a_bytes a_typed a_chances a_longs a_letters a_isThere a_pieceLongs a_pieceLetters a_song a_settings a_guess a_row a_least a_nights f_latest f_at f_names f_pieces f_songLong f_guesses f_todo f_longs f_letters) s.heap → ∀ ls : Array Slot, lv_has ls 7 [(0, .ref a_this), (1, .int x1), (2, .int x2), (3, .int x3), (4, .int x4), (6, .int x6)] → W p l e RM_Mo_sungOf s m args below meth c s.heap [] 0 0 (MQ below (QR (some (.int r))) args s 0 0 (fun _ => False)) (F0 m 67 ls [.int k0]) := by
  obtain ⟨hx, hb, hr, hml, hown, hts, hlk, hK, hN⟩ := id C
  intro x3 x4 x6 k0 hf hP ls hl
  unfold Mo_sungOf_b67 at hf
  refine lv_istore (lv' := [(5, .int k0), (0, .ref a_this), (1, .int x1), (2, .int x2), (3, .int x3), (4, .int x4), (6, .int x6)]) hx hb dX11_sungOf_67 hl (by decide) rfl (fun ls hl => ?_)
  refine lv_iload hx hb dX11_sungOf_69 (lv_at hl 5 rfl) ?_
  refine lv_if_eq (tgt := 94) hx hb dX11_sungOf_71 (by decide) (fun hc => ?_) (fun hc => ?_)
  · have hf := kpos hc hf
    exact t_Mo_sungOf_b94 C a_this a_forms a_sizes a_items a_moved a_bytes a_typed a_chances a_longs a_letters a_isThere a_pieceLongs a_pieceLetters a_song a_settings a_guess a_row a_least a_nights f_latest f_at f_pieces f_songLong f_guesses f_todo F f_names f_longs f_letters x1 x2 r rec11 hr11 x3 k0 x6 hf hP _ (lv_sub hl [1, 2, 3, 4, 0, 6] rfl)
  · have hf := kneg hc hf
    refine lv_aload_n hx hb dX11_sungOf_74 rfl (lv_at hl 1 rfl) ?_
    refine lv_iload hx hb dX11_sungOf_75 (lv_at hl 6 rfl) ?_
    refine lv_iload_n hx hb dX11_sungOf_77 rfl (lv_at hl 3 rfl) ?_
    obtain ⟨v78, hc78, hf⟩ := cb1_some hf
    refine kcRV (q0 := 0) (ci := 11) (As := [.int x6, .int x2]) (rest := []) (st1 := [.int v78]) C (c_Mo_letterAt l D ct a_this a_forms a_sizes a_items a_moved a_bytes a_typed a_chances a_longs a_letters a_isThere a_pieceLongs a_pieceLetters a_song a_settings a_guess a_row a_least a_nights f_latest f_at f_names f_pieces f_songLong f_guesses f_todo f_longs f_letters x6 x2 v78 hc78) ⟨rfl, rfl⟩ yn_yX11_letterAt tw_1281 tw_58 tw_1279 ⟨Nat.le_of_ble_eq_true rfl, Nat.le_of_ble_eq_true rfl⟩ ⟨Nat.zero_le _, Nat.zero_le _⟩ hP [0, 1, 2] rfl rfl rfl rfl hl.1 rfl rfl (Nat.le_of_ble_eq_true rfl) dX11_sungOf_78 rfl ?_
    refine lv_aload_n hx hb dX11_sungOf_81 rfl (lv_at hl 1 rfl) ?_
    refine lv_iload_n hx hb dX11_sungOf_82 rfl (lv_at hl 4 rfl) ?_
    refine lv_iload_n hx hb dX11_sungOf_83 rfl (lv_at hl 3 rfl) ?_
    obtain ⟨v84, hc84, hf⟩ := cb1_some hf
    refine kcRV (q0 := 0) (ci := 11) (As := [.int x3, .int x2]) (rest := [.int v78]) (st1 := [.int v84, .int v78]) C (c_Mo_letterAt l D ct a_this a_forms a_sizes a_items a_moved a_bytes a_typed a_chances a_longs a_letters a_isThere a_pieceLongs a_pieceLetters a_song a_settings a_guess a_row a_least a_nights f_latest f_at f_names f_pieces f_songLong f_guesses f_todo f_longs f_letters x3 x2 v84 hc84) ⟨rfl, rfl⟩ yn_yX11_letterAt tw_1281 tw_58 tw_1279 ⟨Nat.le_of_ble_eq_true rfl, Nat.le_of_ble_eq_true rfl⟩ ⟨Nat.zero_le _, Nat.zero_le _⟩ hP [0, 1, 2] rfl rfl rfl rfl hl.1 rfl rfl (Nat.le_of_ble_eq_true rfl) dX11_sungOf_84 rfl ?_
    refine lv_icmp_ne (tgt := 94) hx hb dX11_sungOf_87 (by decide) (fun hc => ?_) (fun hc => ?_)
    · have hf := kneg hc hf
      exact t_Mo_sungOf_b94 C a_this a_forms a_sizes a_items a_moved a_bytes a_typed a_chances a_longs a_letters a_isThere a_pieceLongs a_pieceLetters a_song a_settings a_guess a_row a_least a_nights f_latest f_at f_pieces f_songLong f_guesses f_todo F f_names f_longs f_letters x1 x2 r rec11 hr11 x3 k0 x6 hf hP _ (lv_sub hl [1, 2, 3, 4, 0, 6] rfl)
    · have hf := kpos hc hf
      refine lv_iconst (v := 1) hx hb dX11_sungOf_90 (by decide) ?_
      refine lv_goto (tgt := 95) hx hb dX11_sungOf_91 (by decide) ?_
      exact t_Mo_sungOf_b95 C a_this a_forms a_sizes a_items a_moved a_bytes a_typed a_chances a_longs a_letters a_isThere a_pieceLongs a_pieceLetters a_song a_settings a_guess a_row a_least a_nights f_latest f_at f_pieces f_songLong f_guesses f_todo F f_names f_longs f_letters x1 x2 r rec11 hr11 x3 k0 x6 1 hf hP _ (lv_sub hl [1, 2, 3, 4, 0, 6] rfl)
set_option maxHeartbeats 4000000 in
set_option maxRecDepth 100000 in
theorem t_Mo_sungOf_b66 {p : Program} {l : Launch} {e : Env} {s : State} {m : MethodId} {args : Array Value} {below : List Frame} {meth : Method} {c : Code} {D : va_G} {ct : Nat → ClassId} (C : CX p s m args meth c RX11 cX11_sungOf 7 (some .int) D ct) (a_this a_forms a_sizes a_items a_moved a_bytes a_typed a_chances a_longs a_letters a_isThere a_pieceLongs a_pieceLetters a_song a_settings a_guess a_row a_least a_nights : Nat) (f_latest : Int32) (f_at : Int32) (f_pieces : Int32) (f_songLong : Int32) (f_guesses : Int32) (f_todo : Int32) (F : Nat) (f_names : Int32) (f_longs : Nat → Int32) (f_letters : Nat → Int32) (x1 : Int32) (x2 : Int32) (r : Int32) (rec11 : Int32 → Int32 → Int32 → Int32 → Option Int32) (hr11 : ∀ (x3 : Int32) (x4 : Int32) (x5 : Int32) (x6 : Int32), rec11 x3 x4 x5 x6 = some r → va_P D vwCl (w_Mo_sungOf ct a_this a_forms a_sizes a_items a_moved a_bytes a_typed a_chances a_longs a_letters a_isThere a_pieceLongs a_pieceLetters a_song a_settings a_guess a_row a_least a_nights f_latest f_at f_names f_pieces f_songLong f_guesses f_todo f_longs f_letters) s.heap → ∀ ls : Array Slot, lv_has ls 7 [(0, .ref a_this), (1, .int x1), (2, .int x2), (3, .int x3), (4, .int x4), (5, .int x5), (6, .int x6)] → W p l e RM_Mo_sungOf s m args below meth c s.heap [] 0 0 (MQ below (QR (some (.int r))) args s 0 0 (fun _ => False)) (F0 m 11 ls [])) : ∀ (x3 : Int32) (x4 : Int32) (x6 : Int32), Mo_sungOf_b66 F f_names f_longs f_letters x1 x2 rec11 x3 x4 x6 = some r → va_P D vwCl (w_Mo_sungOf ct a_this a_forms a_sizes a_items a_moved a_bytes a_typed a_chances a_longs a_letters a_isThere a_pieceLongs a_pieceLetters a_song a_settings a_guess a_row a_least a_nights f_latest f_at f_names f_pieces f_songLong f_guesses f_todo f_longs f_letters) s.heap → ∀ ls : Array Slot, lv_has ls 7 [(0, .ref a_this), (1, .int x1), (2, .int x2), (3, .int x3), (4, .int x4), (6, .int x6)] → W p l e RM_Mo_sungOf s m args below meth c s.heap [] 0 0 (MQ below (QR (some (.int r))) args s 0 0 (fun _ => False)) (F0 m 66 ls []) := by
  obtain ⟨hx, hb, hr, hml, hown, hts, hlk, hK, hN⟩ := id C
  intro x3 x4 x6 hf hP ls hl
  unfold Mo_sungOf_b66 at hf
  refine lv_iconst (v := 0) hx hb dX11_sungOf_66 (by decide) ?_
  exact t_Mo_sungOf_b67 C a_this a_forms a_sizes a_items a_moved a_bytes a_typed a_chances a_longs a_letters a_isThere a_pieceLongs a_pieceLetters a_song a_settings a_guess a_row a_least a_nights f_latest f_at f_pieces f_songLong f_guesses f_todo F f_names f_longs f_letters x1 x2 r rec11 hr11 x3 x4 x6 0 hf hP _ (lv_sub hl [0, 1, 2, 3, 4, 5] rfl)
set_option maxHeartbeats 4000000 in
set_option maxRecDepth 100000 in
theorem t_Mo_sungOf_b40 {p : Program} {l : Launch} {e : Env} {s : State} {m : MethodId} {args : Array Value} {below : List Frame} {meth : Method} {c : Code} {D : va_G} {ct : Nat → ClassId} (C : CX p s m args meth c RX11 cX11_sungOf 7 (some .int) D ct) (a_this a_forms a_sizes a_items a_moved a_bytes a_typed a_chances a_longs a_letters a_isThere a_pieceLongs a_pieceLetters a_song a_settings a_guess a_row a_least a_nights : Nat) (f_latest : Int32) (f_at : Int32) (f_pieces : Int32) (f_songLong : Int32) (f_guesses : Int32) (f_todo : Int32) (F : Nat) (f_names : Int32) (f_longs : Nat → Int32) (f_letters : Nat → Int32) (x1 : Int32) (x2 : Int32) (r : Int32) (rec11 : Int32 → Int32 → Int32 → Int32 → Option Int32) (hr11 : ∀ (x3 : Int32) (x4 : Int32) (x5 : Int32) (x6 : Int32), rec11 x3 x4 x5 x6 = some r → va_P D vwCl (w_Mo_sungOf ct a_this a_forms a_sizes a_items a_moved a_bytes a_typed a_chances a_longs a_letters a_isThere a_pieceLongs a_pieceLetters a_song a_settings a_guess a_row a_least a_nights f_latest f_at f_names f_pieces f_songLong f_guesses f_todo f_longs f_letters) s.heap → ∀ ls : Array Slot, lv_has ls 7 [(0, .ref a_this), (1, .int x1), (2, .int x2), (3, .int x3), (4, .int x4), (5, .int x5), (6, .int x6)] → W p l e RM_Mo_sungOf s m args below meth c s.heap [] 0 0 (MQ below (QR (some (.int r))) args s 0 0 (fun _ => False)) (F0 m 11 ls [])) : ∀ (x4 : Int32) (x5 : Int32) (x6 : Int32) (k0 : Int32), Mo_sungOf_b40 F f_names f_longs f_letters x1 x2 rec11 x4 x5 x6 k0 = some r → va_P D vwCl (w_Mo_sungOf ct a_this a_forms a_sizes a_items a_moved a_bytes a_typed a_chances a_longs a_letters a_isThere a_pieceLongs a_pieceLetters a_song a_settings a_guess a_row a_least a_nights f_latest f_at f_names f_pieces f_songLong f_guesses f_todo f_longs f_letters) s.heap → ∀ ls : Array Slot, lv_has ls 7 [(0, .ref a_this), (1, .int x1), (2, .int x2), (4, .int x4), (5, .int x5), (6, .int x6)] → W p l e RM_Mo_sungOf s m args below meth c s.heap [] 0 0 (MQ below (QR (some (.int r))) args s 0 0 (fun _ => False)) (F0 m 40 ls [.int k0]) := by
  obtain ⟨hx, hb, hr, hml, hown, hts, hlk, hK, hN⟩ := id C
  intro x4 x5 x6 k0 hf hP ls hl
  unfold Mo_sungOf_b40 at hf
  refine lv_istore_n (lv' := [(3, .int k0), (0, .ref a_this), (1, .int x1), (2, .int x2), (4, .int x4), (5, .int x5), (6, .int x6)]) hx hb dX11_sungOf_40 rfl hl (by decide) rfl (fun ls hl => ?_)
  refine lv_iload hx hb dX11_sungOf_41 (lv_at hl 5 rfl) ?_
  refine lv_if_eq (tgt := 66) hx hb dX11_sungOf_43 (by decide) (fun hc => ?_) (fun hc => ?_)
  · have hf := kpos hc hf
    exact t_Mo_sungOf_b66 C a_this a_forms a_sizes a_items a_moved a_bytes a_typed a_chances a_longs a_letters a_isThere a_pieceLongs a_pieceLetters a_song a_settings a_guess a_row a_least a_nights f_latest f_at f_pieces f_songLong f_guesses f_todo F f_names f_longs f_letters x1 x2 r rec11 hr11 k0 x4 x6 hf hP _ (lv_sub hl [1, 2, 3, 0, 4, 6] rfl)
  · have hf := kneg hc hf
    refine lv_aload_n hx hb dX11_sungOf_46 rfl (lv_at hl 1 rfl) ?_
    refine va_get (ci := 11) (v := .ref a_longs) (C := RX11) (T := TX11) (N := 25) hx hb hts inX11 hown hK hP 0 rfl rfl 10 (by decide) (hts _ tw_955) (fun _ h9 => h9) rfl dX11_sungOf_47 ?_
    refine lv_iload hx hb dX11_sungOf_50 (lv_at hl 6 rfl) ?_
    obtain ⟨hin, hf⟩ := rd_some hf
    generalize ev52 : f_longs (Int32.toNatClampNeg x6) = v52 at hf
    refine kiald hx hb hK hP 1 0 rfl rfl hin ev52 dX11_sungOf_52 ?_
    refine lv_aload_n hx hb dX11_sungOf_53 rfl (lv_at hl 1 rfl) ?_
    refine va_get (ci := 11) (v := .ref a_longs) (C := RX11) (T := TX11) (N := 25) hx hb hts inX11 hown hK hP 0 rfl rfl 10 (by decide) (hts _ tw_955) (fun _ h9 => h9) rfl dX11_sungOf_54 ?_
    refine lv_iload_n hx hb dX11_sungOf_57 rfl (lv_at hl 0 rfl) ?_
    obtain ⟨hin, hf⟩ := rd_some hf
    generalize ev58 : f_longs (Int32.toNatClampNeg k0) = v58 at hf
    refine kiald hx hb hK hP 1 0 rfl rfl hin ev58 dX11_sungOf_58 ?_
    refine lv_icmp_ne (tgt := 66) hx hb dX11_sungOf_59 (by decide) (fun hc => ?_) (fun hc => ?_)
    · have hf := kneg hc hf
      exact t_Mo_sungOf_b66 C a_this a_forms a_sizes a_items a_moved a_bytes a_typed a_chances a_longs a_letters a_isThere a_pieceLongs a_pieceLetters a_song a_settings a_guess a_row a_least a_nights f_latest f_at f_pieces f_songLong f_guesses f_todo F f_names f_longs f_letters x1 x2 r rec11 hr11 k0 x4 x6 hf hP _ (lv_sub hl [1, 2, 3, 0, 4, 6] rfl)
    · have hf := kpos hc hf
      refine lv_iconst (v := 1) hx hb dX11_sungOf_62 (by decide) ?_
      refine lv_goto (tgt := 67) hx hb dX11_sungOf_63 (by decide) ?_
      exact t_Mo_sungOf_b67 C a_this a_forms a_sizes a_items a_moved a_bytes a_typed a_chances a_longs a_letters a_isThere a_pieceLongs a_pieceLetters a_song a_settings a_guess a_row a_least a_nights f_latest f_at f_pieces f_songLong f_guesses f_todo F f_names f_longs f_letters x1 x2 r rec11 hr11 k0 x4 x6 1 hf hP _ (lv_sub hl [1, 2, 3, 0, 4, 6] rfl)
set_option maxHeartbeats 4000000 in
set_option maxRecDepth 100000 in
theorem t_Mo_sungOf_b11 {p : Program} {l : Launch} {e : Env} {s : State} {m : MethodId} {args : Array Value} {below : List Frame} {meth : Method} {c : Code} {D : va_G} {ct : Nat → ClassId} (C : CX p s m args meth c RX11 cX11_sungOf 7 (some .int) D ct) (a_this a_forms a_sizes a_items a_moved a_bytes a_typed a_chances a_longs a_letters a_isThere a_pieceLongs a_pieceLetters a_song a_settings a_guess a_row a_least a_nights : Nat) (f_latest : Int32) (f_at : Int32) (f_pieces : Int32) (f_songLong : Int32) (f_guesses : Int32) (f_todo : Int32) (F : Nat) (f_names : Int32) (f_longs : Nat → Int32) (f_letters : Nat → Int32) (x1 : Int32) (x2 : Int32) (r : Int32) (rec11 : Int32 → Int32 → Int32 → Int32 → Option Int32) (hr11 : ∀ (x3 : Int32) (x4 : Int32) (x5 : Int32) (x6 : Int32), rec11 x3 x4 x5 x6 = some r → va_P D vwCl (w_Mo_sungOf ct a_this a_forms a_sizes a_items a_moved a_bytes a_typed a_chances a_longs a_letters a_isThere a_pieceLongs a_pieceLetters a_song a_settings a_guess a_row a_least a_nights f_latest f_at f_names f_pieces f_songLong f_guesses f_todo f_longs f_letters) s.heap → ∀ ls : Array Slot, lv_has ls 7 [(0, .ref a_this), (1, .int x1), (2, .int x2), (3, .int x3), (4, .int x4), (5, .int x5), (6, .int x6)] → W p l e RM_Mo_sungOf s m args below meth c s.heap [] 0 0 (MQ below (QR (some (.int r))) args s 0 0 (fun _ => False)) (F0 m 11 ls [])) : ∀ (x3 : Int32) (x4 : Int32) (x5 : Int32) (x6 : Int32), Mo_sungOf_b11 F f_names f_longs f_letters x1 x2 rec11 x3 x4 x5 x6 = some r → va_P D vwCl (w_Mo_sungOf ct a_this a_forms a_sizes a_items a_moved a_bytes a_typed a_chances a_longs a_letters a_isThere a_pieceLongs a_pieceLetters a_song a_settings a_guess a_row a_least a_nights f_latest f_at f_names f_pieces f_songLong f_guesses f_todo f_longs f_letters) s.heap → ∀ ls : Array Slot, lv_has ls 7 [(0, .ref a_this), (1, .int x1), (2, .int x2), (3, .int x3), (4, .int x4), (5, .int x5), (6, .int x6)] → W p l e RM_Mo_sungOf s m args below meth c s.heap [] 0 0 (MQ below (QR (some (.int r))) args s 0 0 (fun _ => False)) (F0 m 11 ls []) := by
  obtain ⟨hx, hb, hr, hml, hown, hts, hlk, hK, hN⟩ := id C
  intro x3 x4 x5 x6 hf hP ls hl
  unfold Mo_sungOf_b11 at hf
  refine lv_iload hx hb dX11_sungOf_11 (lv_at hl 6 rfl) ?_
  refine lv_aload_n hx hb dX11_sungOf_13 rfl (lv_at hl 0 rfl) ?_
  refine va_get (ci := 11) (v := .int f_names) (C := RX11) (T := TX11) (N := 25) hx hb hts inX11 hown hK hP 0 rfl rfl 8 (by decide) (hts _ tw_953) (fun _ h9 => h9) rfl dX11_sungOf_14 ?_
  refine lv_icmp_ge (tgt := 103) hx hb dX11_sungOf_17 (by decide) (fun hc => ?_) (fun hc => ?_)
  · have hf := kpos hc hf
    exact t_Mo_sungOf_b103 C a_this a_forms a_sizes a_items a_moved a_bytes a_typed a_chances a_longs a_letters a_isThere a_pieceLongs a_pieceLetters a_song a_settings a_guess a_row a_least a_nights f_latest f_at f_pieces f_songLong f_guesses f_todo F f_names f_longs f_letters x1 x2 r x3 x4 x5 hf hP _ (lv_sub hl [0, 2, 3, 4, 5] rfl)
  · have hf := kneg hc hf
    refine lv_iload_n hx hb dX11_sungOf_20 rfl (lv_at hl 1 rfl) ?_
    refine lv_iload hx hb dX11_sungOf_21 (lv_at hl 6 rfl) ?_
    obtain ⟨v23, hc23, hf⟩ := cb1_some hf
    refine kcRS (As := [.int x1, .int x6]) (rest := []) (st1 := [.int v23]) C (c_Mo_isIn l D ct x1 x6 v23 hc23) ⟨rfl, rfl⟩ yn_yX11_isIn tw_1169 tw_1168 ⟨Nat.le_of_ble_eq_true rfl, Nat.le_of_ble_eq_true rfl⟩ ⟨Nat.zero_le _, Nat.zero_le _⟩ hP [] rfl hl.1 rfl rfl (Nat.le_of_ble_eq_true rfl) dX11_sungOf_23 rfl ?_
    refine lv_if_eq (tgt := 97) hx hb dX11_sungOf_26 (by decide) (fun hc => ?_) (fun hc => ?_)
    · have hf := kpos hc hf
      exact t_Mo_sungOf_b97 C a_this a_forms a_sizes a_items a_moved a_bytes a_typed a_chances a_longs a_letters a_isThere a_pieceLongs a_pieceLetters a_song a_settings a_guess a_row a_least a_nights f_latest f_at f_pieces f_songLong f_guesses f_todo F f_names f_longs f_letters x1 x2 r rec11 hr11 x3 x4 x5 x6 hf hP _ (lv_sub hl [0, 1, 2, 3, 4, 5, 6] rfl)
    · have hf := kneg hc hf
      refine lv_iload_n hx hb dX11_sungOf_29 rfl (lv_at hl 3 rfl) ?_
      refine lv_iconst (v := (-1)) hx hb dX11_sungOf_30 (by decide) ?_
      refine lv_icmp_ne (tgt := 39) hx hb dX11_sungOf_31 (by decide) (fun hc => ?_) (fun hc => ?_)
      · have hf := kneg hc hf
        refine lv_iload_n hx hb dX11_sungOf_39 rfl (lv_at hl 3 rfl) ?_
        exact t_Mo_sungOf_b40 C a_this a_forms a_sizes a_items a_moved a_bytes a_typed a_chances a_longs a_letters a_isThere a_pieceLongs a_pieceLetters a_song a_settings a_guess a_row a_least a_nights f_latest f_at f_pieces f_songLong f_guesses f_todo F f_names f_longs f_letters x1 x2 r rec11 hr11 x4 x5 x6 x3 hf hP _ (lv_sub hl [0, 1, 2, 4, 5, 6] rfl)
      · have hf := kpos hc hf
        refine lv_iload hx hb dX11_sungOf_34 (lv_at hl 6 rfl) ?_
        refine lv_goto (tgt := 40) hx hb dX11_sungOf_36 (by decide) ?_
        exact t_Mo_sungOf_b40 C a_this a_forms a_sizes a_items a_moved a_bytes a_typed a_chances a_longs a_letters a_isThere a_pieceLongs a_pieceLetters a_song a_settings a_guess a_row a_least a_nights f_latest f_at f_pieces f_songLong f_guesses f_todo F f_names f_longs f_letters x1 x2 r rec11 hr11 x4 x5 x6 x6 hf hP _ (lv_sub hl [0, 1, 2, 4, 5, 6] rfl)
set_option maxHeartbeats 4000000 in
set_option maxRecDepth 100000 in
theorem t_Mo_sungOf_l11 {p : Program} {l : Launch} {e : Env} {s : State} {m : MethodId} {args : Array Value} {below : List Frame} {meth : Method} {c : Code} {D : va_G} {ct : Nat → ClassId} (C : CX p s m args meth c RX11 cX11_sungOf 7 (some .int) D ct) (a_this a_forms a_sizes a_items a_moved a_bytes a_typed a_chances a_longs a_letters a_isThere a_pieceLongs a_pieceLetters a_song a_settings a_guess a_row a_least a_nights : Nat) (f_latest : Int32) (f_at : Int32) (f_pieces : Int32) (f_songLong : Int32) (f_guesses : Int32) (f_todo : Int32) (F : Nat) (f_names : Int32) (f_longs : Nat → Int32) (f_letters : Nat → Int32) (x1 : Int32) (x2 : Int32) (r : Int32) : ∀ (n : Nat) (x3 : Int32) (x4 : Int32) (x5 : Int32) (x6 : Int32), Mo_sungOf_l11 F f_names f_longs f_letters x1 x2 n x3 x4 x5 x6 = some r → va_P D vwCl (w_Mo_sungOf ct a_this a_forms a_sizes a_items a_moved a_bytes a_typed a_chances a_longs a_letters a_isThere a_pieceLongs a_pieceLetters a_song a_settings a_guess a_row a_least a_nights f_latest f_at f_names f_pieces f_songLong f_guesses f_todo f_longs f_letters) s.heap → ∀ ls : Array Slot, lv_has ls 7 [(0, .ref a_this), (1, .int x1), (2, .int x2), (3, .int x3), (4, .int x4), (5, .int x5), (6, .int x6)] → W p l e RM_Mo_sungOf s m args below meth c s.heap [] 0 0 (MQ below (QR (some (.int r))) args s 0 0 (fun _ => False)) (F0 m 11 ls []) := by
  intro n
  induction n with
  | zero =>
    intro x3 x4 x5 x6 hf
    exact absurd hf (by simp [Mo_sungOf_l11])
  | succ n ih =>
    intro x3 x4 x5 x6 hf
    exact t_Mo_sungOf_b11 C a_this a_forms a_sizes a_items a_moved a_bytes a_typed a_chances a_longs a_letters a_isThere a_pieceLongs a_pieceLetters a_song a_settings a_guess a_row a_least a_nights f_latest f_at f_pieces f_songLong f_guesses f_todo F f_names f_longs f_letters x1 x2 r (Mo_sungOf_l11 F f_names f_longs f_letters x1 x2 n) ih x3 x4 x5 x6 hf
set_option maxHeartbeats 4000000 in
set_option maxRecDepth 100000 in
theorem c_Mo_sungOf (l : Launch) (D : va_G) (ct : Nat → ClassId) (a_this a_forms a_sizes a_items a_moved a_bytes a_typed a_chances a_longs a_letters a_isThere a_pieceLongs a_pieceLetters a_song a_settings a_guess a_row a_least a_nights : Nat) (f_latest : Int32) (f_at : Int32) (f_pieces : Int32) (f_songLong : Int32) (f_guesses : Int32) (f_todo : Int32) (F : Nat) (f_names : Int32) (f_longs : Nat → Int32) (f_letters : Nat → Int32) (x1 : Int32) (x2 : Int32) (r : Int32) (hf : Mo_sungOf F f_names f_longs f_letters x1 x2 = some r) : Met l yX11_sungOf (WS yX11_sungOf cX11_sungOf 7 (some .int)) RM_Mo_sungOf (va_Pc [.ref a_this, .int x1, .int x2] (PR D ct (w_Mo_sungOf ct a_this a_forms a_sizes a_items a_moved a_bytes a_typed a_chances a_longs a_letters a_isThere a_pieceLongs a_pieceLetters a_song a_settings a_guess a_row a_least a_nights f_latest f_at f_names f_pieces f_songLong f_guesses f_todo f_longs f_letters))) (QR (some (.int r))) 0 0 (fun _ => False) := by
  refine kMetR yn_yX11_sungOf rfl (Nat.le_of_ble_eq_true rfl) ?_
  intro p e s m args below meth c C hP ls hl
  have hl : lv_has ls 7 [(0, .ref a_this), (1, .int x1), (2, .int x2)] := hl
  obtain ⟨hx, hb, hr, hml, hown, hts, hlk, hK, hN⟩ := id C
  unfold Mo_sungOf at hf
  refine lv_iconst (v := (-1)) hx hb dX11_sungOf_0 (by decide) ?_
  refine lv_istore_n (lv' := [(3, .int (-1)), (0, .ref a_this), (1, .int x1), (2, .int x2)]) hx hb dX11_sungOf_1 rfl hl (by decide) rfl (fun ls hl => ?_)
  refine lv_iconst (v := 1) hx hb dX11_sungOf_2 (by decide) ?_
  refine lv_istore (lv' := [(4, .int 1), (3, .int (-1)), (0, .ref a_this), (1, .int x1), (2, .int x2)]) hx hb dX11_sungOf_3 hl (by decide) rfl (fun ls hl => ?_)
  refine lv_iconst (v := 1) hx hb dX11_sungOf_5 (by decide) ?_
  refine lv_istore (lv' := [(5, .int 1), (4, .int 1), (3, .int (-1)), (0, .ref a_this), (1, .int x1), (2, .int x2)]) hx hb dX11_sungOf_6 hl (by decide) rfl (fun ls hl => ?_)
  refine lv_iconst (v := 0) hx hb dX11_sungOf_8 (by decide) ?_
  refine lv_istore (lv' := [(6, .int 0), (5, .int 1), (4, .int 1), (3, .int (-1)), (0, .ref a_this), (1, .int x1), (2, .int x2)]) hx hb dX11_sungOf_9 hl (by decide) rfl (fun ls hl => ?_)
  exact t_Mo_sungOf_l11 C a_this a_forms a_sizes a_items a_moved a_bytes a_typed a_chances a_longs a_letters a_isThere a_pieceLongs a_pieceLetters a_song a_settings a_guess a_row a_least a_nights f_latest f_at f_pieces f_songLong f_guesses f_todo F f_names f_longs f_letters x1 x2 r F (-1) 1 1 0 hf hP _ (lv_sub hl [4, 5, 6, 3, 2, 1, 0] rfl)
def RM_Mo_sung : Room := { frames := 5, cells := 0, slots := 0, locals := 111 }
set_option maxHeartbeats 4000000 in
set_option maxRecDepth 100000 in
theorem c_Mo_sung (l : Launch) (D : va_G) (ct : Nat → ClassId) (a_this a_forms a_sizes a_items a_moved a_bytes a_typed a_chances a_longs a_letters a_isThere a_pieceLongs a_pieceLetters a_song a_settings a_guess a_row a_least a_nights : Nat) (f_latest : Int32) (f_guesses : Int32) (f_todo : Int32) (F : Nat) (f_bytes : Nat → Int32) (f_typed : Nat → Int32) (f_at : Int32) (f_names : Int32) (f_pieces : Int32) (f_songLong : Int32) (f_chances : Nat → Int32) (f_longs : Nat → Int32) (f_letters : Nat → Int32) (f_isThere : Nat → Int32) (f_pieceLongs : Nat → Int32) (f_pieceLetters : Nat → Int32) (f_song : Nat → Int32) (x1 : Int32) (x2 : Int32) (r : Int32) (r_at : Int32) (r_names : Int32) (r_pieces : Int32) (r_songLong : Int32) (r_chances : Nat → Int32) (r_longs : Nat → Int32) (r_letters : Nat → Int32) (r_isThere : Nat → Int32) (r_pieceLongs : Nat → Int32) (r_pieceLetters : Nat → Int32) (r_song : Nat → Int32) (sz : Nat) (hf : Mo_sung F f_bytes f_typed f_at f_names f_pieces f_songLong f_chances f_longs f_letters f_isThere f_pieceLongs f_pieceLetters f_song x1 x2 = some (r, r_at, r_names, r_pieces, r_songLong, r_chances, r_longs, r_letters, r_isThere, r_pieceLongs, r_pieceLetters, r_song)) : Met l yX11_sung (WS yX11_sung cX11_sung 3 (some .int)) RM_Mo_sung (va_Pc [.ref a_this, .int x1, .int x2] (PM D ct sz (w_Mo_sung ct a_this a_forms a_sizes a_items a_moved a_bytes a_typed a_chances a_longs a_letters a_isThere a_pieceLongs a_pieceLetters a_song a_settings a_guess a_row a_least a_nights f_latest f_at f_names f_pieces f_songLong f_guesses f_todo f_bytes f_typed f_chances f_longs f_letters f_isThere f_pieceLongs f_pieceLetters f_song))) (QM D (some (.int r)) (w_Mo_sung ct a_this a_forms a_sizes a_items a_moved a_bytes a_typed a_chances a_longs a_letters a_isThere a_pieceLongs a_pieceLetters a_song a_settings a_guess a_row a_least a_nights f_latest r_at r_names r_pieces r_songLong f_guesses f_todo f_bytes f_typed r_chances r_longs r_letters r_isThere r_pieceLongs r_pieceLetters r_song) (va_A (w_Mo_sung ct a_this a_forms a_sizes a_items a_moved a_bytes a_typed a_chances a_longs a_letters a_isThere a_pieceLongs a_pieceLetters a_song a_settings a_guess a_row a_least a_nights f_latest f_at f_names f_pieces f_songLong f_guesses f_todo f_bytes f_typed f_chances f_longs f_letters f_isThere f_pieceLongs f_pieceLetters f_song) sz)) 0 0 (va_A (w_Mo_sung ct a_this a_forms a_sizes a_items a_moved a_bytes a_typed a_chances a_longs a_letters a_isThere a_pieceLongs a_pieceLetters a_song a_settings a_guess a_row a_least a_nights f_latest f_at f_names f_pieces f_songLong f_guesses f_todo f_bytes f_typed f_chances f_longs f_letters f_isThere f_pieceLongs f_pieceLetters f_song) sz) := by
  refine kMetM yn_yX11_sung rfl (Nat.le_of_ble_eq_true rfl) ?_
  intro p e s m args below meth c A C hA hP hD ls hl
  have hl : lv_has ls 3 [(0, .ref a_this), (1, .int x1), (2, .int x2)] := hl
  have hS : va_S A s.heap s.heap [] := va_S.rf
  obtain ⟨hx, hb, hr, hml, hown, hts, hlk, hK, hN⟩ := id C
  unfold Mo_sung at hf
  refine lv_aload_n hx hb dX11_sung_0 rfl (lv_at hl 0 rfl) ?_
  obtain ⟨f_at_1, f_names_1, f_pieces_1, f_songLong_1, f_chances_1, f_longs_1, f_letters_1, f_isThere_1, f_pieceLongs_1, f_pieceLetters_1, f_song_1, hc1, hf⟩ := cb11_some hf
  refine kcMV (q0 := 0) (ci := 11) (As := []) (rest := []) (st1 := []) (wf := (w_Mo_sung ct a_this a_forms a_sizes a_items a_moved a_bytes a_typed a_chances a_longs a_letters a_isThere a_pieceLongs a_pieceLetters a_song a_settings a_guess a_row a_least a_nights f_latest f_at_1 f_names_1 f_pieces_1 f_songLong_1 f_guesses f_todo f_bytes f_typed f_chances_1 f_longs_1 f_letters_1 f_isThere_1 f_pieceLongs_1 f_pieceLetters_1 f_song_1)) C (c_Mo_reads l D ct a_this a_forms a_sizes a_items a_moved a_bytes a_typed a_chances a_longs a_letters a_isThere a_pieceLongs a_pieceLetters a_song a_settings a_guess a_row a_least a_nights f_latest f_guesses f_todo F f_bytes f_typed f_at f_names f_pieces f_songLong f_chances f_longs f_letters f_isThere f_pieceLongs f_pieceLetters f_song f_at_1 f_names_1 f_pieces_1 f_songLong_1 f_chances_1 f_longs_1 f_letters_1 f_isThere_1 f_pieceLongs_1 f_pieceLetters_1 f_song_1 _ hc1) ⟨rfl, rfl⟩ yn_yX11_reads tw_1121 tw_35 tw_1119 ⟨Nat.le_of_ble_eq_true rfl, Nat.le_of_ble_eq_true rfl⟩ ⟨Nat.zero_le _, Nat.zero_le _⟩ hP hD hS hA [0, 1, 2, 3, 4, 5, 6, 7, 8, 9] [] [0, 1, 2, 3, 4, 5, 6, 7, 8, 9] rfl rfl rfl rfl rfl (by decide) rfl rfl rfl rfl rfl rfl hl.1 rfl rfl (Nat.le_of_ble_eq_true rfl) dX11_sung_1 rfl (fun H locs hP hD hS => ?_)
  refine lv_iload_n hx hb dX11_sung_4 rfl (lv_at hl 1 rfl) ?_
  refine lv_i2l (v := Int32.toInt64 x1) hx hb dX11_sung_5 rfl ?_
  refine lv_lconst (v := 0) hx hb dX11_sung_6 (by decide) ?_
  refine lv_ldc2 (v := 1023) hx hb hown (hts _ tw_1253) dX11_sung_7 ?_
  obtain ⟨v10, hc10, hf⟩ := cb1_some hf
  refine kcRS (As := [.long (Int32.toInt64 x1), .long 0, .long 1023]) (rest := []) (st1 := [.int v10]) C (c_Mo_in l D ct (Int32.toInt64 x1) 0 1023 v10 hc10) ⟨rfl, rfl⟩ yn_yX11_in tw_1031 tw_1030 ⟨Nat.le_of_ble_eq_true rfl, Nat.le_of_ble_eq_true rfl⟩ ⟨Nat.zero_le _, Nat.zero_le _⟩ hP [] rfl hl.1 rfl rfl (Nat.le_of_ble_eq_true rfl) dX11_sung_10 rfl ?_
  refine lv_if_eq (tgt := 37) hx hb dX11_sung_13 (by decide) (fun hc => ?_) (fun hc => ?_)
  · have hf := kpos hc hf
    refine lv_bipush (v := (-2)) hx hb dX11_sung_37 (by decide) ?_
    obtain ⟨e1, e2, e3, e4, e5, e6, e7, e8, e9, e10, e11, e12⟩ := ti12 hf
    subst e1; subst e2; subst e3; subst e4; subst e5; subst e6; subst e7; subst e8; subst e9; subst e10; subst e11; subst e12
    exact kretM C hP hD hS dX11_sung_39
  · have hf := kneg hc hf
    refine lv_iload_n hx hb dX11_sung_16 rfl (lv_at hl 2 rfl) ?_
    refine lv_i2l (v := Int32.toInt64 x2) hx hb dX11_sung_17 rfl ?_
    refine lv_lconst (v := 0) hx hb dX11_sung_18 (by decide) ?_
    refine lv_ldc2 (v := 5) hx hb hown (hts _ tw_1102) dX11_sung_19 ?_
    obtain ⟨v22, hc22, hf⟩ := cb1_some hf
    refine kcRS (As := [.long (Int32.toInt64 x2), .long 0, .long 5]) (rest := []) (st1 := [.int v22]) C (c_Mo_in l D ct (Int32.toInt64 x2) 0 5 v22 hc22) ⟨rfl, rfl⟩ yn_yX11_in tw_1031 tw_1030 ⟨Nat.le_of_ble_eq_true rfl, Nat.le_of_ble_eq_true rfl⟩ ⟨Nat.zero_le _, Nat.zero_le _⟩ hP [] rfl hl.1 rfl rfl (Nat.le_of_ble_eq_true rfl) dX11_sung_22 rfl ?_
    refine lv_if_eq (tgt := 37) hx hb dX11_sung_25 (by decide) (fun hc => ?_) (fun hc => ?_)
    · have hf := kpos hc hf
      refine lv_bipush (v := (-2)) hx hb dX11_sung_37 (by decide) ?_
      obtain ⟨e1, e2, e3, e4, e5, e6, e7, e8, e9, e10, e11, e12⟩ := ti12 hf
      subst e1; subst e2; subst e3; subst e4; subst e5; subst e6; subst e7; subst e8; subst e9; subst e10; subst e11; subst e12
      exact kretM C hP hD hS dX11_sung_39
    · have hf := kneg hc hf
      refine lv_aload_n hx hb dX11_sung_28 rfl (lv_at hl 0 rfl) ?_
      refine lv_iload_n hx hb dX11_sung_29 rfl (lv_at hl 1 rfl) ?_
      refine lv_iload_n hx hb dX11_sung_30 rfl (lv_at hl 2 rfl) ?_
      obtain ⟨v31, hc31, hf⟩ := cb1_some hf
      refine kcRV (q0 := 0) (ci := 11) (As := [.int x1, .int x2]) (rest := []) (st1 := [.int v31]) C (c_Mo_sungOf l D ct a_this a_forms a_sizes a_items a_moved a_bytes a_typed a_chances a_longs a_letters a_isThere a_pieceLongs a_pieceLetters a_song a_settings a_guess a_row a_least a_nights f_latest f_at_1 f_pieces_1 f_songLong_1 f_guesses f_todo F f_names_1 f_longs_1 f_letters_1 x1 x2 v31 hc31) ⟨rfl, rfl⟩ yn_yX11_sungOf tw_1350 tw_68 tw_1348 ⟨Nat.le_of_ble_eq_true rfl, Nat.le_of_ble_eq_true rfl⟩ ⟨Nat.zero_le _, Nat.zero_le _⟩ hP [0, 4, 5] rfl rfl rfl rfl hl.1 rfl rfl (Nat.le_of_ble_eq_true rfl) dX11_sung_31 rfl ?_
      refine lv_goto (tgt := 39) hx hb dX11_sung_34 (by decide) ?_
      obtain ⟨e1, e2, e3, e4, e5, e6, e7, e8, e9, e10, e11, e12⟩ := ti12 hf
      subst e1; subst e2; subst e3; subst e4; subst e5; subst e6; subst e7; subst e8; subst e9; subst e10; subst e11; subst e12
      exact kretM C hP hD hS dX11_sung_39
def RM_Mo_changesOf : Room := { frames := 1, cells := 0, slots := 0, locals := 25 }
set_option maxHeartbeats 4000000 in
set_option maxRecDepth 100000 in
theorem t_Mo_changesOf_b70 {p : Program} {l : Launch} {e : Env} {s : State} {m : MethodId} {args : Array Value} {below : List Frame} {meth : Method} {c : Code} {D : va_G} {ct : Nat → ClassId} (C : CX p s m args meth c RX11 cX11_changesOf 7 (some .int) D ct) (a_this a_forms a_sizes a_items a_moved a_bytes a_typed a_chances a_longs a_letters a_isThere a_pieceLongs a_pieceLetters a_song a_settings a_guess a_row a_least a_nights : Nat) (f_latest : Int32) (f_at : Int32) (f_pieces : Int32) (f_songLong : Int32) (f_guesses : Int32) (f_todo : Int32) (F : Nat) (f_names : Int32) (f_longs : Nat → Int32) (f_letters : Nat → Int32) (x1 : Int32) (x2 : Int32) (r : Int32) (rec10 : Int32 → Int32 → Int32 → Option Int32) (hr10 : ∀ (x3 : Int32) (x4 : Int32) (x5 : Int32), rec10 x3 x4 x5 = some r → va_P D vwCl (w_Mo_changesOf ct a_this a_forms a_sizes a_items a_moved a_bytes a_typed a_chances a_longs a_letters a_isThere a_pieceLongs a_pieceLetters a_song a_settings a_guess a_row a_least a_nights f_latest f_at f_names f_pieces f_songLong f_guesses f_todo f_longs f_letters) s.heap → ∀ ls : Array Slot, lv_has ls 7 [(0, .ref a_this), (2, .int x2), (3, .int x3), (4, .int x4), (5, .int x5)] → W p l e RM_Mo_changesOf s m args below meth c s.heap [] 0 0 (MQ below (QR (some (.int r))) args s 0 0 (fun _ => False)) (F0 m 10 ls [])) : ∀ (x3 : Int32) (x4 : Int32) (x5 : Int32), Mo_changesOf_b70 F f_names f_longs f_letters x1 x2 rec10 x3 x4 x5 = some r → va_P D vwCl (w_Mo_changesOf ct a_this a_forms a_sizes a_items a_moved a_bytes a_typed a_chances a_longs a_letters a_isThere a_pieceLongs a_pieceLetters a_song a_settings a_guess a_row a_least a_nights f_latest f_at f_names f_pieces f_songLong f_guesses f_todo f_longs f_letters) s.heap → ∀ ls : Array Slot, lv_has ls 7 [(0, .ref a_this), (2, .int x2), (3, .int x3), (4, .int x4), (5, .int x5)] → W p l e RM_Mo_changesOf s m args below meth c s.heap [] 0 0 (MQ below (QR (some (.int r))) args s 0 0 (fun _ => False)) (F0 m 70 ls []) := by
  obtain ⟨hx, hb, hr, hml, hown, hts, hlk, hK, hN⟩ := id C
  intro x3 x4 x5 hf hP ls hl
  unfold Mo_changesOf_b70 at hf
  refine lv_iinc (v := x5 + 1) (lv' := [(5, .int (x5 + 1)), (0, .ref a_this), (2, .int x2), (3, .int x3), (4, .int x4)]) hx hb dX11_changesOf_70 hl (k := 4) rfl rfl (by decide) rfl (fun ls hl => ?_)
  refine lv_goto (tgt := 10) hx hb dX11_changesOf_73 (by decide) ?_
  exact hr10 x3 x4 (x5 + 1) hf hP _ (lv_sub hl [1, 2, 3, 4, 0] rfl)
set_option maxHeartbeats 4000000 in
set_option maxRecDepth 100000 in
theorem t_Mo_changesOf_b62 {p : Program} {l : Launch} {e : Env} {s : State} {m : MethodId} {args : Array Value} {below : List Frame} {meth : Method} {c : Code} {D : va_G} {ct : Nat → ClassId} (C : CX p s m args meth c RX11 cX11_changesOf 7 (some .int) D ct) (a_this a_forms a_sizes a_items a_moved a_bytes a_typed a_chances a_longs a_letters a_isThere a_pieceLongs a_pieceLetters a_song a_settings a_guess a_row a_least a_nights : Nat) (f_latest : Int32) (f_at : Int32) (f_pieces : Int32) (f_songLong : Int32) (f_guesses : Int32) (f_todo : Int32) (F : Nat) (f_names : Int32) (f_longs : Nat → Int32) (f_letters : Nat → Int32) (x1 : Int32) (x2 : Int32) (r : Int32) (rec10 : Int32 → Int32 → Int32 → Option Int32) (rec32 : Int32 → Int32 → Int32 → Int32 → Option Int32) (hr10 : ∀ (x3 : Int32) (x4 : Int32) (x5 : Int32), rec10 x3 x4 x5 = some r → va_P D vwCl (w_Mo_changesOf ct a_this a_forms a_sizes a_items a_moved a_bytes a_typed a_chances a_longs a_letters a_isThere a_pieceLongs a_pieceLetters a_song a_settings a_guess a_row a_least a_nights f_latest f_at f_names f_pieces f_songLong f_guesses f_todo f_longs f_letters) s.heap → ∀ ls : Array Slot, lv_has ls 7 [(0, .ref a_this), (2, .int x2), (3, .int x3), (4, .int x4), (5, .int x5)] → W p l e RM_Mo_changesOf s m args below meth c s.heap [] 0 0 (MQ below (QR (some (.int r))) args s 0 0 (fun _ => False)) (F0 m 10 ls [])) (hr32 : ∀ (x3 : Int32) (x4 : Int32) (x5 : Int32) (x6 : Int32), rec32 x3 x4 x5 x6 = some r → va_P D vwCl (w_Mo_changesOf ct a_this a_forms a_sizes a_items a_moved a_bytes a_typed a_chances a_longs a_letters a_isThere a_pieceLongs a_pieceLetters a_song a_settings a_guess a_row a_least a_nights f_latest f_at f_names f_pieces f_songLong f_guesses f_todo f_longs f_letters) s.heap → ∀ ls : Array Slot, lv_has ls 7 [(0, .ref a_this), (2, .int x2), (3, .int x3), (4, .int x4), (5, .int x5), (6, .int x6)] → W p l e RM_Mo_changesOf s m args below meth c s.heap [] 0 0 (MQ below (QR (some (.int r))) args s 0 0 (fun _ => False)) (F0 m 32 ls [])) : ∀ (x4 : Int32) (x5 : Int32) (x6 : Int32) (k0 : Int32) (k1 : Int32), Mo_changesOf_b62 F f_names f_longs f_letters x1 x2 rec10 rec32 x4 x5 x6 k0 k1 = some r → va_P D vwCl (w_Mo_changesOf ct a_this a_forms a_sizes a_items a_moved a_bytes a_typed a_chances a_longs a_letters a_isThere a_pieceLongs a_pieceLetters a_song a_settings a_guess a_row a_least a_nights f_latest f_at f_names f_pieces f_songLong f_guesses f_todo f_longs f_letters) s.heap → ∀ ls : Array Slot, lv_has ls 7 [(0, .ref a_this), (2, .int x2), (4, .int x4), (5, .int x5), (6, .int x6)] → W p l e RM_Mo_changesOf s m args below meth c s.heap [] 0 0 (MQ below (QR (some (.int r))) args s 0 0 (fun _ => False)) (F0 m 62 ls [.int k1, .int k0]) := by
  obtain ⟨hx, hb, hr, hml, hown, hts, hlk, hK, hN⟩ := id C
  intro x4 x5 x6 k0 k1 hf hP ls hl
  unfold Mo_changesOf_b62 at hf
  refine lv_ior hx hb dX11_changesOf_62 ?_
  refine lv_istore_n (lv' := [(3, .int (k0 ||| k1)), (0, .ref a_this), (2, .int x2), (4, .int x4), (5, .int x5), (6, .int x6)]) hx hb dX11_changesOf_63 rfl hl (by decide) rfl (fun ls hl => ?_)
  refine lv_iinc (v := x6 + 1) (lv' := [(6, .int (x6 + 1)), (3, .int (k0 ||| k1)), (0, .ref a_this), (2, .int x2), (4, .int x4), (5, .int x5)]) hx hb dX11_changesOf_64 hl (k := 5) rfl rfl (by decide) rfl (fun ls hl => ?_)
  refine lv_goto (tgt := 32) hx hb dX11_changesOf_67 (by decide) ?_
  exact hr32 (k0 ||| k1) x4 x5 (x6 + 1) hf hP _ (lv_sub hl [2, 3, 1, 4, 5, 0] rfl)
set_option maxHeartbeats 4000000 in
set_option maxRecDepth 100000 in
theorem t_Mo_changesOf_b32 {p : Program} {l : Launch} {e : Env} {s : State} {m : MethodId} {args : Array Value} {below : List Frame} {meth : Method} {c : Code} {D : va_G} {ct : Nat → ClassId} (C : CX p s m args meth c RX11 cX11_changesOf 7 (some .int) D ct) (a_this a_forms a_sizes a_items a_moved a_bytes a_typed a_chances a_longs a_letters a_isThere a_pieceLongs a_pieceLetters a_song a_settings a_guess a_row a_least a_nights : Nat) (f_latest : Int32) (f_at : Int32) (f_pieces : Int32) (f_songLong : Int32) (f_guesses : Int32) (f_todo : Int32) (F : Nat) (f_names : Int32) (f_longs : Nat → Int32) (f_letters : Nat → Int32) (x1 : Int32) (x2 : Int32) (r : Int32) (rec10 : Int32 → Int32 → Int32 → Option Int32) (rec32 : Int32 → Int32 → Int32 → Int32 → Option Int32) (hr10 : ∀ (x3 : Int32) (x4 : Int32) (x5 : Int32), rec10 x3 x4 x5 = some r → va_P D vwCl (w_Mo_changesOf ct a_this a_forms a_sizes a_items a_moved a_bytes a_typed a_chances a_longs a_letters a_isThere a_pieceLongs a_pieceLetters a_song a_settings a_guess a_row a_least a_nights f_latest f_at f_names f_pieces f_songLong f_guesses f_todo f_longs f_letters) s.heap → ∀ ls : Array Slot, lv_has ls 7 [(0, .ref a_this), (2, .int x2), (3, .int x3), (4, .int x4), (5, .int x5)] → W p l e RM_Mo_changesOf s m args below meth c s.heap [] 0 0 (MQ below (QR (some (.int r))) args s 0 0 (fun _ => False)) (F0 m 10 ls [])) (hr32 : ∀ (x3 : Int32) (x4 : Int32) (x5 : Int32) (x6 : Int32), rec32 x3 x4 x5 x6 = some r → va_P D vwCl (w_Mo_changesOf ct a_this a_forms a_sizes a_items a_moved a_bytes a_typed a_chances a_longs a_letters a_isThere a_pieceLongs a_pieceLetters a_song a_settings a_guess a_row a_least a_nights f_latest f_at f_names f_pieces f_songLong f_guesses f_todo f_longs f_letters) s.heap → ∀ ls : Array Slot, lv_has ls 7 [(0, .ref a_this), (2, .int x2), (3, .int x3), (4, .int x4), (5, .int x5), (6, .int x6)] → W p l e RM_Mo_changesOf s m args below meth c s.heap [] 0 0 (MQ below (QR (some (.int r))) args s 0 0 (fun _ => False)) (F0 m 32 ls [])) : ∀ (x3 : Int32) (x4 : Int32) (x5 : Int32) (x6 : Int32), Mo_changesOf_b32 F f_names f_longs f_letters x1 x2 rec10 rec32 x3 x4 x5 x6 = some r → va_P D vwCl (w_Mo_changesOf ct a_this a_forms a_sizes a_items a_moved a_bytes a_typed a_chances a_longs a_letters a_isThere a_pieceLongs a_pieceLetters a_song a_settings a_guess a_row a_least a_nights f_latest f_at f_names f_pieces f_songLong f_guesses f_todo f_longs f_letters) s.heap → ∀ ls : Array Slot, lv_has ls 7 [(0, .ref a_this), (2, .int x2), (3, .int x3), (4, .int x4), (5, .int x5), (6, .int x6)] → W p l e RM_Mo_changesOf s m args below meth c s.heap [] 0 0 (MQ below (QR (some (.int r))) args s 0 0 (fun _ => False)) (F0 m 32 ls []) := by
  obtain ⟨hx, hb, hr, hml, hown, hts, hlk, hK, hN⟩ := id C
  intro x3 x4 x5 x6 hf hP ls hl
  unfold Mo_changesOf_b32 at hf
  refine lv_iload hx hb dX11_changesOf_32 (lv_at hl 5 rfl) ?_
  refine lv_aload_n hx hb dX11_changesOf_34 rfl (lv_at hl 0 rfl) ?_
  refine va_get (ci := 11) (v := .int f_names) (C := RX11) (T := TX11) (N := 25) hx hb hts inX11 hown hK hP 0 rfl rfl 8 (by decide) (hts _ tw_953) (fun _ h9 => h9) rfl dX11_changesOf_35 ?_
  refine lv_icmp_ge (tgt := 70) hx hb dX11_changesOf_38 (by decide) (fun hc => ?_) (fun hc => ?_)
  · have hf := kpos hc hf
    exact t_Mo_changesOf_b70 C a_this a_forms a_sizes a_items a_moved a_bytes a_typed a_chances a_longs a_letters a_isThere a_pieceLongs a_pieceLetters a_song a_settings a_guess a_row a_least a_nights f_latest f_at f_pieces f_songLong f_guesses f_todo F f_names f_longs f_letters x1 x2 r rec10 hr10 x3 x4 x5 hf hP _ (lv_sub hl [0, 1, 2, 3, 4] rfl)
  · have hf := kneg hc hf
    refine lv_iload_n hx hb dX11_changesOf_41 rfl (lv_at hl 2 rfl) ?_
    refine lv_iload hx hb dX11_changesOf_42 (lv_at hl 3 rfl) ?_
    refine lv_iload hx hb dX11_changesOf_44 (lv_at hl 5 rfl) ?_
    obtain ⟨v46, hc46, hf⟩ := cb1_some hf
    refine kcRS (As := [.int x4, .int x6]) (rest := [.int x3]) (st1 := [.int v46, .int x3]) C (c_Mo_isIn l D ct x4 x6 v46 hc46) ⟨rfl, rfl⟩ yn_yX11_isIn tw_1169 tw_1168 ⟨Nat.le_of_ble_eq_true rfl, Nat.le_of_ble_eq_true rfl⟩ ⟨Nat.zero_le _, Nat.zero_le _⟩ hP [] rfl hl.1 rfl rfl (Nat.le_of_ble_eq_true rfl) dX11_changesOf_46 rfl ?_
    refine lv_if_eq (tgt := 61) hx hb dX11_changesOf_49 (by decide) (fun hc => ?_) (fun hc => ?_)
    · have hf := kpos hc hf
      refine lv_iconst (v := 0) hx hb dX11_changesOf_61 (by decide) ?_
      exact t_Mo_changesOf_b62 C a_this a_forms a_sizes a_items a_moved a_bytes a_typed a_chances a_longs a_letters a_isThere a_pieceLongs a_pieceLetters a_song a_settings a_guess a_row a_least a_nights f_latest f_at f_pieces f_songLong f_guesses f_todo F f_names f_longs f_letters x1 x2 r rec10 rec32 hr10 hr32 x4 x5 x6 x3 0 hf hP _ (lv_sub hl [0, 1, 3, 4, 5] rfl)
    · have hf := kneg hc hf
      refine lv_aload_n hx hb dX11_changesOf_52 rfl (lv_at hl 0 rfl) ?_
      refine lv_iload hx hb dX11_changesOf_53 (lv_at hl 5 rfl) ?_
      obtain ⟨v55, hc55, hf⟩ := cb1_some hf
      refine kcRV (q0 := 0) (ci := 11) (As := [.int x6]) (rest := [.int x3]) (st1 := [.int v55, .int x3]) C (c_Mo_offOf l D ct a_this a_forms a_sizes a_items a_moved a_bytes a_typed a_chances a_longs a_letters a_isThere a_pieceLongs a_pieceLetters a_song a_settings a_guess a_row a_least a_nights f_latest f_at f_pieces f_songLong f_guesses f_todo F f_names f_longs f_letters x6 v55 hc55) ⟨rfl, rfl⟩ yn_yX11_offOf tw_1211 tw_45 tw_1209 ⟨Nat.le_of_ble_eq_true rfl, Nat.le_of_ble_eq_true rfl⟩ ⟨Nat.zero_le _, Nat.zero_le _⟩ hP [0, 1, 2] rfl rfl rfl rfl hl.1 rfl rfl (Nat.le_of_ble_eq_true rfl) dX11_changesOf_55 rfl ?_
      refine lv_goto (tgt := 62) hx hb dX11_changesOf_58 (by decide) ?_
      exact t_Mo_changesOf_b62 C a_this a_forms a_sizes a_items a_moved a_bytes a_typed a_chances a_longs a_letters a_isThere a_pieceLongs a_pieceLetters a_song a_settings a_guess a_row a_least a_nights f_latest f_at f_pieces f_songLong f_guesses f_todo F f_names f_longs f_letters x1 x2 r rec10 rec32 hr10 hr32 x4 x5 x6 x3 v55 hf hP _ (lv_sub hl [0, 1, 3, 4, 5] rfl)
set_option maxHeartbeats 4000000 in
set_option maxRecDepth 100000 in
theorem t_Mo_changesOf_l32 {p : Program} {l : Launch} {e : Env} {s : State} {m : MethodId} {args : Array Value} {below : List Frame} {meth : Method} {c : Code} {D : va_G} {ct : Nat → ClassId} (C : CX p s m args meth c RX11 cX11_changesOf 7 (some .int) D ct) (a_this a_forms a_sizes a_items a_moved a_bytes a_typed a_chances a_longs a_letters a_isThere a_pieceLongs a_pieceLetters a_song a_settings a_guess a_row a_least a_nights : Nat) (f_latest : Int32) (f_at : Int32) (f_pieces : Int32) (f_songLong : Int32) (f_guesses : Int32) (f_todo : Int32) (F : Nat) (f_names : Int32) (f_longs : Nat → Int32) (f_letters : Nat → Int32) (x1 : Int32) (x2 : Int32) (r : Int32) (rec10 : Int32 → Int32 → Int32 → Option Int32) (hr10 : ∀ (x3 : Int32) (x4 : Int32) (x5 : Int32), rec10 x3 x4 x5 = some r → va_P D vwCl (w_Mo_changesOf ct a_this a_forms a_sizes a_items a_moved a_bytes a_typed a_chances a_longs a_letters a_isThere a_pieceLongs a_pieceLetters a_song a_settings a_guess a_row a_least a_nights f_latest f_at f_names f_pieces f_songLong f_guesses f_todo f_longs f_letters) s.heap → ∀ ls : Array Slot, lv_has ls 7 [(0, .ref a_this), (2, .int x2), (3, .int x3), (4, .int x4), (5, .int x5)] → W p l e RM_Mo_changesOf s m args below meth c s.heap [] 0 0 (MQ below (QR (some (.int r))) args s 0 0 (fun _ => False)) (F0 m 10 ls [])) : ∀ (n : Nat) (x3 : Int32) (x4 : Int32) (x5 : Int32) (x6 : Int32), Mo_changesOf_l32 F f_names f_longs f_letters x1 x2 rec10 n x3 x4 x5 x6 = some r → va_P D vwCl (w_Mo_changesOf ct a_this a_forms a_sizes a_items a_moved a_bytes a_typed a_chances a_longs a_letters a_isThere a_pieceLongs a_pieceLetters a_song a_settings a_guess a_row a_least a_nights f_latest f_at f_names f_pieces f_songLong f_guesses f_todo f_longs f_letters) s.heap → ∀ ls : Array Slot, lv_has ls 7 [(0, .ref a_this), (2, .int x2), (3, .int x3), (4, .int x4), (5, .int x5), (6, .int x6)] → W p l e RM_Mo_changesOf s m args below meth c s.heap [] 0 0 (MQ below (QR (some (.int r))) args s 0 0 (fun _ => False)) (F0 m 32 ls []) := by
  intro n
  induction n with
  | zero =>
    intro x3 x4 x5 x6 hf
    exact absurd hf (by simp [Mo_changesOf_l32])
  | succ n ih =>
    intro x3 x4 x5 x6 hf
    exact t_Mo_changesOf_b32 C a_this a_forms a_sizes a_items a_moved a_bytes a_typed a_chances a_longs a_letters a_isThere a_pieceLongs a_pieceLetters a_song a_settings a_guess a_row a_least a_nights f_latest f_at f_pieces f_songLong f_guesses f_todo F f_names f_longs f_letters x1 x2 r rec10 (Mo_changesOf_l32 F f_names f_longs f_letters x1 x2 rec10 n) hr10 ih x3 x4 x5 x6 hf
set_option maxHeartbeats 4000000 in
set_option maxRecDepth 100000 in
theorem t_Mo_changesOf_b10 {p : Program} {l : Launch} {e : Env} {s : State} {m : MethodId} {args : Array Value} {below : List Frame} {meth : Method} {c : Code} {D : va_G} {ct : Nat → ClassId} (C : CX p s m args meth c RX11 cX11_changesOf 7 (some .int) D ct) (a_this a_forms a_sizes a_items a_moved a_bytes a_typed a_chances a_longs a_letters a_isThere a_pieceLongs a_pieceLetters a_song a_settings a_guess a_row a_least a_nights : Nat) (f_latest : Int32) (f_at : Int32) (f_pieces : Int32) (f_songLong : Int32) (f_guesses : Int32) (f_todo : Int32) (F : Nat) (f_names : Int32) (f_longs : Nat → Int32) (f_letters : Nat → Int32) (x1 : Int32) (x2 : Int32) (r : Int32) (rec10 : Int32 → Int32 → Int32 → Option Int32) (hr10 : ∀ (x3 : Int32) (x4 : Int32) (x5 : Int32), rec10 x3 x4 x5 = some r → va_P D vwCl (w_Mo_changesOf ct a_this a_forms a_sizes a_items a_moved a_bytes a_typed a_chances a_longs a_letters a_isThere a_pieceLongs a_pieceLetters a_song a_settings a_guess a_row a_least a_nights f_latest f_at f_names f_pieces f_songLong f_guesses f_todo f_longs f_letters) s.heap → ∀ ls : Array Slot, lv_has ls 7 [(0, .ref a_this), (2, .int x2), (3, .int x3), (4, .int x4), (5, .int x5)] → W p l e RM_Mo_changesOf s m args below meth c s.heap [] 0 0 (MQ below (QR (some (.int r))) args s 0 0 (fun _ => False)) (F0 m 10 ls [])) : ∀ (x3 : Int32) (x4 : Int32) (x5 : Int32), Mo_changesOf_b10 F f_names f_longs f_letters x1 x2 rec10 x3 x4 x5 = some r → va_P D vwCl (w_Mo_changesOf ct a_this a_forms a_sizes a_items a_moved a_bytes a_typed a_chances a_longs a_letters a_isThere a_pieceLongs a_pieceLetters a_song a_settings a_guess a_row a_least a_nights f_latest f_at f_names f_pieces f_songLong f_guesses f_todo f_longs f_letters) s.heap → ∀ ls : Array Slot, lv_has ls 7 [(0, .ref a_this), (2, .int x2), (3, .int x3), (4, .int x4), (5, .int x5)] → W p l e RM_Mo_changesOf s m args below meth c s.heap [] 0 0 (MQ below (QR (some (.int r))) args s 0 0 (fun _ => False)) (F0 m 10 ls []) := by
  obtain ⟨hx, hb, hr, hml, hown, hts, hlk, hK, hN⟩ := id C
  intro x3 x4 x5 hf hP ls hl
  unfold Mo_changesOf_b10 at hf
  refine lv_iload_n hx hb dX11_changesOf_10 rfl (lv_at hl 2 rfl) ?_
  refine lv_iload_n hx hb dX11_changesOf_11 rfl (lv_at hl 1 rfl) ?_
  obtain ⟨v12, hc12, hf⟩ := cb1_some hf
  refine kcRS (As := [.int x3, .int x2]) (rest := []) (st1 := [.int v12]) C (c_Mo_isIn l D ct x3 x2 v12 hc12) ⟨rfl, rfl⟩ yn_yX11_isIn tw_1169 tw_1168 ⟨Nat.le_of_ble_eq_true rfl, Nat.le_of_ble_eq_true rfl⟩ ⟨Nat.zero_le _, Nat.zero_le _⟩ hP [] rfl hl.1 rfl rfl (Nat.le_of_ble_eq_true rfl) dX11_changesOf_12 rfl ?_
  refine lv_if_ne (tgt := 76) hx hb dX11_changesOf_15 (by decide) (fun hc => ?_) (fun hc => ?_)
  · have hf := kneg hc hf
    refine lv_iload hx hb dX11_changesOf_76 (lv_at hl 4 rfl) ?_
    have e1 := Option.some.inj hf
    subst e1
    exact kretR C dX11_changesOf_78
  · have hf := kpos hc hf
    refine lv_iload_n hx hb dX11_changesOf_18 rfl (lv_at hl 2 rfl) ?_
    refine lv_iload hx hb dX11_changesOf_19 (lv_at hl 3 rfl) ?_
    refine lv_icmp_ne (tgt := 26) hx hb dX11_changesOf_21 (by decide) (fun hc => ?_) (fun hc => ?_)
    · have hf := kneg hc hf
      refine lv_iload_n hx hb dX11_changesOf_26 rfl (lv_at hl 2 rfl) ?_
      refine lv_istore (lv' := [(4, .int x3), (0, .ref a_this), (2, .int x2), (3, .int x3), (5, .int x5)]) hx hb dX11_changesOf_27 hl (by decide) rfl (fun ls hl => ?_)
      refine lv_iconst (v := 0) hx hb dX11_changesOf_29 (by decide) ?_
      refine lv_istore (lv' := [(6, .int 0), (4, .int x3), (0, .ref a_this), (2, .int x2), (3, .int x3), (5, .int x5)]) hx hb dX11_changesOf_30 hl (by decide) rfl (fun ls hl => ?_)
      exact t_Mo_changesOf_l32 C a_this a_forms a_sizes a_items a_moved a_bytes a_typed a_chances a_longs a_letters a_isThere a_pieceLongs a_pieceLetters a_song a_settings a_guess a_row a_least a_nights f_latest f_at f_pieces f_songLong f_guesses f_todo F f_names f_longs f_letters x1 x2 r rec10 hr10 F x3 x3 x5 0 hf hP _ (lv_sub hl [2, 3, 4, 1, 5, 0] rfl)
    · have hf := kpos hc hf
      refine lv_iconst (v := (-1)) hx hb dX11_changesOf_24 (by decide) ?_
      have e1 := Option.some.inj hf
      subst e1
      exact kretR C dX11_changesOf_25
set_option maxHeartbeats 4000000 in
set_option maxRecDepth 100000 in
theorem t_Mo_changesOf_l10 {p : Program} {l : Launch} {e : Env} {s : State} {m : MethodId} {args : Array Value} {below : List Frame} {meth : Method} {c : Code} {D : va_G} {ct : Nat → ClassId} (C : CX p s m args meth c RX11 cX11_changesOf 7 (some .int) D ct) (a_this a_forms a_sizes a_items a_moved a_bytes a_typed a_chances a_longs a_letters a_isThere a_pieceLongs a_pieceLetters a_song a_settings a_guess a_row a_least a_nights : Nat) (f_latest : Int32) (f_at : Int32) (f_pieces : Int32) (f_songLong : Int32) (f_guesses : Int32) (f_todo : Int32) (F : Nat) (f_names : Int32) (f_longs : Nat → Int32) (f_letters : Nat → Int32) (x1 : Int32) (x2 : Int32) (r : Int32) : ∀ (n : Nat) (x3 : Int32) (x4 : Int32) (x5 : Int32), Mo_changesOf_l10 F f_names f_longs f_letters x1 x2 n x3 x4 x5 = some r → va_P D vwCl (w_Mo_changesOf ct a_this a_forms a_sizes a_items a_moved a_bytes a_typed a_chances a_longs a_letters a_isThere a_pieceLongs a_pieceLetters a_song a_settings a_guess a_row a_least a_nights f_latest f_at f_names f_pieces f_songLong f_guesses f_todo f_longs f_letters) s.heap → ∀ ls : Array Slot, lv_has ls 7 [(0, .ref a_this), (2, .int x2), (3, .int x3), (4, .int x4), (5, .int x5)] → W p l e RM_Mo_changesOf s m args below meth c s.heap [] 0 0 (MQ below (QR (some (.int r))) args s 0 0 (fun _ => False)) (F0 m 10 ls []) := by
  intro n
  induction n with
  | zero =>
    intro x3 x4 x5 hf
    exact absurd hf (by simp [Mo_changesOf_l10])
  | succ n ih =>
    intro x3 x4 x5 hf
    exact t_Mo_changesOf_b10 C a_this a_forms a_sizes a_items a_moved a_bytes a_typed a_chances a_longs a_letters a_isThere a_pieceLongs a_pieceLetters a_song a_settings a_guess a_row a_least a_nights f_latest f_at f_pieces f_songLong f_guesses f_todo F f_names f_longs f_letters x1 x2 r (Mo_changesOf_l10 F f_names f_longs f_letters x1 x2 n) ih x3 x4 x5 hf
set_option maxHeartbeats 4000000 in
set_option maxRecDepth 100000 in
theorem c_Mo_changesOf (l : Launch) (D : va_G) (ct : Nat → ClassId) (a_this a_forms a_sizes a_items a_moved a_bytes a_typed a_chances a_longs a_letters a_isThere a_pieceLongs a_pieceLetters a_song a_settings a_guess a_row a_least a_nights : Nat) (f_latest : Int32) (f_at : Int32) (f_pieces : Int32) (f_songLong : Int32) (f_guesses : Int32) (f_todo : Int32) (F : Nat) (f_names : Int32) (f_longs : Nat → Int32) (f_letters : Nat → Int32) (x1 : Int32) (x2 : Int32) (r : Int32) (hf : Mo_changesOf F f_names f_longs f_letters x1 x2 = some r) : Met l yX11_changesOf (WS yX11_changesOf cX11_changesOf 7 (some .int)) RM_Mo_changesOf (va_Pc [.ref a_this, .int x1, .int x2] (PR D ct (w_Mo_changesOf ct a_this a_forms a_sizes a_items a_moved a_bytes a_typed a_chances a_longs a_letters a_isThere a_pieceLongs a_pieceLetters a_song a_settings a_guess a_row a_least a_nights f_latest f_at f_names f_pieces f_songLong f_guesses f_todo f_longs f_letters))) (QR (some (.int r))) 0 0 (fun _ => False) := by
  refine kMetR yn_yX11_changesOf rfl (Nat.le_of_ble_eq_true rfl) ?_
  intro p e s m args below meth c C hP ls hl
  have hl : lv_has ls 7 [(0, .ref a_this), (1, .int x1), (2, .int x2)] := hl
  obtain ⟨hx, hb, hr, hml, hown, hts, hlk, hK, hN⟩ := id C
  unfold Mo_changesOf at hf
  refine lv_iconst (v := 1) hx hb dX11_changesOf_0 (by decide) ?_
  refine lv_iload_n hx hb dX11_changesOf_1 rfl (lv_at hl 1 rfl) ?_
  refine lv_ishl hx hb dX11_changesOf_2 ?_
  refine lv_istore_n (lv' := [(3, .int ((1 : Int32) <<< (x1 &&& 31))), (0, .ref a_this), (1, .int x1), (2, .int x2)]) hx hb dX11_changesOf_3 rfl hl (by decide) rfl (fun ls hl => ?_)
  refine lv_iconst (v := 0) hx hb dX11_changesOf_4 (by decide) ?_
  refine lv_istore (lv' := [(4, .int 0), (3, .int ((1 : Int32) <<< (x1 &&& 31))), (0, .ref a_this), (1, .int x1), (2, .int x2)]) hx hb dX11_changesOf_5 hl (by decide) rfl (fun ls hl => ?_)
  refine lv_iconst (v := 0) hx hb dX11_changesOf_7 (by decide) ?_
  refine lv_istore (lv' := [(5, .int 0), (4, .int 0), (3, .int ((1 : Int32) <<< (x1 &&& 31))), (0, .ref a_this), (1, .int x1), (2, .int x2)]) hx hb dX11_changesOf_8 hl (by decide) rfl (fun ls hl => ?_)
  exact t_Mo_changesOf_l10 C a_this a_forms a_sizes a_items a_moved a_bytes a_typed a_chances a_longs a_letters a_isThere a_pieceLongs a_pieceLetters a_song a_settings a_guess a_row a_least a_nights f_latest f_at f_pieces f_songLong f_guesses f_todo F f_names f_longs f_letters x1 x2 r F ((1 : Int32) <<< (x1 &&& 31)) 0 0 hf hP _ (lv_sub hl [3, 5, 2, 1, 0] rfl)
def RM_Mo_changes : Room := { frames := 5, cells := 0, slots := 0, locals := 111 }
set_option maxHeartbeats 4000000 in
set_option maxRecDepth 100000 in
theorem c_Mo_changes (l : Launch) (D : va_G) (ct : Nat → ClassId) (a_this a_forms a_sizes a_items a_moved a_bytes a_typed a_chances a_longs a_letters a_isThere a_pieceLongs a_pieceLetters a_song a_settings a_guess a_row a_least a_nights : Nat) (f_latest : Int32) (f_guesses : Int32) (f_todo : Int32) (F : Nat) (f_bytes : Nat → Int32) (f_typed : Nat → Int32) (f_at : Int32) (f_names : Int32) (f_pieces : Int32) (f_songLong : Int32) (f_chances : Nat → Int32) (f_longs : Nat → Int32) (f_letters : Nat → Int32) (f_isThere : Nat → Int32) (f_pieceLongs : Nat → Int32) (f_pieceLetters : Nat → Int32) (f_song : Nat → Int32) (x1 : Int32) (x2 : Int32) (r : Int32) (r_at : Int32) (r_names : Int32) (r_pieces : Int32) (r_songLong : Int32) (r_chances : Nat → Int32) (r_longs : Nat → Int32) (r_letters : Nat → Int32) (r_isThere : Nat → Int32) (r_pieceLongs : Nat → Int32) (r_pieceLetters : Nat → Int32) (r_song : Nat → Int32) (sz : Nat) (hf : Mo_changes F f_bytes f_typed f_at f_names f_pieces f_songLong f_chances f_longs f_letters f_isThere f_pieceLongs f_pieceLetters f_song x1 x2 = some (r, r_at, r_names, r_pieces, r_songLong, r_chances, r_longs, r_letters, r_isThere, r_pieceLongs, r_pieceLetters, r_song)) : Met l yX11_changes (WS yX11_changes cX11_changes 3 (some .int)) RM_Mo_changes (va_Pc [.ref a_this, .int x1, .int x2] (PM D ct sz (w_Mo_changes ct a_this a_forms a_sizes a_items a_moved a_bytes a_typed a_chances a_longs a_letters a_isThere a_pieceLongs a_pieceLetters a_song a_settings a_guess a_row a_least a_nights f_latest f_at f_names f_pieces f_songLong f_guesses f_todo f_bytes f_typed f_chances f_longs f_letters f_isThere f_pieceLongs f_pieceLetters f_song))) (QM D (some (.int r)) (w_Mo_changes ct a_this a_forms a_sizes a_items a_moved a_bytes a_typed a_chances a_longs a_letters a_isThere a_pieceLongs a_pieceLetters a_song a_settings a_guess a_row a_least a_nights f_latest r_at r_names r_pieces r_songLong f_guesses f_todo f_bytes f_typed r_chances r_longs r_letters r_isThere r_pieceLongs r_pieceLetters r_song) (va_A (w_Mo_changes ct a_this a_forms a_sizes a_items a_moved a_bytes a_typed a_chances a_longs a_letters a_isThere a_pieceLongs a_pieceLetters a_song a_settings a_guess a_row a_least a_nights f_latest f_at f_names f_pieces f_songLong f_guesses f_todo f_bytes f_typed f_chances f_longs f_letters f_isThere f_pieceLongs f_pieceLetters f_song) sz)) 0 0 (va_A (w_Mo_changes ct a_this a_forms a_sizes a_items a_moved a_bytes a_typed a_chances a_longs a_letters a_isThere a_pieceLongs a_pieceLetters a_song a_settings a_guess a_row a_least a_nights f_latest f_at f_names f_pieces f_songLong f_guesses f_todo f_bytes f_typed f_chances f_longs f_letters f_isThere f_pieceLongs f_pieceLetters f_song) sz) := by
  refine kMetM yn_yX11_changes rfl (Nat.le_of_ble_eq_true rfl) ?_
  intro p e s m args below meth c A C hA hP hD ls hl
  have hl : lv_has ls 3 [(0, .ref a_this), (1, .int x1), (2, .int x2)] := hl
  have hS : va_S A s.heap s.heap [] := va_S.rf
  obtain ⟨hx, hb, hr, hml, hown, hts, hlk, hK, hN⟩ := id C
  unfold Mo_changes at hf
  refine lv_aload_n hx hb dX11_changes_0 rfl (lv_at hl 0 rfl) ?_
  obtain ⟨f_at_1, f_names_1, f_pieces_1, f_songLong_1, f_chances_1, f_longs_1, f_letters_1, f_isThere_1, f_pieceLongs_1, f_pieceLetters_1, f_song_1, hc1, hf⟩ := cb11_some hf
  refine kcMV (q0 := 0) (ci := 11) (As := []) (rest := []) (st1 := []) (wf := (w_Mo_changes ct a_this a_forms a_sizes a_items a_moved a_bytes a_typed a_chances a_longs a_letters a_isThere a_pieceLongs a_pieceLetters a_song a_settings a_guess a_row a_least a_nights f_latest f_at_1 f_names_1 f_pieces_1 f_songLong_1 f_guesses f_todo f_bytes f_typed f_chances_1 f_longs_1 f_letters_1 f_isThere_1 f_pieceLongs_1 f_pieceLetters_1 f_song_1)) C (c_Mo_reads l D ct a_this a_forms a_sizes a_items a_moved a_bytes a_typed a_chances a_longs a_letters a_isThere a_pieceLongs a_pieceLetters a_song a_settings a_guess a_row a_least a_nights f_latest f_guesses f_todo F f_bytes f_typed f_at f_names f_pieces f_songLong f_chances f_longs f_letters f_isThere f_pieceLongs f_pieceLetters f_song f_at_1 f_names_1 f_pieces_1 f_songLong_1 f_chances_1 f_longs_1 f_letters_1 f_isThere_1 f_pieceLongs_1 f_pieceLetters_1 f_song_1 _ hc1) ⟨rfl, rfl⟩ yn_yX11_reads tw_1121 tw_35 tw_1119 ⟨Nat.le_of_ble_eq_true rfl, Nat.le_of_ble_eq_true rfl⟩ ⟨Nat.zero_le _, Nat.zero_le _⟩ hP hD hS hA [0, 1, 2, 3, 4, 5, 6, 7, 8, 9] [] [0, 1, 2, 3, 4, 5, 6, 7, 8, 9] rfl rfl rfl rfl rfl (by decide) rfl rfl rfl rfl rfl rfl hl.1 rfl rfl (Nat.le_of_ble_eq_true rfl) dX11_changes_1 rfl (fun H locs hP hD hS => ?_)
  refine lv_aload_n hx hb dX11_changes_4 rfl (lv_at hl 0 rfl) ?_
  refine lv_iload_n hx hb dX11_changes_5 rfl (lv_at hl 1 rfl) ?_
  obtain ⟨v6, hc6, hf⟩ := cb1_some hf
  refine kcRV (q0 := 0) (ci := 11) (As := [.int x1]) (rest := []) (st1 := [.int v6]) C (c_Mo_isName l D ct a_this a_forms a_sizes a_items a_moved a_bytes a_typed a_chances a_longs a_letters a_isThere a_pieceLongs a_pieceLetters a_song a_settings a_guess a_row a_least a_nights f_latest f_at_1 f_pieces_1 f_songLong_1 f_guesses f_todo f_names_1 x1 v6 hc6) ⟨rfl, rfl⟩ yn_yX11_isName tw_1125 tw_36 tw_1123 ⟨Nat.le_of_ble_eq_true rfl, Nat.le_of_ble_eq_true rfl⟩ ⟨Nat.zero_le _, Nat.zero_le _⟩ hP [0] rfl rfl rfl rfl hl.1 rfl rfl (Nat.le_of_ble_eq_true rfl) dX11_changes_6 rfl ?_
  refine lv_if_eq (tgt := 29) hx hb dX11_changes_9 (by decide) (fun hc => ?_) (fun hc => ?_)
  · have hf := kpos hc hf
    refine lv_bipush (v := (-2)) hx hb dX11_changes_29 (by decide) ?_
    obtain ⟨e1, e2, e3, e4, e5, e6, e7, e8, e9, e10, e11, e12⟩ := ti12 hf
    subst e1; subst e2; subst e3; subst e4; subst e5; subst e6; subst e7; subst e8; subst e9; subst e10; subst e11; subst e12
    exact kretM C hP hD hS dX11_changes_31
  · have hf := kneg hc hf
    refine lv_aload_n hx hb dX11_changes_12 rfl (lv_at hl 0 rfl) ?_
    refine lv_iload_n hx hb dX11_changes_13 rfl (lv_at hl 2 rfl) ?_
    obtain ⟨v14, hc14, hf⟩ := cb1_some hf
    refine kcRV (q0 := 0) (ci := 11) (As := [.int x2]) (rest := []) (st1 := [.int v14]) C (c_Mo_isName l D ct a_this a_forms a_sizes a_items a_moved a_bytes a_typed a_chances a_longs a_letters a_isThere a_pieceLongs a_pieceLetters a_song a_settings a_guess a_row a_least a_nights f_latest f_at_1 f_pieces_1 f_songLong_1 f_guesses f_todo f_names_1 x2 v14 hc14) ⟨rfl, rfl⟩ yn_yX11_isName tw_1125 tw_36 tw_1123 ⟨Nat.le_of_ble_eq_true rfl, Nat.le_of_ble_eq_true rfl⟩ ⟨Nat.zero_le _, Nat.zero_le _⟩ hP [0] rfl rfl rfl rfl hl.1 rfl rfl (Nat.le_of_ble_eq_true rfl) dX11_changes_14 rfl ?_
    refine lv_if_eq (tgt := 29) hx hb dX11_changes_17 (by decide) (fun hc => ?_) (fun hc => ?_)
    · have hf := kpos hc hf
      refine lv_bipush (v := (-2)) hx hb dX11_changes_29 (by decide) ?_
      obtain ⟨e1, e2, e3, e4, e5, e6, e7, e8, e9, e10, e11, e12⟩ := ti12 hf
      subst e1; subst e2; subst e3; subst e4; subst e5; subst e6; subst e7; subst e8; subst e9; subst e10; subst e11; subst e12
      exact kretM C hP hD hS dX11_changes_31
    · have hf := kneg hc hf
      refine lv_aload_n hx hb dX11_changes_20 rfl (lv_at hl 0 rfl) ?_
      refine lv_iload_n hx hb dX11_changes_21 rfl (lv_at hl 1 rfl) ?_
      refine lv_iload_n hx hb dX11_changes_22 rfl (lv_at hl 2 rfl) ?_
      obtain ⟨v23, hc23, hf⟩ := cb1_some hf
      refine kcRV (q0 := 0) (ci := 11) (As := [.int x1, .int x2]) (rest := []) (st1 := [.int v23]) C (c_Mo_changesOf l D ct a_this a_forms a_sizes a_items a_moved a_bytes a_typed a_chances a_longs a_letters a_isThere a_pieceLongs a_pieceLetters a_song a_settings a_guess a_row a_least a_nights f_latest f_at_1 f_pieces_1 f_songLong_1 f_guesses f_todo F f_names_1 f_longs_1 f_letters_1 x1 x2 v23 hc23) ⟨rfl, rfl⟩ yn_yX11_changesOf tw_1358 tw_69 tw_1356 ⟨Nat.le_of_ble_eq_true rfl, Nat.le_of_ble_eq_true rfl⟩ ⟨Nat.zero_le _, Nat.zero_le _⟩ hP [0, 4, 5] rfl rfl rfl rfl hl.1 rfl rfl (Nat.le_of_ble_eq_true rfl) dX11_changes_23 rfl ?_
      refine lv_goto (tgt := 31) hx hb dX11_changes_26 (by decide) ?_
      obtain ⟨e1, e2, e3, e4, e5, e6, e7, e8, e9, e10, e11, e12⟩ := ti12 hf
      subst e1; subst e2; subst e3; subst e4; subst e5; subst e6; subst e7; subst e8; subst e9; subst e10; subst e11; subst e12
      exact kretM C hP hD hS dX11_changes_31
def RM_Mo_write : Room := { frames := 5, cells := 0, slots := 0, locals := 111 }
set_option maxHeartbeats 4000000 in
set_option maxRecDepth 100000 in
theorem t_Mo_write_b58 {p : Program} {l : Launch} {e : Env} {s : State} {m : MethodId} {args : Array Value} {below : List Frame} {meth : Method} {c : Code} {D : va_G} {ct : Nat → ClassId} (C : CX p s m args meth c RX11 cX11_write 5 (some .int) D ct) {A : Nat → Prop} (hA : ∀ q : Nat, s.heap.size ≤ q → A q) (a_this a_forms a_sizes a_items a_moved a_bytes a_typed a_chances a_longs a_letters a_isThere a_pieceLongs a_pieceLetters a_song a_settings a_guess a_row a_least a_nights : Nat) (f_guesses : Int32) (f_todo : Int32) (F : Nat) (f_forms : Nat → Int32) (f_sizes : Nat → Int32) (f_bytes : Nat → Int32) (f_typed : Nat → Int32) (x1 : Int32) (r : Int32) (r_latest : Int32) (r_at : Int32) (r_names : Int32) (r_pieces : Int32) (r_songLong : Int32) (r_items : Nat → Int32) (r_chances : Nat → Int32) (r_longs : Nat → Int32) (r_letters : Nat → Int32) (r_isThere : Nat → Int32) (r_pieceLongs : Nat → Int32) (r_pieceLetters : Nat → Int32) (r_song : Nat → Int32) (r_row : Nat → Int32) (rec58 : Int32 → Int32 → Int32 → Int32 → Int32 → Int32 → Int32 → (Nat → Int32) → (Nat → Int32) → (Nat → Int32) → (Nat → Int32) → (Nat → Int32) → (Nat → Int32) → (Nat → Int32) → (Nat → Int32) → (Nat → Int32) → Option (Int32 × Int32 × Int32 × Int32 × Int32 × Int32 × (Nat → Int32) × (Nat → Int32) × (Nat → Int32) × (Nat → Int32) × (Nat → Int32) × (Nat → Int32) × (Nat → Int32) × (Nat → Int32) × (Nat → Int32))) (hr58 : ∀ (x3 : Int32) (x4 : Int32) (f_latest : Int32) (f_at : Int32) (f_names : Int32) (f_pieces : Int32) (f_songLong : Int32) (f_items : Nat → Int32) (f_chances : Nat → Int32) (f_longs : Nat → Int32) (f_letters : Nat → Int32) (f_isThere : Nat → Int32) (f_pieceLongs : Nat → Int32) (f_pieceLetters : Nat → Int32) (f_song : Nat → Int32) (f_row : Nat → Int32), rec58 x3 x4 f_latest f_at f_names f_pieces f_songLong f_items f_chances f_longs f_letters f_isThere f_pieceLongs f_pieceLetters f_song f_row = some (r, r_latest, r_at, r_names, r_pieces, r_songLong, r_items, r_chances, r_longs, r_letters, r_isThere, r_pieceLongs, r_pieceLetters, r_song, r_row) → ∀ (H : Heap) (locs : List Loc), va_P D vwCl (w_Mo_write ct a_this a_forms a_sizes a_items a_moved a_bytes a_typed a_chances a_longs a_letters a_isThere a_pieceLongs a_pieceLetters a_song a_settings a_guess a_row a_least a_nights f_latest f_at f_names f_pieces f_songLong f_guesses f_todo f_forms f_sizes f_items f_bytes f_typed f_chances f_longs f_letters f_isThere f_pieceLongs f_pieceLetters f_song f_row) H → va_D A (w_Mo_write ct a_this a_forms a_sizes a_items a_moved a_bytes a_typed a_chances a_longs a_letters a_isThere a_pieceLongs a_pieceLetters a_song a_settings a_guess a_row a_least a_nights f_latest f_at f_names f_pieces f_songLong f_guesses f_todo f_forms f_sizes f_items f_bytes f_typed f_chances f_longs f_letters f_isThere f_pieceLongs f_pieceLetters f_song f_row) → va_S A s.heap H locs → ∀ ls : Array Slot, lv_has ls 5 [(0, .ref a_this), (1, .int x1), (3, .int x3), (4, .int x4)] → W p l e RM_Mo_write s m args below meth c H locs 0 0 (MQ below (QM D (some (.int r)) (w_Mo_write ct a_this a_forms a_sizes a_items a_moved a_bytes a_typed a_chances a_longs a_letters a_isThere a_pieceLongs a_pieceLetters a_song a_settings a_guess a_row a_least a_nights r_latest r_at r_names r_pieces r_songLong f_guesses f_todo f_forms f_sizes r_items f_bytes f_typed r_chances r_longs r_letters r_isThere r_pieceLongs r_pieceLetters r_song r_row) A) args s 0 0 A) (F0 m 58 ls [])) : ∀ (x3 : Int32) (x4 : Int32) (f_latest : Int32) (f_at : Int32) (f_names : Int32) (f_pieces : Int32) (f_songLong : Int32) (f_items : Nat → Int32) (f_chances : Nat → Int32) (f_longs : Nat → Int32) (f_letters : Nat → Int32) (f_isThere : Nat → Int32) (f_pieceLongs : Nat → Int32) (f_pieceLetters : Nat → Int32) (f_song : Nat → Int32) (f_row : Nat → Int32), Mo_write_b58 F f_forms f_sizes f_bytes f_typed x1 rec58 x3 x4 f_latest f_at f_names f_pieces f_songLong f_items f_chances f_longs f_letters f_isThere f_pieceLongs f_pieceLetters f_song f_row = some (r, r_latest, r_at, r_names, r_pieces, r_songLong, r_items, r_chances, r_longs, r_letters, r_isThere, r_pieceLongs, r_pieceLetters, r_song, r_row) → ∀ (H : Heap) (locs : List Loc), va_P D vwCl (w_Mo_write ct a_this a_forms a_sizes a_items a_moved a_bytes a_typed a_chances a_longs a_letters a_isThere a_pieceLongs a_pieceLetters a_song a_settings a_guess a_row a_least a_nights f_latest f_at f_names f_pieces f_songLong f_guesses f_todo f_forms f_sizes f_items f_bytes f_typed f_chances f_longs f_letters f_isThere f_pieceLongs f_pieceLetters f_song f_row) H → va_D A (w_Mo_write ct a_this a_forms a_sizes a_items a_moved a_bytes a_typed a_chances a_longs a_letters a_isThere a_pieceLongs a_pieceLetters a_song a_settings a_guess a_row a_least a_nights f_latest f_at f_names f_pieces f_songLong f_guesses f_todo f_forms f_sizes f_items f_bytes f_typed f_chances f_longs f_letters f_isThere f_pieceLongs f_pieceLetters f_song f_row) → va_S A s.heap H locs → ∀ ls : Array Slot, lv_has ls 5 [(0, .ref a_this), (1, .int x1), (3, .int x3), (4, .int x4)] → W p l e RM_Mo_write s m args below meth c H locs 0 0 (MQ below (QM D (some (.int r)) (w_Mo_write ct a_this a_forms a_sizes a_items a_moved a_bytes a_typed a_chances a_longs a_letters a_isThere a_pieceLongs a_pieceLetters a_song a_settings a_guess a_row a_least a_nights r_latest r_at r_names r_pieces r_songLong f_guesses f_todo f_forms f_sizes r_items f_bytes f_typed r_chances r_longs r_letters r_isThere r_pieceLongs r_pieceLetters r_song r_row) A) args s 0 0 A) (F0 m 58 ls []) := by
  obtain ⟨hx, hb, hr, hml, hown, hts, hlk, hK, hN⟩ := id C
  intro x3 x4 f_latest f_at f_names f_pieces f_songLong f_items f_chances f_longs f_letters f_isThere f_pieceLongs f_pieceLetters f_song f_row hf H locs hP hD hS ls hl
  unfold Mo_write_b58 at hf
  refine lv_iload hx hb dX11_write_58 (lv_at hl 3 rfl) ?_
  refine lv_iload_n hx hb dX11_write_60 rfl (lv_at hl 2 rfl) ?_
  refine lv_icmp_ge (tgt := 98) hx hb dX11_write_61 (by decide) (fun hc => ?_) (fun hc => ?_)
  · have hf := kpos hc hf
    refine lv_iload_n hx hb dX11_write_98 rfl (lv_at hl 2 rfl) ?_
    obtain ⟨e1, e2, e3, e4, e5, e6, e7, e8, e9, e10, e11, e12, e13, e14, e15⟩ := ti15 hf
    subst e1; subst e2; subst e3; subst e4; subst e5; subst e6; subst e7; subst e8; subst e9; subst e10; subst e11; subst e12; subst e13; subst e14; subst e15
    exact kretM C hP hD hS dX11_write_99
  · have hf := kneg hc hf
    refine lv_aload_n hx hb dX11_write_64 rfl (lv_at hl 0 rfl) ?_
    refine va_get (ci := 11) (v := .ref a_items) (C := RX11) (T := TX11) (N := 25) hx hb hts inX11 hown hK hP 0 rfl rfl 2 (by decide) (hts _ tw_947) (fun _ h9 => h9) rfl dX11_write_65 ?_
    refine lv_bipush (v := 60) hx hb dX11_write_68 (by decide) ?_
    refine lv_iload_n hx hb dX11_write_70 rfl (lv_at hl 1 rfl) ?_
    refine lv_imul hx hb dX11_write_71 ?_
    refine lv_iload hx hb dX11_write_72 (lv_at hl 3 rfl) ?_
    refine lv_iadd hx hb dX11_write_74 ?_
    refine lv_aload_n hx hb dX11_write_75 rfl (lv_at hl 0 rfl) ?_
    refine va_get (ci := 11) (v := .ref a_forms) (C := RX11) (T := TX11) (N := 25) hx hb hts inX11 hown hK hP 0 rfl rfl 0 (by decide) (hts _ tw_945) (fun _ h9 => h9) rfl dX11_write_76 ?_
    refine lv_iload_n hx hb dX11_write_79 rfl (lv_at hl 1 rfl) ?_
    obtain ⟨hin, hf⟩ := rd_some hf
    generalize ev80 : f_forms (Int32.toNatClampNeg x1) = v80 at hf
    refine kiald hx hb hK hP 1 0 rfl rfl hin ev80 dX11_write_80 ?_
    refine lv_aload_n hx hb dX11_write_81 rfl (lv_at hl 0 rfl) ?_
    refine va_get (ci := 11) (v := .ref a_row) (C := RX11) (T := TX11) (N := 25) hx hb hts inX11 hown hK hP 0 rfl rfl 21 (by decide) (hts _ tw_966) (fun _ h9 => h9) rfl dX11_write_82 ?_
    refine lv_iload hx hb dX11_write_85 (lv_at hl 3 rfl) ?_
    obtain ⟨hin, hf⟩ := rd_some hf
    generalize ev87 : f_row (Int32.toNatClampNeg x4) = v87 at hf
    refine kiald hx hb hK hP 13 0 rfl rfl hin ev87 dX11_write_87 ?_
    obtain ⟨v88, hc88, hf⟩ := cb1_some hf
    refine kcRS (As := [.int v80, .int v87]) (rest := [.int ((60 * x1) + x4), .ref a_items]) (st1 := [.int v88, .int ((60 * x1) + x4), .ref a_items]) C (c_Mo_cut l D ct v80 v87 v88 hc88) ⟨rfl, rfl⟩ yn_yX11_cut tw_1051 tw_1050 ⟨Nat.le_of_ble_eq_true rfl, Nat.le_of_ble_eq_true rfl⟩ ⟨Nat.zero_le _, Nat.zero_le _⟩ hP [] rfl hl.1 rfl rfl (Nat.le_of_ble_eq_true rfl) dX11_write_88 rfl ?_
    obtain ⟨hin, f_items_91, ev91, hf⟩ := wr_ex hf
    refine kiast hx hb hK hP hD hS 3 0 rfl rfl hin ev91 dX11_write_91 (fun H locs hP hD hS => ?_)
    have hP : va_P D vwCl (w_Mo_write ct a_this a_forms a_sizes a_items a_moved a_bytes a_typed a_chances a_longs a_letters a_isThere a_pieceLongs a_pieceLetters a_song a_settings a_guess a_row a_least a_nights f_latest f_at f_names f_pieces f_songLong f_guesses f_todo f_forms f_sizes f_items_91 f_bytes f_typed f_chances f_longs f_letters f_isThere f_pieceLongs f_pieceLetters f_song f_row) H := hP
    have hD : va_D A (w_Mo_write ct a_this a_forms a_sizes a_items a_moved a_bytes a_typed a_chances a_longs a_letters a_isThere a_pieceLongs a_pieceLetters a_song a_settings a_guess a_row a_least a_nights f_latest f_at f_names f_pieces f_songLong f_guesses f_todo f_forms f_sizes f_items_91 f_bytes f_typed f_chances f_longs f_letters f_isThere f_pieceLongs f_pieceLetters f_song f_row) := hD
    refine lv_iinc (v := x4 + 1) (lv' := [(4, .int (x4 + 1)), (0, .ref a_this), (1, .int x1), (3, .int x3)]) hx hb dX11_write_92 hl (k := 3) rfl rfl (by decide) rfl (fun ls hl => ?_)
    refine lv_goto (tgt := 58) hx hb dX11_write_95 (by decide) ?_
    exact hr58 x3 (x4 + 1) f_latest f_at f_names f_pieces f_songLong f_items_91 f_chances f_longs f_letters f_isThere f_pieceLongs f_pieceLetters f_song f_row hf _ _ hP hD hS _ (lv_sub hl [1, 2, 3, 0] rfl)
set_option maxHeartbeats 4000000 in
set_option maxRecDepth 100000 in
theorem t_Mo_write_l58 {p : Program} {l : Launch} {e : Env} {s : State} {m : MethodId} {args : Array Value} {below : List Frame} {meth : Method} {c : Code} {D : va_G} {ct : Nat → ClassId} (C : CX p s m args meth c RX11 cX11_write 5 (some .int) D ct) {A : Nat → Prop} (hA : ∀ q : Nat, s.heap.size ≤ q → A q) (a_this a_forms a_sizes a_items a_moved a_bytes a_typed a_chances a_longs a_letters a_isThere a_pieceLongs a_pieceLetters a_song a_settings a_guess a_row a_least a_nights : Nat) (f_guesses : Int32) (f_todo : Int32) (F : Nat) (f_forms : Nat → Int32) (f_sizes : Nat → Int32) (f_bytes : Nat → Int32) (f_typed : Nat → Int32) (x1 : Int32) (r : Int32) (r_latest : Int32) (r_at : Int32) (r_names : Int32) (r_pieces : Int32) (r_songLong : Int32) (r_items : Nat → Int32) (r_chances : Nat → Int32) (r_longs : Nat → Int32) (r_letters : Nat → Int32) (r_isThere : Nat → Int32) (r_pieceLongs : Nat → Int32) (r_pieceLetters : Nat → Int32) (r_song : Nat → Int32) (r_row : Nat → Int32) : ∀ (n : Nat) (x3 : Int32) (x4 : Int32) (f_latest : Int32) (f_at : Int32) (f_names : Int32) (f_pieces : Int32) (f_songLong : Int32) (f_items : Nat → Int32) (f_chances : Nat → Int32) (f_longs : Nat → Int32) (f_letters : Nat → Int32) (f_isThere : Nat → Int32) (f_pieceLongs : Nat → Int32) (f_pieceLetters : Nat → Int32) (f_song : Nat → Int32) (f_row : Nat → Int32), Mo_write_l58 F f_forms f_sizes f_bytes f_typed x1 n x3 x4 f_latest f_at f_names f_pieces f_songLong f_items f_chances f_longs f_letters f_isThere f_pieceLongs f_pieceLetters f_song f_row = some (r, r_latest, r_at, r_names, r_pieces, r_songLong, r_items, r_chances, r_longs, r_letters, r_isThere, r_pieceLongs, r_pieceLetters, r_song, r_row) → ∀ (H : Heap) (locs : List Loc), va_P D vwCl (w_Mo_write ct a_this a_forms a_sizes a_items a_moved a_bytes a_typed a_chances a_longs a_letters a_isThere a_pieceLongs a_pieceLetters a_song a_settings a_guess a_row a_least a_nights f_latest f_at f_names f_pieces f_songLong f_guesses f_todo f_forms f_sizes f_items f_bytes f_typed f_chances f_longs f_letters f_isThere f_pieceLongs f_pieceLetters f_song f_row) H → va_D A (w_Mo_write ct a_this a_forms a_sizes a_items a_moved a_bytes a_typed a_chances a_longs a_letters a_isThere a_pieceLongs a_pieceLetters a_song a_settings a_guess a_row a_least a_nights f_latest f_at f_names f_pieces f_songLong f_guesses f_todo f_forms f_sizes f_items f_bytes f_typed f_chances f_longs f_letters f_isThere f_pieceLongs f_pieceLetters f_song f_row) → va_S A s.heap H locs → ∀ ls : Array Slot, lv_has ls 5 [(0, .ref a_this), (1, .int x1), (3, .int x3), (4, .int x4)] → W p l e RM_Mo_write s m args below meth c H locs 0 0 (MQ below (QM D (some (.int r)) (w_Mo_write ct a_this a_forms a_sizes a_items a_moved a_bytes a_typed a_chances a_longs a_letters a_isThere a_pieceLongs a_pieceLetters a_song a_settings a_guess a_row a_least a_nights r_latest r_at r_names r_pieces r_songLong f_guesses f_todo f_forms f_sizes r_items f_bytes f_typed r_chances r_longs r_letters r_isThere r_pieceLongs r_pieceLetters r_song r_row) A) args s 0 0 A) (F0 m 58 ls []) := by
  intro n
  induction n with
  | zero =>
    intro x3 x4 f_latest f_at f_names f_pieces f_songLong f_items f_chances f_longs f_letters f_isThere f_pieceLongs f_pieceLetters f_song f_row hf
    exact absurd hf (by simp [Mo_write_l58])
  | succ n ih =>
    intro x3 x4 f_latest f_at f_names f_pieces f_songLong f_items f_chances f_longs f_letters f_isThere f_pieceLongs f_pieceLetters f_song f_row hf
    exact t_Mo_write_b58 C hA a_this a_forms a_sizes a_items a_moved a_bytes a_typed a_chances a_longs a_letters a_isThere a_pieceLongs a_pieceLetters a_song a_settings a_guess a_row a_least a_nights f_guesses f_todo F f_forms f_sizes f_bytes f_typed x1 r r_latest r_at r_names r_pieces r_songLong r_items r_chances r_longs r_letters r_isThere r_pieceLongs r_pieceLetters r_song r_row (Mo_write_l58 F f_forms f_sizes f_bytes f_typed x1 n) ih x3 x4 f_latest f_at f_names f_pieces f_songLong f_items f_chances f_longs f_letters f_isThere f_pieceLongs f_pieceLetters f_song f_row hf
set_option maxHeartbeats 4000000 in
set_option maxRecDepth 100000 in
theorem t_Mo_write_b54 {p : Program} {l : Launch} {e : Env} {s : State} {m : MethodId} {args : Array Value} {below : List Frame} {meth : Method} {c : Code} {D : va_G} {ct : Nat → ClassId} (C : CX p s m args meth c RX11 cX11_write 5 (some .int) D ct) {A : Nat → Prop} (hA : ∀ q : Nat, s.heap.size ≤ q → A q) (a_this a_forms a_sizes a_items a_moved a_bytes a_typed a_chances a_longs a_letters a_isThere a_pieceLongs a_pieceLetters a_song a_settings a_guess a_row a_least a_nights : Nat) (f_guesses : Int32) (f_todo : Int32) (F : Nat) (f_forms : Nat → Int32) (f_sizes : Nat → Int32) (f_bytes : Nat → Int32) (f_typed : Nat → Int32) (x1 : Int32) (r : Int32) (r_latest : Int32) (r_at : Int32) (r_names : Int32) (r_pieces : Int32) (r_songLong : Int32) (r_items : Nat → Int32) (r_chances : Nat → Int32) (r_longs : Nat → Int32) (r_letters : Nat → Int32) (r_isThere : Nat → Int32) (r_pieceLongs : Nat → Int32) (r_pieceLetters : Nat → Int32) (r_song : Nat → Int32) (r_row : Nat → Int32) : ∀ (k0 : Int32) (f_latest : Int32) (f_at : Int32) (f_names : Int32) (f_pieces : Int32) (f_songLong : Int32) (f_items : Nat → Int32) (f_chances : Nat → Int32) (f_longs : Nat → Int32) (f_letters : Nat → Int32) (f_isThere : Nat → Int32) (f_pieceLongs : Nat → Int32) (f_pieceLetters : Nat → Int32) (f_song : Nat → Int32) (f_row : Nat → Int32), Mo_write_b54 F f_forms f_sizes f_bytes f_typed x1 k0 f_latest f_at f_names f_pieces f_songLong f_items f_chances f_longs f_letters f_isThere f_pieceLongs f_pieceLetters f_song f_row = some (r, r_latest, r_at, r_names, r_pieces, r_songLong, r_items, r_chances, r_longs, r_letters, r_isThere, r_pieceLongs, r_pieceLetters, r_song, r_row) → ∀ (H : Heap) (locs : List Loc), va_P D vwCl (w_Mo_write ct a_this a_forms a_sizes a_items a_moved a_bytes a_typed a_chances a_longs a_letters a_isThere a_pieceLongs a_pieceLetters a_song a_settings a_guess a_row a_least a_nights f_latest f_at f_names f_pieces f_songLong f_guesses f_todo f_forms f_sizes f_items f_bytes f_typed f_chances f_longs f_letters f_isThere f_pieceLongs f_pieceLetters f_song f_row) H → va_D A (w_Mo_write ct a_this a_forms a_sizes a_items a_moved a_bytes a_typed a_chances a_longs a_letters a_isThere a_pieceLongs a_pieceLetters a_song a_settings a_guess a_row a_least a_nights f_latest f_at f_names f_pieces f_songLong f_guesses f_todo f_forms f_sizes f_items f_bytes f_typed f_chances f_longs f_letters f_isThere f_pieceLongs f_pieceLetters f_song f_row) → va_S A s.heap H locs → ∀ ls : Array Slot, lv_has ls 5 [(0, .ref a_this), (1, .int x1)] → W p l e RM_Mo_write s m args below meth c H locs 0 0 (MQ below (QM D (some (.int r)) (w_Mo_write ct a_this a_forms a_sizes a_items a_moved a_bytes a_typed a_chances a_longs a_letters a_isThere a_pieceLongs a_pieceLetters a_song a_settings a_guess a_row a_least a_nights r_latest r_at r_names r_pieces r_songLong f_guesses f_todo f_forms f_sizes r_items f_bytes f_typed r_chances r_longs r_letters r_isThere r_pieceLongs r_pieceLetters r_song r_row) A) args s 0 0 A) (F0 m 54 ls [.int k0]) := by
  obtain ⟨hx, hb, hr, hml, hown, hts, hlk, hK, hN⟩ := id C
  intro k0 f_latest f_at f_names f_pieces f_songLong f_items f_chances f_longs f_letters f_isThere f_pieceLongs f_pieceLetters f_song f_row hf H locs hP hD hS ls hl
  unfold Mo_write_b54 at hf
  refine lv_istore_n (lv' := [(3, .int k0), (0, .ref a_this), (1, .int x1)]) hx hb dX11_write_54 rfl hl (by decide) rfl (fun ls hl => ?_)
  refine lv_iconst (v := 0) hx hb dX11_write_55 (by decide) ?_
  refine lv_istore (lv' := [(4, .int 0), (3, .int k0), (0, .ref a_this), (1, .int x1)]) hx hb dX11_write_56 hl (by decide) rfl (fun ls hl => ?_)
  exact t_Mo_write_l58 C hA a_this a_forms a_sizes a_items a_moved a_bytes a_typed a_chances a_longs a_letters a_isThere a_pieceLongs a_pieceLetters a_song a_settings a_guess a_row a_least a_nights f_guesses f_todo F f_forms f_sizes f_bytes f_typed x1 r r_latest r_at r_names r_pieces r_songLong r_items r_chances r_longs r_letters r_isThere r_pieceLongs r_pieceLetters r_song r_row F k0 0 f_latest f_at f_names f_pieces f_songLong f_items f_chances f_longs f_letters f_isThere f_pieceLongs f_pieceLetters f_song f_row hf _ _ hP hD hS _ (lv_sub hl [2, 3, 1, 0] rfl)
set_option maxHeartbeats 4000000 in
set_option maxRecDepth 100000 in
theorem c_Mo_write (l : Launch) (D : va_G) (ct : Nat → ClassId) (a_this a_forms a_sizes a_items a_moved a_bytes a_typed a_chances a_longs a_letters a_isThere a_pieceLongs a_pieceLetters a_song a_settings a_guess a_row a_least a_nights : Nat) (f_guesses : Int32) (f_todo : Int32) (F : Nat) (f_forms : Nat → Int32) (f_sizes : Nat → Int32) (f_bytes : Nat → Int32) (f_typed : Nat → Int32) (f_latest : Int32) (f_at : Int32) (f_names : Int32) (f_pieces : Int32) (f_songLong : Int32) (f_items : Nat → Int32) (f_chances : Nat → Int32) (f_longs : Nat → Int32) (f_letters : Nat → Int32) (f_isThere : Nat → Int32) (f_pieceLongs : Nat → Int32) (f_pieceLetters : Nat → Int32) (f_song : Nat → Int32) (f_row : Nat → Int32) (x1 : Int32) (r : Int32) (r_latest : Int32) (r_at : Int32) (r_names : Int32) (r_pieces : Int32) (r_songLong : Int32) (r_items : Nat → Int32) (r_chances : Nat → Int32) (r_longs : Nat → Int32) (r_letters : Nat → Int32) (r_isThere : Nat → Int32) (r_pieceLongs : Nat → Int32) (r_pieceLetters : Nat → Int32) (r_song : Nat → Int32) (r_row : Nat → Int32) (sz : Nat) (hf : Mo_write F f_forms f_sizes f_bytes f_typed f_latest f_at f_names f_pieces f_songLong f_items f_chances f_longs f_letters f_isThere f_pieceLongs f_pieceLetters f_song f_row x1 = some (r, r_latest, r_at, r_names, r_pieces, r_songLong, r_items, r_chances, r_longs, r_letters, r_isThere, r_pieceLongs, r_pieceLetters, r_song, r_row)) : Met l yX11_write (WS yX11_write cX11_write 5 (some .int)) RM_Mo_write (va_Pc [.ref a_this, .int x1] (PM D ct sz (w_Mo_write ct a_this a_forms a_sizes a_items a_moved a_bytes a_typed a_chances a_longs a_letters a_isThere a_pieceLongs a_pieceLetters a_song a_settings a_guess a_row a_least a_nights f_latest f_at f_names f_pieces f_songLong f_guesses f_todo f_forms f_sizes f_items f_bytes f_typed f_chances f_longs f_letters f_isThere f_pieceLongs f_pieceLetters f_song f_row))) (QM D (some (.int r)) (w_Mo_write ct a_this a_forms a_sizes a_items a_moved a_bytes a_typed a_chances a_longs a_letters a_isThere a_pieceLongs a_pieceLetters a_song a_settings a_guess a_row a_least a_nights r_latest r_at r_names r_pieces r_songLong f_guesses f_todo f_forms f_sizes r_items f_bytes f_typed r_chances r_longs r_letters r_isThere r_pieceLongs r_pieceLetters r_song r_row) (va_A (w_Mo_write ct a_this a_forms a_sizes a_items a_moved a_bytes a_typed a_chances a_longs a_letters a_isThere a_pieceLongs a_pieceLetters a_song a_settings a_guess a_row a_least a_nights f_latest f_at f_names f_pieces f_songLong f_guesses f_todo f_forms f_sizes f_items f_bytes f_typed f_chances f_longs f_letters f_isThere f_pieceLongs f_pieceLetters f_song f_row) sz)) 0 0 (va_A (w_Mo_write ct a_this a_forms a_sizes a_items a_moved a_bytes a_typed a_chances a_longs a_letters a_isThere a_pieceLongs a_pieceLetters a_song a_settings a_guess a_row a_least a_nights f_latest f_at f_names f_pieces f_songLong f_guesses f_todo f_forms f_sizes f_items f_bytes f_typed f_chances f_longs f_letters f_isThere f_pieceLongs f_pieceLetters f_song f_row) sz) := by
  refine kMetM yn_yX11_write rfl (Nat.le_of_ble_eq_true rfl) ?_
  intro p e s m args below meth c A C hA hP hD ls hl
  have hl : lv_has ls 5 [(0, .ref a_this), (1, .int x1)] := hl
  have hS : va_S A s.heap s.heap [] := va_S.rf
  obtain ⟨hx, hb, hr, hml, hown, hts, hlk, hK, hN⟩ := id C
  unfold Mo_write at hf
  refine lv_iload_n hx hb dX11_write_0 rfl (lv_at hl 1 rfl) ?_
  obtain ⟨v1, hc1, hf⟩ := cb1_some hf
  refine kcRS (As := [.int x1]) (rest := []) (st1 := [.int v1]) C (c_Mo_isSheet l D ct x1 v1 hc1) ⟨rfl, rfl⟩ yn_yX11_isSheet tw_1027 tw_1026 ⟨Nat.le_of_ble_eq_true rfl, Nat.le_of_ble_eq_true rfl⟩ ⟨Nat.zero_le _, Nat.zero_le _⟩ hP [] rfl hl.1 rfl rfl (Nat.le_of_ble_eq_true rfl) dX11_write_1 rfl ?_
  refine lv_if_ne (tgt := 10) hx hb dX11_write_4 (by decide) (fun hc => ?_) (fun hc => ?_)
  · have hf := kneg hc hf
    refine lv_aload_n hx hb dX11_write_10 rfl (lv_at hl 0 rfl) ?_
    refine va_get (ci := 11) (v := .ref a_forms) (C := RX11) (T := TX11) (N := 25) hx hb hts inX11 hown hK hP 0 rfl rfl 0 (by decide) (hts _ tw_945) (fun _ h9 => h9) rfl dX11_write_11 ?_
    refine lv_iload_n hx hb dX11_write_14 rfl (lv_at hl 1 rfl) ?_
    obtain ⟨hin, hf⟩ := rd_some hf
    generalize ev15 : f_forms (Int32.toNatClampNeg x1) = v15 at hf
    refine kiald hx hb hK hP 1 0 rfl rfl hin ev15 dX11_write_15 ?_
    refine lv_if_ge (tgt := 25) hx hb dX11_write_16 (by decide) (fun hc => ?_) (fun hc => ?_)
    · have hf := kpos hc hf
      refine lv_aload_n hx hb dX11_write_25 rfl (lv_at hl 0 rfl) ?_
      obtain ⟨f_at_26, f_names_26, f_pieces_26, f_songLong_26, f_chances_26, f_longs_26, f_letters_26, f_isThere_26, f_pieceLongs_26, f_pieceLetters_26, f_song_26, hc26, hf⟩ := cb11_some hf
      refine kcMV (q0 := 0) (ci := 11) (As := []) (rest := []) (st1 := []) (wf := (w_Mo_write ct a_this a_forms a_sizes a_items a_moved a_bytes a_typed a_chances a_longs a_letters a_isThere a_pieceLongs a_pieceLetters a_song a_settings a_guess a_row a_least a_nights f_latest f_at_26 f_names_26 f_pieces_26 f_songLong_26 f_guesses f_todo f_forms f_sizes f_items f_bytes f_typed f_chances_26 f_longs_26 f_letters_26 f_isThere_26 f_pieceLongs_26 f_pieceLetters_26 f_song_26 f_row)) C (c_Mo_reads l D ct a_this a_forms a_sizes a_items a_moved a_bytes a_typed a_chances a_longs a_letters a_isThere a_pieceLongs a_pieceLetters a_song a_settings a_guess a_row a_least a_nights f_latest f_guesses f_todo F f_bytes f_typed f_at f_names f_pieces f_songLong f_chances f_longs f_letters f_isThere f_pieceLongs f_pieceLetters f_song f_at_26 f_names_26 f_pieces_26 f_songLong_26 f_chances_26 f_longs_26 f_letters_26 f_isThere_26 f_pieceLongs_26 f_pieceLetters_26 f_song_26 _ hc26) ⟨rfl, rfl⟩ yn_yX11_reads tw_1121 tw_35 tw_1119 ⟨Nat.le_of_ble_eq_true rfl, Nat.le_of_ble_eq_true rfl⟩ ⟨Nat.zero_le _, Nat.zero_le _⟩ hP hD hS hA [0, 4, 5, 6, 7, 8, 9, 10, 11, 12] [1, 2, 3, 13] [4, 0, 1, 2, 5, 6, 7, 8, 9, 10, 11, 12, 13, 3] rfl rfl rfl rfl rfl (by decide) rfl rfl rfl rfl rfl rfl hl.1 rfl rfl (Nat.le_of_ble_eq_true rfl) dX11_write_26 rfl (fun H locs hP hD hS => ?_)
      refine lv_aload_n hx hb dX11_write_29 rfl (lv_at hl 0 rfl) ?_
      obtain ⟨v30, f_row_30, hc30, hf⟩ := cb2_some hf
      refine kcMV (q0 := 0) (ci := 11) (As := []) (rest := []) (st1 := [.int v30]) (wf := (w_Mo_write ct a_this a_forms a_sizes a_items a_moved a_bytes a_typed a_chances a_longs a_letters a_isThere a_pieceLongs a_pieceLetters a_song a_settings a_guess a_row a_least a_nights f_latest f_at_26 f_names_26 f_pieces_26 f_songLong_26 f_guesses f_todo f_forms f_sizes f_items f_bytes f_typed f_chances_26 f_longs_26 f_letters_26 f_isThere_26 f_pieceLongs_26 f_pieceLetters_26 f_song_26 f_row_30)) C (c_Mo_findRow l D ct a_this a_forms a_sizes a_items a_moved a_bytes a_typed a_chances a_longs a_letters a_isThere a_pieceLongs a_pieceLetters a_song a_settings a_guess a_row a_least a_nights f_latest f_at_26 f_guesses f_todo F f_names_26 f_pieces_26 f_songLong_26 f_chances_26 f_longs_26 f_letters_26 f_isThere_26 f_pieceLongs_26 f_pieceLetters_26 f_song_26 f_row v30 f_row_30 _ hc30) ⟨rfl, rfl⟩ yn_yX11_findRow tw_1239 tw_50 tw_1237 ⟨Nat.le_of_ble_eq_true rfl, Nat.le_of_ble_eq_true rfl⟩ ⟨Nat.zero_le _, Nat.zero_le _⟩ hP hD hS hA [0, 6, 7, 8, 9, 10, 11, 12, 13] [1, 2, 3, 4, 5] [5, 0, 1, 2, 3, 4, 6, 7, 8, 9, 10, 11, 12, 13] rfl rfl rfl rfl rfl (by decide) rfl rfl rfl rfl rfl rfl hl.1 rfl rfl (Nat.le_of_ble_eq_true rfl) dX11_write_30 rfl (fun H locs hP hD hS => ?_)
      refine lv_istore_n (lv' := [(2, .int v30), (0, .ref a_this), (1, .int x1)]) hx hb dX11_write_33 rfl hl (by decide) rfl (fun ls hl => ?_)
      refine lv_aload_n hx hb dX11_write_34 rfl (lv_at hl 1 rfl) ?_
      refine va_get (ci := 11) (v := .ref a_sizes) (C := RX11) (T := TX11) (N := 25) hx hb hts inX11 hown hK hP 0 rfl rfl 1 (by decide) (hts _ tw_946) (fun _ h9 => h9) rfl dX11_write_35 ?_
      refine lv_iload_n hx hb dX11_write_38 rfl (lv_at hl 2 rfl) ?_
      obtain ⟨hin, hf⟩ := rd_some hf
      generalize ev39 : f_sizes (Int32.toNatClampNeg x1) = v39 at hf
      refine kiald hx hb hK hP 2 0 rfl rfl hin ev39 dX11_write_39 ?_
      refine lv_iload_n hx hb dX11_write_40 rfl (lv_at hl 0 rfl) ?_
      refine lv_icmp_ge (tgt := 53) hx hb dX11_write_41 (by decide) (fun hc => ?_) (fun hc => ?_)
      · have hf := kpos hc hf
        refine lv_iload_n hx hb dX11_write_53 rfl (lv_at hl 0 rfl) ?_
        exact t_Mo_write_b54 C hA a_this a_forms a_sizes a_items a_moved a_bytes a_typed a_chances a_longs a_letters a_isThere a_pieceLongs a_pieceLetters a_song a_settings a_guess a_row a_least a_nights f_guesses f_todo F f_forms f_sizes f_bytes f_typed x1 r r_latest r_at r_names r_pieces r_songLong r_items r_chances r_longs r_letters r_isThere r_pieceLongs r_pieceLetters r_song r_row v30 f_latest f_at_26 f_names_26 f_pieces_26 f_songLong_26 f_items f_chances_26 f_longs_26 f_letters_26 f_isThere_26 f_pieceLongs_26 f_pieceLetters_26 f_song_26 f_row_30 hf _ _ hP hD hS _ (lv_sub hl [1, 2] rfl)
      · have hf := kneg hc hf
        refine lv_aload_n hx hb dX11_write_44 rfl (lv_at hl 1 rfl) ?_
        refine va_get (ci := 11) (v := .ref a_sizes) (C := RX11) (T := TX11) (N := 25) hx hb hts inX11 hown hK hP 0 rfl rfl 1 (by decide) (hts _ tw_946) (fun _ h9 => h9) rfl dX11_write_45 ?_
        refine lv_iload_n hx hb dX11_write_48 rfl (lv_at hl 2 rfl) ?_
        obtain ⟨hin, hf⟩ := rd_some hf
        generalize ev49 : f_sizes (Int32.toNatClampNeg x1) = v49 at hf
        refine kiald hx hb hK hP 2 0 rfl rfl hin ev49 dX11_write_49 ?_
        refine lv_goto (tgt := 54) hx hb dX11_write_50 (by decide) ?_
        exact t_Mo_write_b54 C hA a_this a_forms a_sizes a_items a_moved a_bytes a_typed a_chances a_longs a_letters a_isThere a_pieceLongs a_pieceLetters a_song a_settings a_guess a_row a_least a_nights f_guesses f_todo F f_forms f_sizes f_bytes f_typed x1 r r_latest r_at r_names r_pieces r_songLong r_items r_chances r_longs r_letters r_isThere r_pieceLongs r_pieceLetters r_song r_row v49 f_latest f_at_26 f_names_26 f_pieces_26 f_songLong_26 f_items f_chances_26 f_longs_26 f_letters_26 f_isThere_26 f_pieceLongs_26 f_pieceLetters_26 f_song_26 f_row_30 hf _ _ hP hD hS _ (lv_sub hl [1, 2] rfl)
    · have hf := kneg hc hf
      refine lv_aload_n hx hb dX11_write_19 rfl (lv_at hl 0 rfl) ?_
      refine lv_iconst (v := 1) hx hb dX11_write_20 (by decide) ?_
      obtain ⟨v21, f_latest_21, hc21, hf⟩ := cb2_some hf
      refine kcMV (q0 := 0) (ci := 11) (As := [.int 1]) (rest := []) (st1 := [.int v21]) (wf := (w_Mo_write ct a_this a_forms a_sizes a_items a_moved a_bytes a_typed a_chances a_longs a_letters a_isThere a_pieceLongs a_pieceLetters a_song a_settings a_guess a_row a_least a_nights f_latest_21 f_at f_names f_pieces f_songLong f_guesses f_todo f_forms f_sizes f_items f_bytes f_typed f_chances f_longs f_letters f_isThere f_pieceLongs f_pieceLetters f_song f_row)) C (c_Mo_met l D ct a_this a_forms a_sizes a_items a_moved a_bytes a_typed a_chances a_longs a_letters a_isThere a_pieceLongs a_pieceLetters a_song a_settings a_guess a_row a_least a_nights f_at f_names f_pieces f_songLong f_guesses f_todo f_latest 1 v21 f_latest_21 _ hc21) ⟨rfl, rfl⟩ yn_yX11_met tw_1036 tw_26 tw_1034 ⟨Nat.le_of_ble_eq_true rfl, Nat.le_of_ble_eq_true rfl⟩ ⟨Nat.zero_le _, Nat.zero_le _⟩ hP hD hS hA [0] [1, 2, 3, 4, 5, 6, 7, 8, 9, 10, 11, 12, 13] [13, 0, 1, 2, 3, 4, 5, 6, 7, 8, 9, 10, 11, 12] rfl rfl rfl rfl rfl (by decide) rfl rfl rfl rfl rfl rfl hl.1 rfl rfl (Nat.le_of_ble_eq_true rfl) dX11_write_21 rfl (fun H locs hP hD hS => ?_)
      obtain ⟨e1, e2, e3, e4, e5, e6, e7, e8, e9, e10, e11, e12, e13, e14, e15⟩ := ti15 hf
      subst e1; subst e2; subst e3; subst e4; subst e5; subst e6; subst e7; subst e8; subst e9; subst e10; subst e11; subst e12; subst e13; subst e14; subst e15
      exact kretM C hP hD hS dX11_write_24
  · have hf := kpos hc hf
    refine lv_bipush (v := (-2)) hx hb dX11_write_7 (by decide) ?_
    obtain ⟨e1, e2, e3, e4, e5, e6, e7, e8, e9, e10, e11, e12, e13, e14, e15⟩ := ti15 hf
    subst e1; subst e2; subst e3; subst e4; subst e5; subst e6; subst e7; subst e8; subst e9; subst e10; subst e11; subst e12; subst e13; subst e14; subst e15
    exact kretM C hP hD hS dX11_write_9
def RM_Mo_count : Room := { frames := 5, cells := 0, slots := 0, locals := 111 }
set_option maxHeartbeats 4000000 in
set_option maxRecDepth 100000 in
theorem c_Mo_count (l : Launch) (D : va_G) (ct : Nat → ClassId) (a_this a_forms a_sizes a_items a_moved a_bytes a_typed a_chances a_longs a_letters a_isThere a_pieceLongs a_pieceLetters a_song a_settings a_guess a_row a_least a_nights : Nat) (f_todo : Int32) (F : Nat) (f_latest : Int32) (f_guesses : Int32) (f_bytes : Nat → Int32) (f_typed : Nat → Int32) (f_at : Int32) (f_names : Int32) (f_pieces : Int32) (f_songLong : Int32) (f_chances : Nat → Int32) (f_longs : Nat → Int32) (f_letters : Nat → Int32) (f_isThere : Nat → Int32) (f_pieceLongs : Nat → Int32) (f_pieceLetters : Nat → Int32) (f_song : Nat → Int32) (x1 : Int32) (r : Int32) (r_at : Int32) (r_names : Int32) (r_pieces : Int32) (r_songLong : Int32) (r_chances : Nat → Int32) (r_longs : Nat → Int32) (r_letters : Nat → Int32) (r_isThere : Nat → Int32) (r_pieceLongs : Nat → Int32) (r_pieceLetters : Nat → Int32) (r_song : Nat → Int32) (sz : Nat) (hf : Mo_count F f_latest f_guesses f_bytes f_typed f_at f_names f_pieces f_songLong f_chances f_longs f_letters f_isThere f_pieceLongs f_pieceLetters f_song x1 = some (r, r_at, r_names, r_pieces, r_songLong, r_chances, r_longs, r_letters, r_isThere, r_pieceLongs, r_pieceLetters, r_song)) : Met l yX11_count (WS yX11_count cX11_count 2 (some .int)) RM_Mo_count (va_Pc [.ref a_this, .int x1] (PM D ct sz (w_Mo_count ct a_this a_forms a_sizes a_items a_moved a_bytes a_typed a_chances a_longs a_letters a_isThere a_pieceLongs a_pieceLetters a_song a_settings a_guess a_row a_least a_nights f_latest f_at f_names f_pieces f_songLong f_guesses f_todo f_bytes f_typed f_chances f_longs f_letters f_isThere f_pieceLongs f_pieceLetters f_song))) (QM D (some (.int r)) (w_Mo_count ct a_this a_forms a_sizes a_items a_moved a_bytes a_typed a_chances a_longs a_letters a_isThere a_pieceLongs a_pieceLetters a_song a_settings a_guess a_row a_least a_nights f_latest r_at r_names r_pieces r_songLong f_guesses f_todo f_bytes f_typed r_chances r_longs r_letters r_isThere r_pieceLongs r_pieceLetters r_song) (va_A (w_Mo_count ct a_this a_forms a_sizes a_items a_moved a_bytes a_typed a_chances a_longs a_letters a_isThere a_pieceLongs a_pieceLetters a_song a_settings a_guess a_row a_least a_nights f_latest f_at f_names f_pieces f_songLong f_guesses f_todo f_bytes f_typed f_chances f_longs f_letters f_isThere f_pieceLongs f_pieceLetters f_song) sz)) 0 0 (va_A (w_Mo_count ct a_this a_forms a_sizes a_items a_moved a_bytes a_typed a_chances a_longs a_letters a_isThere a_pieceLongs a_pieceLetters a_song a_settings a_guess a_row a_least a_nights f_latest f_at f_names f_pieces f_songLong f_guesses f_todo f_bytes f_typed f_chances f_longs f_letters f_isThere f_pieceLongs f_pieceLetters f_song) sz) := by
  refine kMetM yn_yX11_count rfl (Nat.le_of_ble_eq_true rfl) ?_
  intro p e s m args below meth c A C hA hP hD ls hl
  have hl : lv_has ls 2 [(0, .ref a_this), (1, .int x1)] := hl
  have hS : va_S A s.heap s.heap [] := va_S.rf
  obtain ⟨hx, hb, hr, hml, hown, hts, hlk, hK, hN⟩ := id C
  unfold Mo_count at hf
  refine lv_aload_n hx hb dX11_count_0 rfl (lv_at hl 0 rfl) ?_
  obtain ⟨f_at_1, f_names_1, f_pieces_1, f_songLong_1, f_chances_1, f_longs_1, f_letters_1, f_isThere_1, f_pieceLongs_1, f_pieceLetters_1, f_song_1, hc1, hf⟩ := cb11_some hf
  refine kcMV (q0 := 0) (ci := 11) (As := []) (rest := []) (st1 := []) (wf := (w_Mo_count ct a_this a_forms a_sizes a_items a_moved a_bytes a_typed a_chances a_longs a_letters a_isThere a_pieceLongs a_pieceLetters a_song a_settings a_guess a_row a_least a_nights f_latest f_at_1 f_names_1 f_pieces_1 f_songLong_1 f_guesses f_todo f_bytes f_typed f_chances_1 f_longs_1 f_letters_1 f_isThere_1 f_pieceLongs_1 f_pieceLetters_1 f_song_1)) C (c_Mo_reads l D ct a_this a_forms a_sizes a_items a_moved a_bytes a_typed a_chances a_longs a_letters a_isThere a_pieceLongs a_pieceLetters a_song a_settings a_guess a_row a_least a_nights f_latest f_guesses f_todo F f_bytes f_typed f_at f_names f_pieces f_songLong f_chances f_longs f_letters f_isThere f_pieceLongs f_pieceLetters f_song f_at_1 f_names_1 f_pieces_1 f_songLong_1 f_chances_1 f_longs_1 f_letters_1 f_isThere_1 f_pieceLongs_1 f_pieceLetters_1 f_song_1 _ hc1) ⟨rfl, rfl⟩ yn_yX11_reads tw_1121 tw_35 tw_1119 ⟨Nat.le_of_ble_eq_true rfl, Nat.le_of_ble_eq_true rfl⟩ ⟨Nat.zero_le _, Nat.zero_le _⟩ hP hD hS hA [0, 1, 2, 3, 4, 5, 6, 7, 8, 9] [] [0, 1, 2, 3, 4, 5, 6, 7, 8, 9] rfl rfl rfl rfl rfl (by decide) rfl rfl rfl rfl rfl rfl hl.1 rfl rfl (Nat.le_of_ble_eq_true rfl) dX11_count_1 rfl (fun H locs hP hD hS => ?_)
  refine lv_iload_n hx hb dX11_count_4 rfl (lv_at hl 1 rfl) ?_
  by_cases hw0 : x1 = 0
  · have hf := kpos hw0 hf
    refine lv_tableIn (off := 51) (tgt := 56) hx hb dX11_count_5 (by rw [hw0]; decide) (by rw [hw0]; decide) (by rw [hw0]; rfl) (by decide) ?_
    refine lv_aload_n hx hb dX11_count_56 rfl (lv_at hl 0 rfl) ?_
    refine va_get (ci := 11) (v := .int f_names_1) (C := RX11) (T := TX11) (N := 25) hx hb hts inX11 hown hK hP 0 rfl rfl 8 (by decide) (hts _ tw_953) (fun _ h9 => h9) rfl dX11_count_57 ?_
    obtain ⟨e1, e2, e3, e4, e5, e6, e7, e8, e9, e10, e11, e12⟩ := ti12 hf
    subst e1; subst e2; subst e3; subst e4; subst e5; subst e6; subst e7; subst e8; subst e9; subst e10; subst e11; subst e12
    exact kretM C hP hD hS dX11_count_60
  · have hf := kneg hw0 hf
    by_cases hw1 : x1 = 1
    · have hf := kpos hw1 hf
      refine lv_tableIn (off := 56) (tgt := 61) hx hb dX11_count_5 (by rw [hw1]; decide) (by rw [hw1]; decide) (by rw [hw1]; rfl) (by decide) ?_
      refine lv_aload_n hx hb dX11_count_61 rfl (lv_at hl 0 rfl) ?_
      refine va_get (ci := 11) (v := .int f_pieces_1) (C := RX11) (T := TX11) (N := 25) hx hb hts inX11 hown hK hP 0 rfl rfl 12 (by decide) (hts _ tw_957) (fun _ h9 => h9) rfl dX11_count_62 ?_
      obtain ⟨e1, e2, e3, e4, e5, e6, e7, e8, e9, e10, e11, e12⟩ := ti12 hf
      subst e1; subst e2; subst e3; subst e4; subst e5; subst e6; subst e7; subst e8; subst e9; subst e10; subst e11; subst e12
      exact kretM C hP hD hS dX11_count_65
    · have hf := kneg hw1 hf
      by_cases hw2 : x1 = 2
      · have hf := kpos hw2 hf
        refine lv_tableIn (off := 61) (tgt := 66) hx hb dX11_count_5 (by rw [hw2]; decide) (by rw [hw2]; decide) (by rw [hw2]; rfl) (by decide) ?_
        refine lv_aload_n hx hb dX11_count_66 rfl (lv_at hl 0 rfl) ?_
        refine va_get (ci := 11) (v := .int f_songLong_1) (C := RX11) (T := TX11) (N := 25) hx hb hts inX11 hown hK hP 0 rfl rfl 16 (by decide) (hts _ tw_961) (fun _ h9 => h9) rfl dX11_count_67 ?_
        obtain ⟨e1, e2, e3, e4, e5, e6, e7, e8, e9, e10, e11, e12⟩ := ti12 hf
        subst e1; subst e2; subst e3; subst e4; subst e5; subst e6; subst e7; subst e8; subst e9; subst e10; subst e11; subst e12
        exact kretM C hP hD hS dX11_count_70
      · have hf := kneg hw2 hf
        by_cases hw3 : x1 = 3
        · have hf := kpos hw3 hf
          refine lv_tableIn (off := 66) (tgt := 71) hx hb dX11_count_5 (by rw [hw3]; decide) (by rw [hw3]; decide) (by rw [hw3]; rfl) (by decide) ?_
          refine lv_aload_n hx hb dX11_count_71 rfl (lv_at hl 0 rfl) ?_
          refine va_get (ci := 11) (v := .ref a_typed) (C := RX11) (T := TX11) (N := 25) hx hb hts inX11 hown hK hP 0 rfl rfl 6 (by decide) (hts _ tw_951) (fun _ h9 => h9) rfl dX11_count_72 ?_
          refine lv_iload_n hx hb dX11_count_75 rfl (lv_at hl 1 rfl) ?_
          refine lv_iconst (v := 3) hx hb dX11_count_76 (by decide) ?_
          refine lv_isub hx hb dX11_count_77 ?_
          obtain ⟨hin, hf⟩ := rd_some hf
          generalize ev78 : f_typed (Int32.toNatClampNeg (x1 - 3)) = v78 at hf
          refine kiald hx hb hK hP 2 0 rfl rfl hin ev78 dX11_count_78 ?_
          obtain ⟨e1, e2, e3, e4, e5, e6, e7, e8, e9, e10, e11, e12⟩ := ti12 hf
          subst e1; subst e2; subst e3; subst e4; subst e5; subst e6; subst e7; subst e8; subst e9; subst e10; subst e11; subst e12
          exact kretM C hP hD hS dX11_count_79
        · have hf := kneg hw3 hf
          by_cases hw4 : x1 = 4
          · have hf := kpos hw4 hf
            refine lv_tableIn (off := 66) (tgt := 71) hx hb dX11_count_5 (by rw [hw4]; decide) (by rw [hw4]; decide) (by rw [hw4]; rfl) (by decide) ?_
            refine lv_aload_n hx hb dX11_count_71 rfl (lv_at hl 0 rfl) ?_
            refine va_get (ci := 11) (v := .ref a_typed) (C := RX11) (T := TX11) (N := 25) hx hb hts inX11 hown hK hP 0 rfl rfl 6 (by decide) (hts _ tw_951) (fun _ h9 => h9) rfl dX11_count_72 ?_
            refine lv_iload_n hx hb dX11_count_75 rfl (lv_at hl 1 rfl) ?_
            refine lv_iconst (v := 3) hx hb dX11_count_76 (by decide) ?_
            refine lv_isub hx hb dX11_count_77 ?_
            obtain ⟨hin, hf⟩ := rd_some hf
            generalize ev78 : f_typed (Int32.toNatClampNeg (x1 - 3)) = v78 at hf
            refine kiald hx hb hK hP 2 0 rfl rfl hin ev78 dX11_count_78 ?_
            obtain ⟨e1, e2, e3, e4, e5, e6, e7, e8, e9, e10, e11, e12⟩ := ti12 hf
            subst e1; subst e2; subst e3; subst e4; subst e5; subst e6; subst e7; subst e8; subst e9; subst e10; subst e11; subst e12
            exact kretM C hP hD hS dX11_count_79
          · have hf := kneg hw4 hf
            by_cases hw5 : x1 = 5
            · have hf := kpos hw5 hf
              refine lv_tableIn (off := 66) (tgt := 71) hx hb dX11_count_5 (by rw [hw5]; decide) (by rw [hw5]; decide) (by rw [hw5]; rfl) (by decide) ?_
              refine lv_aload_n hx hb dX11_count_71 rfl (lv_at hl 0 rfl) ?_
              refine va_get (ci := 11) (v := .ref a_typed) (C := RX11) (T := TX11) (N := 25) hx hb hts inX11 hown hK hP 0 rfl rfl 6 (by decide) (hts _ tw_951) (fun _ h9 => h9) rfl dX11_count_72 ?_
              refine lv_iload_n hx hb dX11_count_75 rfl (lv_at hl 1 rfl) ?_
              refine lv_iconst (v := 3) hx hb dX11_count_76 (by decide) ?_
              refine lv_isub hx hb dX11_count_77 ?_
              obtain ⟨hin, hf⟩ := rd_some hf
              generalize ev78 : f_typed (Int32.toNatClampNeg (x1 - 3)) = v78 at hf
              refine kiald hx hb hK hP 2 0 rfl rfl hin ev78 dX11_count_78 ?_
              obtain ⟨e1, e2, e3, e4, e5, e6, e7, e8, e9, e10, e11, e12⟩ := ti12 hf
              subst e1; subst e2; subst e3; subst e4; subst e5; subst e6; subst e7; subst e8; subst e9; subst e10; subst e11; subst e12
              exact kretM C hP hD hS dX11_count_79
            · have hf := kneg hw5 hf
              by_cases hw6 : x1 = 6
              · have hf := kpos hw6 hf
                refine lv_tableIn (off := 75) (tgt := 80) hx hb dX11_count_5 (by rw [hw6]; decide) (by rw [hw6]; decide) (by rw [hw6]; rfl) (by decide) ?_
                refine lv_aload_n hx hb dX11_count_80 rfl (lv_at hl 0 rfl) ?_
                refine va_get (ci := 11) (v := .int f_guesses) (C := RX11) (T := TX11) (N := 25) hx hb hts inX11 hown hK hP 0 rfl rfl 19 (by decide) (hts _ tw_964) (fun _ h9 => h9) rfl dX11_count_81 ?_
                obtain ⟨e1, e2, e3, e4, e5, e6, e7, e8, e9, e10, e11, e12⟩ := ti12 hf
                subst e1; subst e2; subst e3; subst e4; subst e5; subst e6; subst e7; subst e8; subst e9; subst e10; subst e11; subst e12
                exact kretM C hP hD hS dX11_count_84
              · have hf := kneg hw6 hf
                by_cases hw7 : x1 = 7
                · have hf := kpos hw7 hf
                  refine lv_tableIn (off := 80) (tgt := 85) hx hb dX11_count_5 (by rw [hw7]; decide) (by rw [hw7]; decide) (by rw [hw7]; rfl) (by decide) ?_
                  refine lv_aload_n hx hb dX11_count_85 rfl (lv_at hl 0 rfl) ?_
                  obtain ⟨v86, hc86, hf⟩ := cb1_some hf
                  refine kcRV (q0 := 0) (ci := 11) (As := []) (rest := []) (st1 := [.int v86]) C (c_Mo_fitsNow l D ct a_this a_forms a_sizes a_items a_moved a_bytes a_typed a_chances a_longs a_letters a_isThere a_pieceLongs a_pieceLetters a_song a_settings a_guess a_row a_least a_nights f_latest f_at_1 f_guesses f_todo F f_names_1 f_pieces_1 f_songLong_1 f_longs_1 f_letters_1 f_isThere_1 f_pieceLongs_1 f_pieceLetters_1 f_song_1 v86 hc86) ⟨rfl, rfl⟩ yn_yX11_fitsNow tw_1158 tw_38 tw_1156 ⟨Nat.le_of_ble_eq_true rfl, Nat.le_of_ble_eq_true rfl⟩ ⟨Nat.zero_le _, Nat.zero_le _⟩ hP [0, 4, 5, 6, 7, 8, 9] rfl rfl rfl rfl hl.1 rfl rfl (Nat.le_of_ble_eq_true rfl) dX11_count_86 rfl ?_
                  obtain ⟨v89, hc89, hf⟩ := cb1_some hf
                  refine kcRS (As := [.int v86]) (rest := []) (st1 := [.int v89]) C (c_Mo_ones l D ct F v86 v89 hc89) ⟨rfl, rfl⟩ yn_yX11_ones tw_1300 tw_1299 ⟨Nat.le_of_ble_eq_true rfl, Nat.le_of_ble_eq_true rfl⟩ ⟨Nat.zero_le _, Nat.zero_le _⟩ hP [] rfl hl.1 rfl rfl (Nat.le_of_ble_eq_true rfl) dX11_count_89 rfl ?_
                  obtain ⟨e1, e2, e3, e4, e5, e6, e7, e8, e9, e10, e11, e12⟩ := ti12 hf
                  subst e1; subst e2; subst e3; subst e4; subst e5; subst e6; subst e7; subst e8; subst e9; subst e10; subst e11; subst e12
                  exact kretM C hP hD hS dX11_count_92
                · have hf := kneg hw7 hf
                  by_cases hw8 : x1 = 8
                  · have hf := kpos hw8 hf
                    refine lv_tableIn (off := 88) (tgt := 93) hx hb dX11_count_5 (by rw [hw8]; decide) (by rw [hw8]; decide) (by rw [hw8]; rfl) (by decide) ?_
                    refine lv_aload_n hx hb dX11_count_93 rfl (lv_at hl 0 rfl) ?_
                    refine va_get (ci := 11) (v := .int f_latest) (C := RX11) (T := TX11) (N := 25) hx hb hts inX11 hown hK hP 0 rfl rfl 4 (by decide) (hts _ tw_949) (fun _ h9 => h9) rfl dX11_count_94 ?_
                    obtain ⟨e1, e2, e3, e4, e5, e6, e7, e8, e9, e10, e11, e12⟩ := ti12 hf
                    subst e1; subst e2; subst e3; subst e4; subst e5; subst e6; subst e7; subst e8; subst e9; subst e10; subst e11; subst e12
                    exact kretM C hP hD hS dX11_count_97
                  · have hf := kneg hw8 hf
                    refine lv_tableOut (tgt := 98) hx hb dX11_count_5 (sw_out (n := 9) (by decide) (fun k hk => ?_)) (by decide) ?_
                    · rcases (show k = 0 ∨ k = 1 ∨ k = 2 ∨ k = 3 ∨ k = 4 ∨ k = 5 ∨ k = 6 ∨ k = 7 ∨ k = 8 by omega) with rfl | rfl | rfl | rfl | rfl | rfl | rfl | rfl | rfl
                      · exact hw0
                      · exact hw1
                      · exact hw2
                      · exact hw3
                      · exact hw4
                      · exact hw5
                      · exact hw6
                      · exact hw7
                      · exact hw8
                    · skip
                      refine lv_bipush (v := (-2)) hx hb dX11_count_98 (by decide) ?_
                      obtain ⟨e1, e2, e3, e4, e5, e6, e7, e8, e9, e10, e11, e12⟩ := ti12 hf
                      subst e1; subst e2; subst e3; subst e4; subst e5; subst e6; subst e7; subst e8; subst e9; subst e10; subst e11; subst e12
                      exact kretM C hP hD hS dX11_count_100
