def RM_Fi_fewestPieces : Room := { frames := 1, cells := 0, slots := 0, locals := 23 }
set_option maxHeartbeats 4000000 in
set_option maxRecDepth 100000 in
theorem t_Fi_fewestPieces_b43 {p : Program} {l : Launch} {e : Env} {s : State} {m : MethodId} {args : Array Value} {below : List Frame} {meth : Method} {c : Code} {D : va_G} {ct : Nat → ClassId} (C : CX p s m args meth c RX1 cX1_fewestPieces 4 (some .int) D ct) (a_this a_pieceFits a_inOrder : Nat) (f_ordered : Int32) (F : Nat) (f_pieceCount : Int32) (f_songFits : Int32) (f_allFit : Int32) (f_pieceFits : Nat → Int32) (r : Int32) (rec13 : Int32 → Int32 → Int32 → Option Int32) (hr13 : ∀ (x1 : Int32) (x2 : Int32) (x3 : Int32), rec13 x1 x2 x3 = some r → va_P D vwCl (w_Fi_fewestPieces ct a_this a_pieceFits a_inOrder f_pieceCount f_songFits f_allFit f_ordered f_pieceFits) s.heap → ∀ ls : Array Slot, lv_has ls 4 [(0, .ref a_this), (1, .int x1), (2, .int x2), (3, .int x3)] → W p l e RM_Fi_fewestPieces s m args below meth c s.heap [] 0 0 (MQ below (QR (some (.int r))) args s 0 0 (fun _ => False)) (F0 m 13 ls [])) : ∀ (x1 : Int32) (x2 : Int32) (x3 : Int32), Fi_fewestPieces_b43 F f_pieceCount f_songFits f_allFit f_pieceFits rec13 x1 x2 x3 = some r → va_P D vwCl (w_Fi_fewestPieces ct a_this a_pieceFits a_inOrder f_pieceCount f_songFits f_allFit f_ordered f_pieceFits) s.heap → ∀ ls : Array Slot, lv_has ls 4 [(0, .ref a_this), (1, .int x1), (2, .int x2), (3, .int x3)] → W p l e RM_Fi_fewestPieces s m args below meth c s.heap [] 0 0 (MQ below (QR (some (.int r))) args s 0 0 (fun _ => False)) (F0 m 43 ls []) := by
  obtain ⟨hx, hb, hr, hml, hown, hts, hlk, hK, hN⟩ := id C
  intro x1 x2 x3 hf hP ls hl
  unfold Fi_fewestPieces_b43 at hf
  refine lv_iinc (v := x3 + 1) (lv' := [(3, .int (x3 + 1)), (0, .ref a_this), (1, .int x1), (2, .int x2)]) hx hb dX1_fewestPieces_43 hl (k := 3) rfl rfl (by decide) rfl (fun ls hl => ?_)
  refine lv_goto (tgt := 13) hx hb dX1_fewestPieces_46 (by decide) ?_
  exact hr13 x1 x2 (x3 + 1) hf hP _ (lv_sub hl [1, 2, 3, 0] rfl)
set_option maxHeartbeats 4000000 in
set_option maxRecDepth 100000 in
theorem t_Fi_fewestPieces_b13 {p : Program} {l : Launch} {e : Env} {s : State} {m : MethodId} {args : Array Value} {below : List Frame} {meth : Method} {c : Code} {D : va_G} {ct : Nat → ClassId} (C : CX p s m args meth c RX1 cX1_fewestPieces 4 (some .int) D ct) (a_this a_pieceFits a_inOrder : Nat) (f_ordered : Int32) (F : Nat) (f_pieceCount : Int32) (f_songFits : Int32) (f_allFit : Int32) (f_pieceFits : Nat → Int32) (r : Int32) (rec13 : Int32 → Int32 → Int32 → Option Int32) (hr13 : ∀ (x1 : Int32) (x2 : Int32) (x3 : Int32), rec13 x1 x2 x3 = some r → va_P D vwCl (w_Fi_fewestPieces ct a_this a_pieceFits a_inOrder f_pieceCount f_songFits f_allFit f_ordered f_pieceFits) s.heap → ∀ ls : Array Slot, lv_has ls 4 [(0, .ref a_this), (1, .int x1), (2, .int x2), (3, .int x3)] → W p l e RM_Fi_fewestPieces s m args below meth c s.heap [] 0 0 (MQ below (QR (some (.int r))) args s 0 0 (fun _ => False)) (F0 m 13 ls [])) : ∀ (x1 : Int32) (x2 : Int32) (x3 : Int32), Fi_fewestPieces_b13 F f_pieceCount f_songFits f_allFit f_pieceFits rec13 x1 x2 x3 = some r → va_P D vwCl (w_Fi_fewestPieces ct a_this a_pieceFits a_inOrder f_pieceCount f_songFits f_allFit f_ordered f_pieceFits) s.heap → ∀ ls : Array Slot, lv_has ls 4 [(0, .ref a_this), (1, .int x1), (2, .int x2), (3, .int x3)] → W p l e RM_Fi_fewestPieces s m args below meth c s.heap [] 0 0 (MQ below (QR (some (.int r))) args s 0 0 (fun _ => False)) (F0 m 13 ls []) := by
  obtain ⟨hx, hb, hr, hml, hown, hts, hlk, hK, hN⟩ := id C
  intro x1 x2 x3 hf hP ls hl
  unfold Fi_fewestPieces_b13 at hf
  refine lv_iload_n hx hb dX1_fewestPieces_13 rfl (lv_at hl 3 rfl) ?_
  refine lv_iload_n hx hb dX1_fewestPieces_14 rfl (lv_at hl 1 rfl) ?_
  refine lv_icmp_ge (tgt := 49) hx hb dX1_fewestPieces_15 (by decide) (fun hc => ?_) (fun hc => ?_)
  · have hf := kpos hc hf
    refine lv_iload_n hx hb dX1_fewestPieces_49 rfl (lv_at hl 2 rfl) ?_
    have e1 := Option.some.inj hf
    subst e1
    exact kretR C dX1_fewestPieces_50
  · have hf := kneg hc hf
    refine lv_iload_n hx hb dX1_fewestPieces_18 rfl (lv_at hl 3 rfl) ?_
    obtain ⟨v19, hc19, hf⟩ := cb1_some hf
    refine kcRS (As := [.int x3]) (rest := []) (st1 := [.int v19]) C (c_Jint_bitCount l D ct x3 v19 hc19) ⟨rfl, rfl⟩ yn_yJ6_bitCount_0f7a4 tw_749 tw_799 ⟨Nat.le_of_ble_eq_true rfl, Nat.le_of_ble_eq_true rfl⟩ ⟨Nat.zero_le _, Nat.zero_le _⟩ hP [] rfl hl.1 rfl rfl (Nat.le_of_ble_eq_true rfl) dX1_fewestPieces_19 rfl ?_
    refine lv_iload_n hx hb dX1_fewestPieces_22 rfl (lv_at hl 2 rfl) ?_
    obtain ⟨v23, hc23, hf⟩ := cb1_some hf
    refine kcRS (As := [.int x2]) (rest := [.int v19]) (st1 := [.int v23, .int v19]) C (c_Jint_bitCount l D ct x2 v23 hc23) ⟨rfl, rfl⟩ yn_yJ6_bitCount_0f7a4 tw_749 tw_799 ⟨Nat.le_of_ble_eq_true rfl, Nat.le_of_ble_eq_true rfl⟩ ⟨Nat.zero_le _, Nat.zero_le _⟩ hP [] rfl hl.1 rfl rfl (Nat.le_of_ble_eq_true rfl) dX1_fewestPieces_23 rfl ?_
    refine lv_icmp_ge (tgt := 43) hx hb dX1_fewestPieces_26 (by decide) (fun hc => ?_) (fun hc => ?_)
    · have hf := kpos hc hf
      exact t_Fi_fewestPieces_b43 C a_this a_pieceFits a_inOrder f_ordered F f_pieceCount f_songFits f_allFit f_pieceFits r rec13 hr13 x1 x2 x3 hf hP _ (lv_sub hl [0, 1, 2, 3] rfl)
    · have hf := kneg hc hf
      refine lv_aload_n hx hb dX1_fewestPieces_29 rfl (lv_at hl 0 rfl) ?_
      refine lv_iload_n hx hb dX1_fewestPieces_30 rfl (lv_at hl 3 rfl) ?_
      obtain ⟨v31, hc31, hf⟩ := cb1_some hf
      refine kcRV (q0 := 0) (ci := 1) (As := [.int x3]) (rest := []) (st1 := [.int v31]) C (c_Fi_by l D ct a_this a_pieceFits a_inOrder f_allFit f_ordered F f_pieceCount f_songFits f_pieceFits x3 v31 hc31) ⟨rfl, rfl⟩ yn_yX1_by tw_467 tw_468 tw_466 ⟨Nat.le_of_ble_eq_true rfl, Nat.le_of_ble_eq_true rfl⟩ ⟨Nat.zero_le _, Nat.zero_le _⟩ hP [0, 1] rfl rfl rfl rfl hl.1 rfl rfl (Nat.le_of_ble_eq_true rfl) dX1_fewestPieces_31 rfl ?_
      refine lv_aload_n hx hb dX1_fewestPieces_34 rfl (lv_at hl 0 rfl) ?_
      refine va_get (ci := 1) (v := .int f_allFit) (C := RX1) (T := TX1) (N := 6) hx hb hts inX1 hown hK hP 0 rfl rfl 4 (by decide) (hts _ tw_189) (fun _ h9 => h9) rfl dX1_fewestPieces_35 ?_
      refine lv_icmp_ne (tgt := 43) hx hb dX1_fewestPieces_38 (by decide) (fun hc => ?_) (fun hc => ?_)
      · have hf := kneg hc hf
        exact t_Fi_fewestPieces_b43 C a_this a_pieceFits a_inOrder f_ordered F f_pieceCount f_songFits f_allFit f_pieceFits r rec13 hr13 x1 x2 x3 hf hP _ (lv_sub hl [0, 1, 2, 3] rfl)
      · have hf := kpos hc hf
        refine lv_iload_n hx hb dX1_fewestPieces_41 rfl (lv_at hl 3 rfl) ?_
        refine lv_istore_n (lv' := [(2, .int x3), (0, .ref a_this), (1, .int x1), (3, .int x3)]) hx hb dX1_fewestPieces_42 rfl hl (by decide) rfl (fun ls hl => ?_)
        exact t_Fi_fewestPieces_b43 C a_this a_pieceFits a_inOrder f_ordered F f_pieceCount f_songFits f_allFit f_pieceFits r rec13 hr13 x1 x3 x3 hf hP _ (lv_sub hl [1, 2, 0, 3] rfl)
set_option maxHeartbeats 4000000 in
set_option maxRecDepth 100000 in
theorem t_Fi_fewestPieces_l13 {p : Program} {l : Launch} {e : Env} {s : State} {m : MethodId} {args : Array Value} {below : List Frame} {meth : Method} {c : Code} {D : va_G} {ct : Nat → ClassId} (C : CX p s m args meth c RX1 cX1_fewestPieces 4 (some .int) D ct) (a_this a_pieceFits a_inOrder : Nat) (f_ordered : Int32) (F : Nat) (f_pieceCount : Int32) (f_songFits : Int32) (f_allFit : Int32) (f_pieceFits : Nat → Int32) (r : Int32) : ∀ (n : Nat) (x1 : Int32) (x2 : Int32) (x3 : Int32), Fi_fewestPieces_l13 F f_pieceCount f_songFits f_allFit f_pieceFits n x1 x2 x3 = some r → va_P D vwCl (w_Fi_fewestPieces ct a_this a_pieceFits a_inOrder f_pieceCount f_songFits f_allFit f_ordered f_pieceFits) s.heap → ∀ ls : Array Slot, lv_has ls 4 [(0, .ref a_this), (1, .int x1), (2, .int x2), (3, .int x3)] → W p l e RM_Fi_fewestPieces s m args below meth c s.heap [] 0 0 (MQ below (QR (some (.int r))) args s 0 0 (fun _ => False)) (F0 m 13 ls []) := by
  intro n
  induction n with
  | zero =>
    intro x1 x2 x3 hf
    exact absurd hf (by simp [Fi_fewestPieces_l13])
  | succ n ih =>
    intro x1 x2 x3 hf
    exact t_Fi_fewestPieces_b13 C a_this a_pieceFits a_inOrder f_ordered F f_pieceCount f_songFits f_allFit f_pieceFits r (Fi_fewestPieces_l13 F f_pieceCount f_songFits f_allFit f_pieceFits n) ih x1 x2 x3 hf
set_option maxHeartbeats 4000000 in
set_option maxRecDepth 100000 in
theorem c_Fi_fewestPieces (l : Launch) (D : va_G) (ct : Nat → ClassId) (a_this a_pieceFits a_inOrder : Nat) (f_ordered : Int32) (F : Nat) (f_pieceCount : Int32) (f_songFits : Int32) (f_allFit : Int32) (f_pieceFits : Nat → Int32) (r : Int32) (hf : Fi_fewestPieces F f_pieceCount f_songFits f_allFit f_pieceFits = some r) : Met l yX1_fewestPieces (WS yX1_fewestPieces cX1_fewestPieces 4 (some .int)) RM_Fi_fewestPieces (va_Pc [.ref a_this] (PR D ct (w_Fi_fewestPieces ct a_this a_pieceFits a_inOrder f_pieceCount f_songFits f_allFit f_ordered f_pieceFits))) (QR (some (.int r))) 0 0 (fun _ => False) := by
  refine kMetR yn_yX1_fewestPieces rfl (Nat.le_of_ble_eq_true rfl) ?_
  intro p e s m args below meth c C hP ls hl
  have hl : lv_has ls 4 [(0, .ref a_this)] := hl
  obtain ⟨hx, hb, hr, hml, hown, hts, hlk, hK, hN⟩ := id C
  unfold Fi_fewestPieces at hf
  refine lv_iconst (v := 1) hx hb dX1_fewestPieces_0 (by decide) ?_
  refine lv_aload_n hx hb dX1_fewestPieces_1 rfl (lv_at hl 0 rfl) ?_
  refine va_get (ci := 1) (v := .int f_pieceCount) (C := RX1) (T := TX1) (N := 6) hx hb hts inX1 hown hK hP 0 rfl rfl 2 (by decide) (hts _ tw_187) (fun _ h9 => h9) rfl dX1_fewestPieces_2 ?_
  refine lv_ishl hx hb dX1_fewestPieces_5 ?_
  refine lv_iconst (v := 1) hx hb dX1_fewestPieces_6 (by decide) ?_
  refine lv_isub hx hb dX1_fewestPieces_7 ?_
  refine lv_istore_n (lv' := [(1, .int (((1 : Int32) <<< (f_pieceCount &&& 31)) - 1)), (0, .ref a_this)]) hx hb dX1_fewestPieces_8 rfl hl (by decide) rfl (fun ls hl => ?_)
  refine lv_iload_n hx hb dX1_fewestPieces_9 rfl (lv_at hl 0 rfl) ?_
  refine lv_istore_n (lv' := [(2, .int (((1 : Int32) <<< (f_pieceCount &&& 31)) - 1)), (1, .int (((1 : Int32) <<< (f_pieceCount &&& 31)) - 1)), (0, .ref a_this)]) hx hb dX1_fewestPieces_10 rfl hl (by decide) rfl (fun ls hl => ?_)
  refine lv_iconst (v := 0) hx hb dX1_fewestPieces_11 (by decide) ?_
  refine lv_istore_n (lv' := [(3, .int 0), (2, .int (((1 : Int32) <<< (f_pieceCount &&& 31)) - 1)), (1, .int (((1 : Int32) <<< (f_pieceCount &&& 31)) - 1)), (0, .ref a_this)]) hx hb dX1_fewestPieces_12 rfl hl (by decide) rfl (fun ls hl => ?_)
  exact t_Fi_fewestPieces_l13 C a_this a_pieceFits a_inOrder f_ordered F f_pieceCount f_songFits f_allFit f_pieceFits r F (((1 : Int32) <<< (f_pieceCount &&& 31)) - 1) (((1 : Int32) <<< (f_pieceCount &&& 31)) - 1) 0 hf hP _ (lv_sub hl [3, 2, 1, 0] rfl)
def RM_ND_shortest : Room := { frames := 5, cells := 0, slots := 0, locals := 117 }
set_option maxHeartbeats 4000000 in
set_option maxRecDepth 100000 in
theorem c_ND_shortest (l : Launch) (D : va_G) (ct : Nat → ClassId) (a_this a_texts a_names a_pieces a_song a_fitting a_deal a_guesses a_wise a_spy a_sheets a_texts0 a_texts1 a_texts2 a_texts0_bytes a_texts1_bytes a_texts2_bytes a_names_odds a_names_lengths a_names_letters a_names_alike a_names_oddsTogether a_pieces_inside a_pieces_lengths a_pieces_letters a_song_letters a_fitting_pieceFits a_fitting_inOrder : Nat) (f_finding : Int32) (F : Nat) (f_texts0_size : Int32) (f_texts0_bytes : Nat → Int32) (f_texts1_size : Int32) (f_texts1_bytes : Nat → Int32) (f_texts2_size : Int32) (f_texts2_bytes : Nat → Int32) (f_stale : Int32) (f_names_size : Int32) (f_names_fault : Int32) (f_names_odds : Nat → Int32) (f_names_lengths : Nat → Int32) (f_names_letters : Nat → Int32) (f_names_alike : Nat → Int32) (f_names_oddsTogether : Nat → Int32) (f_pieces_size : Int32) (f_pieces_fault : Int32) (f_pieces_inside : Nat → Int32) (f_pieces_lengths : Nat → Int32) (f_pieces_letters : Nat → Int32) (f_song_size : Int32) (f_song_fault : Int32) (f_song_letters : Nat → Int32) (f_fitting_pieceCount : Int32) (f_fitting_songFits : Int32) (f_fitting_allFit : Int32) (f_fitting_ordered : Int32) (f_fitting_pieceFits : Nat → Int32) (f_fitting_inOrder : Nat → Int32) (x1 : Int32) (r : Int32) (r_stale : Int32) (r_names_size : Int32) (r_names_fault : Int32) (r_names_odds : Nat → Int32) (r_names_lengths : Nat → Int32) (r_names_letters : Nat → Int32) (r_names_alike : Nat → Int32) (r_names_oddsTogether : Nat → Int32) (r_pieces_size : Int32) (r_pieces_fault : Int32) (r_pieces_inside : Nat → Int32) (r_pieces_lengths : Nat → Int32) (r_pieces_letters : Nat → Int32) (r_song_size : Int32) (r_song_fault : Int32) (r_song_letters : Nat → Int32) (r_fitting_pieceCount : Int32) (r_fitting_songFits : Int32) (r_fitting_allFit : Int32) (r_fitting_ordered : Int32) (r_fitting_pieceFits : Nat → Int32) (r_fitting_inOrder : Nat → Int32) (sz : Nat) (hf : ND_shortest F f_texts0_size f_texts0_bytes f_texts1_size f_texts1_bytes f_texts2_size f_texts2_bytes f_stale f_names_size f_names_fault f_names_odds f_names_lengths f_names_letters f_names_alike f_names_oddsTogether f_pieces_size f_pieces_fault f_pieces_inside f_pieces_lengths f_pieces_letters f_song_size f_song_fault f_song_letters f_fitting_pieceCount f_fitting_songFits f_fitting_allFit f_fitting_ordered f_fitting_pieceFits f_fitting_inOrder x1 = some (r, r_stale, r_names_size, r_names_fault, r_names_odds, r_names_lengths, r_names_letters, r_names_alike, r_names_oddsTogether, r_pieces_size, r_pieces_fault, r_pieces_inside, r_pieces_lengths, r_pieces_letters, r_song_size, r_song_fault, r_song_letters, r_fitting_pieceCount, r_fitting_songFits, r_fitting_allFit, r_fitting_ordered, r_fitting_pieceFits, r_fitting_inOrder)) : Met l yX10_shortest (WS yX10_shortest cX10_shortest 3 (some .int)) RM_ND_shortest (va_Pc [.ref a_this, .int x1] (PM D ct sz (w_ND_shortest ct a_this a_texts a_names a_pieces a_song a_fitting a_deal a_guesses a_wise a_spy a_sheets a_texts0 a_texts1 a_texts2 a_texts0_bytes a_texts1_bytes a_texts2_bytes a_names_odds a_names_lengths a_names_letters a_names_alike a_names_oddsTogether a_pieces_inside a_pieces_lengths a_pieces_letters a_song_letters a_fitting_pieceFits a_fitting_inOrder f_stale f_finding f_texts0_size f_texts0_bytes f_texts1_size f_texts1_bytes f_texts2_size f_texts2_bytes f_names_size f_names_fault f_names_odds f_names_lengths f_names_letters f_names_alike f_names_oddsTogether f_pieces_size f_pieces_fault f_pieces_inside f_pieces_lengths f_pieces_letters f_song_size f_song_fault f_song_letters f_fitting_pieceCount f_fitting_songFits f_fitting_allFit f_fitting_ordered f_fitting_pieceFits f_fitting_inOrder))) (QM D (some (.int r)) (w_ND_shortest ct a_this a_texts a_names a_pieces a_song a_fitting a_deal a_guesses a_wise a_spy a_sheets a_texts0 a_texts1 a_texts2 a_texts0_bytes a_texts1_bytes a_texts2_bytes a_names_odds a_names_lengths a_names_letters a_names_alike a_names_oddsTogether a_pieces_inside a_pieces_lengths a_pieces_letters a_song_letters a_fitting_pieceFits a_fitting_inOrder r_stale f_finding f_texts0_size f_texts0_bytes f_texts1_size f_texts1_bytes f_texts2_size f_texts2_bytes r_names_size r_names_fault r_names_odds r_names_lengths r_names_letters r_names_alike r_names_oddsTogether r_pieces_size r_pieces_fault r_pieces_inside r_pieces_lengths r_pieces_letters r_song_size r_song_fault r_song_letters r_fitting_pieceCount r_fitting_songFits r_fitting_allFit r_fitting_ordered r_fitting_pieceFits r_fitting_inOrder) (va_A (w_ND_shortest ct a_this a_texts a_names a_pieces a_song a_fitting a_deal a_guesses a_wise a_spy a_sheets a_texts0 a_texts1 a_texts2 a_texts0_bytes a_texts1_bytes a_texts2_bytes a_names_odds a_names_lengths a_names_letters a_names_alike a_names_oddsTogether a_pieces_inside a_pieces_lengths a_pieces_letters a_song_letters a_fitting_pieceFits a_fitting_inOrder f_stale f_finding f_texts0_size f_texts0_bytes f_texts1_size f_texts1_bytes f_texts2_size f_texts2_bytes f_names_size f_names_fault f_names_odds f_names_lengths f_names_letters f_names_alike f_names_oddsTogether f_pieces_size f_pieces_fault f_pieces_inside f_pieces_lengths f_pieces_letters f_song_size f_song_fault f_song_letters f_fitting_pieceCount f_fitting_songFits f_fitting_allFit f_fitting_ordered f_fitting_pieceFits f_fitting_inOrder) sz)) 0 0 (va_A (w_ND_shortest ct a_this a_texts a_names a_pieces a_song a_fitting a_deal a_guesses a_wise a_spy a_sheets a_texts0 a_texts1 a_texts2 a_texts0_bytes a_texts1_bytes a_texts2_bytes a_names_odds a_names_lengths a_names_letters a_names_alike a_names_oddsTogether a_pieces_inside a_pieces_lengths a_pieces_letters a_song_letters a_fitting_pieceFits a_fitting_inOrder f_stale f_finding f_texts0_size f_texts0_bytes f_texts1_size f_texts1_bytes f_texts2_size f_texts2_bytes f_names_size f_names_fault f_names_odds f_names_lengths f_names_letters f_names_alike f_names_oddsTogether f_pieces_size f_pieces_fault f_pieces_inside f_pieces_lengths f_pieces_letters f_song_size f_song_fault f_song_letters f_fitting_pieceCount f_fitting_songFits f_fitting_allFit f_fitting_ordered f_fitting_pieceFits f_fitting_inOrder) sz) := by
  refine kMetM yn_yX10_shortest rfl (Nat.le_of_ble_eq_true rfl) ?_
  intro p e s m args below meth c A C hA hP hD ls hl
  have hl : lv_has ls 3 [(0, .ref a_this), (1, .int x1)] := hl
  have hS : va_S A s.heap s.heap [] := va_S.rf
  obtain ⟨hx, hb, hr, hml, hown, hts, hlk, hK, hN⟩ := id C
  unfold ND_shortest at hf
  refine lv_iload_n hx hb dX10_shortest_0 rfl (lv_at hl 1 rfl) ?_
  obtain ⟨v1, hc1, hf⟩ := cb1_some hf
  refine kcRS (As := [.int x1]) (rest := []) (st1 := [.int v1]) C (c_ND_isZeroOrOne l D ct x1 v1 hc1) ⟨rfl, rfl⟩ yn_yX10_isZeroOrOne tw_584 tw_583 ⟨Nat.le_of_ble_eq_true rfl, Nat.le_of_ble_eq_true rfl⟩ ⟨Nat.zero_le _, Nat.zero_le _⟩ hP [] rfl hl.1 rfl rfl (Nat.le_of_ble_eq_true rfl) dX10_shortest_1 rfl ?_
  refine lv_if_ne (tgt := 10) hx hb dX10_shortest_4 (by decide) (fun hc => ?_) (fun hc => ?_)
  · have hf := kneg hc hf
    refine lv_aload_n hx hb dX10_shortest_10 rfl (lv_at hl 0 rfl) ?_
    obtain ⟨f_stale_11, f_names_size_11, f_names_fault_11, f_names_odds_11, f_names_lengths_11, f_names_letters_11, f_names_alike_11, f_names_oddsTogether_11, f_pieces_size_11, f_pieces_fault_11, f_pieces_inside_11, f_pieces_lengths_11, f_pieces_letters_11, f_song_size_11, f_song_fault_11, f_song_letters_11, f_fitting_pieceCount_11, f_fitting_songFits_11, f_fitting_allFit_11, f_fitting_ordered_11, f_fitting_pieceFits_11, f_fitting_inOrder_11, hc11, hf⟩ := cb22_some hf
    refine kcMV (q0 := 0) (ci := 10) (As := []) (rest := []) (st1 := []) (wf := (w_ND_shortest ct a_this a_texts a_names a_pieces a_song a_fitting a_deal a_guesses a_wise a_spy a_sheets a_texts0 a_texts1 a_texts2 a_texts0_bytes a_texts1_bytes a_texts2_bytes a_names_odds a_names_lengths a_names_letters a_names_alike a_names_oddsTogether a_pieces_inside a_pieces_lengths a_pieces_letters a_song_letters a_fitting_pieceFits a_fitting_inOrder f_stale_11 f_finding f_texts0_size f_texts0_bytes f_texts1_size f_texts1_bytes f_texts2_size f_texts2_bytes f_names_size_11 f_names_fault_11 f_names_odds_11 f_names_lengths_11 f_names_letters_11 f_names_alike_11 f_names_oddsTogether_11 f_pieces_size_11 f_pieces_fault_11 f_pieces_inside_11 f_pieces_lengths_11 f_pieces_letters_11 f_song_size_11 f_song_fault_11 f_song_letters_11 f_fitting_pieceCount_11 f_fitting_songFits_11 f_fitting_allFit_11 f_fitting_ordered_11 f_fitting_pieceFits_11 f_fitting_inOrder_11)) C (c_ND_refresh l D ct a_this a_texts a_names a_pieces a_song a_fitting a_deal a_guesses a_wise a_spy a_sheets a_texts0 a_texts1 a_texts2 a_texts0_bytes a_texts1_bytes a_texts2_bytes a_names_odds a_names_lengths a_names_letters a_names_alike a_names_oddsTogether a_pieces_inside a_pieces_lengths a_pieces_letters a_song_letters a_fitting_pieceFits a_fitting_inOrder f_finding F f_texts0_size f_texts0_bytes f_texts1_size f_texts1_bytes f_texts2_size f_texts2_bytes f_stale f_names_size f_names_fault f_names_odds f_names_lengths f_names_letters f_names_alike f_names_oddsTogether f_pieces_size f_pieces_fault f_pieces_inside f_pieces_lengths f_pieces_letters f_song_size f_song_fault f_song_letters f_fitting_pieceCount f_fitting_songFits f_fitting_allFit f_fitting_ordered f_fitting_pieceFits f_fitting_inOrder f_stale_11 f_names_size_11 f_names_fault_11 f_names_odds_11 f_names_lengths_11 f_names_letters_11 f_names_alike_11 f_names_oddsTogether_11 f_pieces_size_11 f_pieces_fault_11 f_pieces_inside_11 f_pieces_lengths_11 f_pieces_letters_11 f_song_size_11 f_song_fault_11 f_song_letters_11 f_fitting_pieceCount_11 f_fitting_songFits_11 f_fitting_allFit_11 f_fitting_ordered_11 f_fitting_pieceFits_11 f_fitting_inOrder_11 _ hc11) ⟨rfl, rfl⟩ yn_yX10_refresh tw_372 tw_1 tw_370 ⟨Nat.le_of_ble_eq_true rfl, Nat.le_of_ble_eq_true rfl⟩ ⟨Nat.zero_le _, Nat.zero_le _⟩ hP hD hS hA [0, 1, 2, 3, 4, 5, 6, 7, 8, 9, 10, 11, 12, 13, 14, 15, 16, 17, 18, 19, 20, 21, 22] [] [0, 1, 2, 3, 4, 5, 6, 7, 8, 9, 10, 11, 12, 13, 14, 15, 16, 17, 18, 19, 20, 21, 22] rfl rfl rfl rfl rfl (by decide) rfl rfl rfl rfl rfl rfl hl.1 rfl rfl (Nat.le_of_ble_eq_true rfl) dX10_shortest_11 rfl (fun H locs hP hD hS => ?_)
    refine lv_aload_n hx hb dX10_shortest_14 rfl (lv_at hl 0 rfl) ?_
    refine va_get (ci := 10) (v := .ref a_fitting) (C := RX10) (T := TX10) (N := 12) hx hb hts inX10 hown hK hP 0 rfl rfl 4 (by decide) (hts _ tw_286) (fun _ h9 => h9) rfl dX10_shortest_15 ?_
    obtain ⟨v18, hc18, hf⟩ := cb1_some hf
    refine kcRV (q0 := 20) (ci := 1) (As := []) (rest := []) (st1 := [.int v18]) C (c_Fi_fewestPieces l D ct a_fitting a_fitting_pieceFits a_fitting_inOrder f_fitting_ordered_11 F f_fitting_pieceCount_11 f_fitting_songFits_11 f_fitting_allFit_11 f_fitting_pieceFits_11 v18 hc18) ⟨rfl, rfl⟩ yn_yX1_fewestPieces tw_796 tw_797 tw_795 ⟨Nat.le_of_ble_eq_true rfl, Nat.le_of_ble_eq_true rfl⟩ ⟨Nat.zero_le _, Nat.zero_le _⟩ hP [20, 21] rfl rfl rfl rfl hl.1 rfl rfl (Nat.le_of_ble_eq_true rfl) dX10_shortest_18 rfl ?_
    refine lv_istore_n (lv' := [(2, .int v18), (0, .ref a_this), (1, .int x1)]) hx hb dX10_shortest_21 rfl hl (by decide) rfl (fun ls hl => ?_)
    refine lv_iload_n hx hb dX10_shortest_22 rfl (lv_at hl 2 rfl) ?_
    refine lv_if_ne (tgt := 33) hx hb dX10_shortest_23 (by decide) (fun hc => ?_) (fun hc => ?_)
    · have hf := kneg hc hf
      refine lv_iload_n hx hb dX10_shortest_33 rfl (lv_at hl 0 rfl) ?_
      obtain ⟨e1, e2, e3, e4, e5, e6, e7, e8, e9, e10, e11, e12, e13, e14, e15, e16, e17, e18, e19, e20, e21, e22, e23⟩ := ti23 hf
      subst e1; subst e2; subst e3; subst e4; subst e5; subst e6; subst e7; subst e8; subst e9; subst e10; subst e11; subst e12; subst e13; subst e14; subst e15; subst e16; subst e17; subst e18; subst e19; subst e20; subst e21; subst e22; subst e23
      exact kretM C hP hD hS dX10_shortest_34
    · have hf := kpos hc hf
      refine lv_iload_n hx hb dX10_shortest_26 rfl (lv_at hl 0 rfl) ?_
      obtain ⟨v27, hc27, hf⟩ := cb1_some hf
      refine kcRS (As := [.int v18]) (rest := []) (st1 := [.int v27]) C (c_Jint_bitCount l D ct v18 v27 hc27) ⟨rfl, rfl⟩ yn_yJ6_bitCount_0f7a4 tw_749 tw_790 ⟨Nat.le_of_ble_eq_true rfl, Nat.le_of_ble_eq_true rfl⟩ ⟨Nat.zero_le _, Nat.zero_le _⟩ hP [] rfl hl.1 rfl rfl (Nat.le_of_ble_eq_true rfl) dX10_shortest_27 rfl ?_
      refine lv_goto (tgt := 34) hx hb dX10_shortest_30 (by decide) ?_
      obtain ⟨e1, e2, e3, e4, e5, e6, e7, e8, e9, e10, e11, e12, e13, e14, e15, e16, e17, e18, e19, e20, e21, e22, e23⟩ := ti23 hf
      subst e1; subst e2; subst e3; subst e4; subst e5; subst e6; subst e7; subst e8; subst e9; subst e10; subst e11; subst e12; subst e13; subst e14; subst e15; subst e16; subst e17; subst e18; subst e19; subst e20; subst e21; subst e22; subst e23
      exact kretM C hP hD hS dX10_shortest_34
  · have hf := kpos hc hf
    refine lv_bipush (v := (-2)) hx hb dX10_shortest_7 (by decide) ?_
    obtain ⟨e1, e2, e3, e4, e5, e6, e7, e8, e9, e10, e11, e12, e13, e14, e15, e16, e17, e18, e19, e20, e21, e22, e23⟩ := ti23 hf
    subst e1; subst e2; subst e3; subst e4; subst e5; subst e6; subst e7; subst e8; subst e9; subst e10; subst e11; subst e12; subst e13; subst e14; subst e15; subst e16; subst e17; subst e18; subst e19; subst e20; subst e21; subst e22; subst e23
    exact kretM C hP hD hS dX10_shortest_9
def RM_Na_commonLength : Room := { frames := 0, cells := 0, slots := 0, locals := 0 }
set_option maxHeartbeats 4000000 in
set_option maxRecDepth 100000 in
theorem t_Na_commonLength_b43 {p : Program} {l : Launch} {e : Env} {s : State} {m : MethodId} {args : Array Value} {below : List Frame} {meth : Method} {c : Code} {D : va_G} {ct : Nat → ClassId} (C : CX p s m args meth c RX3 cX3_commonLength 4 (some .int) D ct) (a_this a_odds a_lengths a_letters a_alike a_oddsTogether : Nat) (f_fault : Int32) (F : Nat) (f_size : Int32) (f_lengths : Nat → Int32) (x1 : Int32) (r : Int32) (rec4 : Int32 → Int32 → Option Int32) (hr4 : ∀ (x2 : Int32) (x3 : Int32), rec4 x2 x3 = some r → va_P D vwCl (w_Na_commonLength ct a_this a_odds a_lengths a_letters a_alike a_oddsTogether f_size f_fault f_lengths) s.heap → ∀ ls : Array Slot, lv_has ls 4 [(0, .ref a_this), (1, .int x1), (2, .int x2), (3, .int x3)] → W p l e RM_Na_commonLength s m args below meth c s.heap [] 0 0 (MQ below (QR (some (.int r))) args s 0 0 (fun _ => False)) (F0 m 4 ls [])) : ∀ (x2 : Int32) (x3 : Int32), Na_commonLength_b43 F f_size f_lengths x1 rec4 x2 x3 = some r → va_P D vwCl (w_Na_commonLength ct a_this a_odds a_lengths a_letters a_alike a_oddsTogether f_size f_fault f_lengths) s.heap → ∀ ls : Array Slot, lv_has ls 4 [(0, .ref a_this), (1, .int x1), (2, .int x2), (3, .int x3)] → W p l e RM_Na_commonLength s m args below meth c s.heap [] 0 0 (MQ below (QR (some (.int r))) args s 0 0 (fun _ => False)) (F0 m 43 ls []) := by
  obtain ⟨hx, hb, hr, hml, hown, hts, hlk, hK, hN⟩ := id C
  intro x2 x3 hf hP ls hl
  unfold Na_commonLength_b43 at hf
  refine lv_iinc (v := x3 + 1) (lv' := [(3, .int (x3 + 1)), (0, .ref a_this), (1, .int x1), (2, .int x2)]) hx hb dX3_commonLength_43 hl (k := 3) rfl rfl (by decide) rfl (fun ls hl => ?_)
  refine lv_goto (tgt := 4) hx hb dX3_commonLength_46 (by decide) ?_
  exact hr4 x2 (x3 + 1) hf hP _ (lv_sub hl [1, 2, 3, 0] rfl)
set_option maxHeartbeats 4000000 in
set_option maxRecDepth 100000 in
theorem t_Na_commonLength_b36 {p : Program} {l : Launch} {e : Env} {s : State} {m : MethodId} {args : Array Value} {below : List Frame} {meth : Method} {c : Code} {D : va_G} {ct : Nat → ClassId} (C : CX p s m args meth c RX3 cX3_commonLength 4 (some .int) D ct) (a_this a_odds a_lengths a_letters a_alike a_oddsTogether : Nat) (f_fault : Int32) (F : Nat) (f_size : Int32) (f_lengths : Nat → Int32) (x1 : Int32) (r : Int32) (rec4 : Int32 → Int32 → Option Int32) (hr4 : ∀ (x2 : Int32) (x3 : Int32), rec4 x2 x3 = some r → va_P D vwCl (w_Na_commonLength ct a_this a_odds a_lengths a_letters a_alike a_oddsTogether f_size f_fault f_lengths) s.heap → ∀ ls : Array Slot, lv_has ls 4 [(0, .ref a_this), (1, .int x1), (2, .int x2), (3, .int x3)] → W p l e RM_Na_commonLength s m args below meth c s.heap [] 0 0 (MQ below (QR (some (.int r))) args s 0 0 (fun _ => False)) (F0 m 4 ls [])) : ∀ (x3 : Int32), Na_commonLength_b36 F f_size f_lengths x1 rec4 x3 = some r → va_P D vwCl (w_Na_commonLength ct a_this a_odds a_lengths a_letters a_alike a_oddsTogether f_size f_fault f_lengths) s.heap → ∀ ls : Array Slot, lv_has ls 4 [(0, .ref a_this), (1, .int x1), (3, .int x3)] → W p l e RM_Na_commonLength s m args below meth c s.heap [] 0 0 (MQ below (QR (some (.int r))) args s 0 0 (fun _ => False)) (F0 m 36 ls []) := by
  obtain ⟨hx, hb, hr, hml, hown, hts, hlk, hK, hN⟩ := id C
  intro x3 hf hP ls hl
  unfold Na_commonLength_b36 at hf
  refine lv_aload_n hx hb dX3_commonLength_36 rfl (lv_at hl 0 rfl) ?_
  refine va_get (ci := 3) (v := .ref a_lengths) (C := RX3) (T := TX3) (N := 7) hx hb hts inX3 hown hK hP 0 rfl rfl 1 (by decide) (hts _ tw_119) (fun _ h9 => h9) rfl dX3_commonLength_37 ?_
  refine lv_iload_n hx hb dX3_commonLength_40 rfl (lv_at hl 2 rfl) ?_
  obtain ⟨hin, hf⟩ := rd_some hf
  generalize ev41 : f_lengths (Int32.toNatClampNeg x3) = v41 at hf
  refine kiald hx hb hK hP 1 0 rfl rfl hin ev41 dX3_commonLength_41 ?_
  refine lv_istore_n (lv' := [(2, .int v41), (0, .ref a_this), (1, .int x1), (3, .int x3)]) hx hb dX3_commonLength_42 rfl hl (by decide) rfl (fun ls hl => ?_)
  exact t_Na_commonLength_b43 C a_this a_odds a_lengths a_letters a_alike a_oddsTogether f_fault F f_size f_lengths x1 r rec4 hr4 v41 x3 hf hP _ (lv_sub hl [1, 2, 0, 3] rfl)
set_option maxHeartbeats 4000000 in
set_option maxRecDepth 100000 in
theorem t_Na_commonLength_b4 {p : Program} {l : Launch} {e : Env} {s : State} {m : MethodId} {args : Array Value} {below : List Frame} {meth : Method} {c : Code} {D : va_G} {ct : Nat → ClassId} (C : CX p s m args meth c RX3 cX3_commonLength 4 (some .int) D ct) (a_this a_odds a_lengths a_letters a_alike a_oddsTogether : Nat) (f_fault : Int32) (F : Nat) (f_size : Int32) (f_lengths : Nat → Int32) (x1 : Int32) (r : Int32) (rec4 : Int32 → Int32 → Option Int32) (hr4 : ∀ (x2 : Int32) (x3 : Int32), rec4 x2 x3 = some r → va_P D vwCl (w_Na_commonLength ct a_this a_odds a_lengths a_letters a_alike a_oddsTogether f_size f_fault f_lengths) s.heap → ∀ ls : Array Slot, lv_has ls 4 [(0, .ref a_this), (1, .int x1), (2, .int x2), (3, .int x3)] → W p l e RM_Na_commonLength s m args below meth c s.heap [] 0 0 (MQ below (QR (some (.int r))) args s 0 0 (fun _ => False)) (F0 m 4 ls [])) : ∀ (x2 : Int32) (x3 : Int32), Na_commonLength_b4 F f_size f_lengths x1 rec4 x2 x3 = some r → va_P D vwCl (w_Na_commonLength ct a_this a_odds a_lengths a_letters a_alike a_oddsTogether f_size f_fault f_lengths) s.heap → ∀ ls : Array Slot, lv_has ls 4 [(0, .ref a_this), (1, .int x1), (2, .int x2), (3, .int x3)] → W p l e RM_Na_commonLength s m args below meth c s.heap [] 0 0 (MQ below (QR (some (.int r))) args s 0 0 (fun _ => False)) (F0 m 4 ls []) := by
  obtain ⟨hx, hb, hr, hml, hown, hts, hlk, hK, hN⟩ := id C
  intro x2 x3 hf hP ls hl
  unfold Na_commonLength_b4 at hf
  refine lv_iload_n hx hb dX3_commonLength_4 rfl (lv_at hl 3 rfl) ?_
  refine lv_aload_n hx hb dX3_commonLength_5 rfl (lv_at hl 0 rfl) ?_
  refine va_get (ci := 3) (v := .int f_size) (C := RX3) (T := TX3) (N := 7) hx hb hts inX3 hown hK hP 0 rfl rfl 5 (by decide) (hts _ tw_123) (fun _ h9 => h9) rfl dX3_commonLength_6 ?_
  refine lv_icmp_ge (tgt := 49) hx hb dX3_commonLength_9 (by decide) (fun hc => ?_) (fun hc => ?_)
  · have hf := kpos hc hf
    refine lv_iload_n hx hb dX3_commonLength_49 rfl (lv_at hl 2 rfl) ?_
    have e1 := Option.some.inj hf
    subst e1
    exact kretR C dX3_commonLength_50
  · have hf := kneg hc hf
    refine lv_iload_n hx hb dX3_commonLength_12 rfl (lv_at hl 1 rfl) ?_
    refine lv_iconst (v := 1) hx hb dX3_commonLength_13 (by decide) ?_
    refine lv_iload_n hx hb dX3_commonLength_14 rfl (lv_at hl 3 rfl) ?_
    refine lv_ishl hx hb dX3_commonLength_15 ?_
    refine lv_iand hx hb dX3_commonLength_16 ?_
    refine lv_if_eq (tgt := 43) hx hb dX3_commonLength_17 (by decide) (fun hc => ?_) (fun hc => ?_)
    · have hf := kpos hc hf
      exact t_Na_commonLength_b43 C a_this a_odds a_lengths a_letters a_alike a_oddsTogether f_fault F f_size f_lengths x1 r rec4 hr4 x2 x3 hf hP _ (lv_sub hl [0, 1, 2, 3] rfl)
    · have hf := kneg hc hf
      refine lv_iload_n hx hb dX3_commonLength_20 rfl (lv_at hl 2 rfl) ?_
      refine lv_if_eq (tgt := 36) hx hb dX3_commonLength_21 (by decide) (fun hc => ?_) (fun hc => ?_)
      · have hf := kpos hc hf
        exact t_Na_commonLength_b36 C a_this a_odds a_lengths a_letters a_alike a_oddsTogether f_fault F f_size f_lengths x1 r rec4 hr4 x3 hf hP _ (lv_sub hl [0, 1, 3] rfl)
      · have hf := kneg hc hf
        refine lv_iload_n hx hb dX3_commonLength_24 rfl (lv_at hl 2 rfl) ?_
        refine lv_aload_n hx hb dX3_commonLength_25 rfl (lv_at hl 0 rfl) ?_
        refine va_get (ci := 3) (v := .ref a_lengths) (C := RX3) (T := TX3) (N := 7) hx hb hts inX3 hown hK hP 0 rfl rfl 1 (by decide) (hts _ tw_119) (fun _ h9 => h9) rfl dX3_commonLength_26 ?_
        refine lv_iload_n hx hb dX3_commonLength_29 rfl (lv_at hl 3 rfl) ?_
        obtain ⟨hin, hf⟩ := rd_some hf
        generalize ev30 : f_lengths (Int32.toNatClampNeg x3) = v30 at hf
        refine kiald hx hb hK hP 1 0 rfl rfl hin ev30 dX3_commonLength_30 ?_
        refine lv_icmp_eq (tgt := 36) hx hb dX3_commonLength_31 (by decide) (fun hc => ?_) (fun hc => ?_)
        · have hf := kpos hc hf
          exact t_Na_commonLength_b36 C a_this a_odds a_lengths a_letters a_alike a_oddsTogether f_fault F f_size f_lengths x1 r rec4 hr4 x3 hf hP _ (lv_sub hl [0, 1, 3] rfl)
        · have hf := kneg hc hf
          refine lv_iconst (v := 0) hx hb dX3_commonLength_34 (by decide) ?_
          have e1 := Option.some.inj hf
          subst e1
          exact kretR C dX3_commonLength_35
set_option maxHeartbeats 4000000 in
set_option maxRecDepth 100000 in
theorem t_Na_commonLength_l4 {p : Program} {l : Launch} {e : Env} {s : State} {m : MethodId} {args : Array Value} {below : List Frame} {meth : Method} {c : Code} {D : va_G} {ct : Nat → ClassId} (C : CX p s m args meth c RX3 cX3_commonLength 4 (some .int) D ct) (a_this a_odds a_lengths a_letters a_alike a_oddsTogether : Nat) (f_fault : Int32) (F : Nat) (f_size : Int32) (f_lengths : Nat → Int32) (x1 : Int32) (r : Int32) : ∀ (n : Nat) (x2 : Int32) (x3 : Int32), Na_commonLength_l4 F f_size f_lengths x1 n x2 x3 = some r → va_P D vwCl (w_Na_commonLength ct a_this a_odds a_lengths a_letters a_alike a_oddsTogether f_size f_fault f_lengths) s.heap → ∀ ls : Array Slot, lv_has ls 4 [(0, .ref a_this), (1, .int x1), (2, .int x2), (3, .int x3)] → W p l e RM_Na_commonLength s m args below meth c s.heap [] 0 0 (MQ below (QR (some (.int r))) args s 0 0 (fun _ => False)) (F0 m 4 ls []) := by
  intro n
  induction n with
  | zero =>
    intro x2 x3 hf
    exact absurd hf (by simp [Na_commonLength_l4])
  | succ n ih =>
    intro x2 x3 hf
    exact t_Na_commonLength_b4 C a_this a_odds a_lengths a_letters a_alike a_oddsTogether f_fault F f_size f_lengths x1 r (Na_commonLength_l4 F f_size f_lengths x1 n) ih x2 x3 hf
set_option maxHeartbeats 4000000 in
set_option maxRecDepth 100000 in
theorem c_Na_commonLength (l : Launch) (D : va_G) (ct : Nat → ClassId) (a_this a_odds a_lengths a_letters a_alike a_oddsTogether : Nat) (f_fault : Int32) (F : Nat) (f_size : Int32) (f_lengths : Nat → Int32) (x1 : Int32) (r : Int32) (hf : Na_commonLength F f_size f_lengths x1 = some r) : Met l yX3_commonLength (WS yX3_commonLength cX3_commonLength 4 (some .int)) RM_Na_commonLength (va_Pc [.ref a_this, .int x1] (PR D ct (w_Na_commonLength ct a_this a_odds a_lengths a_letters a_alike a_oddsTogether f_size f_fault f_lengths))) (QR (some (.int r))) 0 0 (fun _ => False) := by
  refine kMetR yn_yX3_commonLength rfl (Nat.le_of_ble_eq_true rfl) ?_
  intro p e s m args below meth c C hP ls hl
  have hl : lv_has ls 4 [(0, .ref a_this), (1, .int x1)] := hl
  obtain ⟨hx, hb, hr, hml, hown, hts, hlk, hK, hN⟩ := id C
  unfold Na_commonLength at hf
  refine lv_iconst (v := 0) hx hb dX3_commonLength_0 (by decide) ?_
  refine lv_istore_n (lv' := [(2, .int 0), (0, .ref a_this), (1, .int x1)]) hx hb dX3_commonLength_1 rfl hl (by decide) rfl (fun ls hl => ?_)
  refine lv_iconst (v := 0) hx hb dX3_commonLength_2 (by decide) ?_
  refine lv_istore_n (lv' := [(3, .int 0), (2, .int 0), (0, .ref a_this), (1, .int x1)]) hx hb dX3_commonLength_3 rfl hl (by decide) rfl (fun ls hl => ?_)
  exact t_Na_commonLength_l4 C a_this a_odds a_lengths a_letters a_alike a_oddsTogether f_fault F f_size f_lengths x1 r F 0 0 hf hP _ (lv_sub hl [2, 3, 1, 0] rfl)
def RM_Na_songByte : Room := { frames := 1, cells := 0, slots := 0, locals := 23 }
set_option maxHeartbeats 4000000 in
set_option maxRecDepth 100000 in
theorem t_Na_songByte_b41 {p : Program} {l : Launch} {e : Env} {s : State} {m : MethodId} {args : Array Value} {below : List Frame} {meth : Method} {c : Code} {D : va_G} {ct : Nat → ClassId} (C : CX p s m args meth c RX3 cX3_songByte 5 (some .int) D ct) (a_this a_odds a_lengths a_letters a_alike a_oddsTogether : Nat) (f_fault : Int32) (F : Nat) (f_size : Int32) (f_lengths : Nat → Int32) (f_alike : Nat → Int32) (x1 : Int32) (x2 : Int32) (r : Int32) : ∀ (x4 : Int32), Na_songByte_b41 F f_size f_lengths f_alike x1 x2 x4 = some r → va_P D vwCl (w_Na_songByte ct a_this a_odds a_lengths a_letters a_alike a_oddsTogether f_size f_fault f_lengths f_alike) s.heap → ∀ ls : Array Slot, lv_has ls 5 [(4, .int x4)] → W p l e RM_Na_songByte s m args below meth c s.heap [] 0 0 (MQ below (QR (some (.int r))) args s 0 0 (fun _ => False)) (F0 m 41 ls []) := by
  obtain ⟨hx, hb, hr, hml, hown, hts, hlk, hK, hN⟩ := id C
  intro x4 hf hP ls hl
  unfold Na_songByte_b41 at hf
  refine lv_bipush (v := 97) hx hb dX3_songByte_41 (by decide) ?_
  refine lv_iload hx hb dX3_songByte_43 (lv_at hl 0 rfl) ?_
  refine lv_iadd hx hb dX3_songByte_45 ?_
  have e1 := Option.some.inj hf
  subst e1
  exact kretR C dX3_songByte_46
set_option maxHeartbeats 4000000 in
set_option maxRecDepth 100000 in
theorem t_Na_songByte_b20 {p : Program} {l : Launch} {e : Env} {s : State} {m : MethodId} {args : Array Value} {below : List Frame} {meth : Method} {c : Code} {D : va_G} {ct : Nat → ClassId} (C : CX p s m args meth c RX3 cX3_songByte 5 (some .int) D ct) (a_this a_odds a_lengths a_letters a_alike a_oddsTogether : Nat) (f_fault : Int32) (F : Nat) (f_size : Int32) (f_lengths : Nat → Int32) (f_alike : Nat → Int32) (x1 : Int32) (x2 : Int32) (r : Int32) (rec20 : Int32 → Option Int32) (hr20 : ∀ (x4 : Int32), rec20 x4 = some r → va_P D vwCl (w_Na_songByte ct a_this a_odds a_lengths a_letters a_alike a_oddsTogether f_size f_fault f_lengths f_alike) s.heap → ∀ ls : Array Slot, lv_has ls 5 [(0, .ref a_this), (1, .int x1), (2, .int x2), (4, .int x4)] → W p l e RM_Na_songByte s m args below meth c s.heap [] 0 0 (MQ below (QR (some (.int r))) args s 0 0 (fun _ => False)) (F0 m 20 ls [])) : ∀ (x4 : Int32), Na_songByte_b20 F f_size f_lengths f_alike x1 x2 rec20 x4 = some r → va_P D vwCl (w_Na_songByte ct a_this a_odds a_lengths a_letters a_alike a_oddsTogether f_size f_fault f_lengths f_alike) s.heap → ∀ ls : Array Slot, lv_has ls 5 [(0, .ref a_this), (1, .int x1), (2, .int x2), (4, .int x4)] → W p l e RM_Na_songByte s m args below meth c s.heap [] 0 0 (MQ below (QR (some (.int r))) args s 0 0 (fun _ => False)) (F0 m 20 ls []) := by
  obtain ⟨hx, hb, hr, hml, hown, hts, hlk, hK, hN⟩ := id C
  intro x4 hf hP ls hl
  unfold Na_songByte_b20 at hf
  refine lv_iload hx hb dX3_songByte_20 (lv_at hl 3 rfl) ?_
  refine lv_bipush (v := 6) hx hb dX3_songByte_22 (by decide) ?_
  refine lv_icmp_ge (tgt := 53) hx hb dX3_songByte_24 (by decide) (fun hc => ?_) (fun hc => ?_)
  · have hf := kpos hc hf
    refine lv_bipush (v := 46) hx hb dX3_songByte_53 (by decide) ?_
    have e1 := Option.some.inj hf
    subst e1
    exact kretR C dX3_songByte_55
  · have hf := kneg hc hf
    refine lv_iload_n hx hb dX3_songByte_27 rfl (lv_at hl 1 rfl) ?_
    refine lv_aload_n hx hb dX3_songByte_28 rfl (lv_at hl 0 rfl) ?_
    refine lv_iload_n hx hb dX3_songByte_29 rfl (lv_at hl 2 rfl) ?_
    refine lv_iload hx hb dX3_songByte_30 (lv_at hl 3 rfl) ?_
    obtain ⟨v32, hc32, hf⟩ := cb1_some hf
    refine kcRV (q0 := 0) (ci := 3) (As := [.int x2, .int x4]) (rest := [.int x1]) (st1 := [.int v32, .int x1]) C (c_Na_soundingAt l D ct a_this a_odds a_lengths a_letters a_alike a_oddsTogether f_size f_fault f_alike x2 x4 v32 hc32) ⟨rfl, rfl⟩ yn_yX3_soundingAt tw_625 tw_626 tw_624 ⟨Nat.le_of_ble_eq_true rfl, Nat.le_of_ble_eq_true rfl⟩ ⟨Nat.zero_le _, Nat.zero_le _⟩ hP [0, 2] rfl rfl rfl rfl hl.1 rfl rfl (Nat.le_of_ble_eq_true rfl) dX3_songByte_32 rfl ?_
    refine lv_iconst (v := (-1)) hx hb dX3_songByte_35 (by decide) ?_
    refine lv_ixor hx hb dX3_songByte_36 ?_
    refine lv_iand hx hb dX3_songByte_37 ?_
    refine lv_if_ne (tgt := 47) hx hb dX3_songByte_38 (by decide) (fun hc => ?_) (fun hc => ?_)
    · have hf := kneg hc hf
      refine lv_iinc (v := x4 + 1) (lv' := [(4, .int (x4 + 1)), (0, .ref a_this), (1, .int x1), (2, .int x2)]) hx hb dX3_songByte_47 hl (k := 3) rfl rfl (by decide) rfl (fun ls hl => ?_)
      refine lv_goto (tgt := 20) hx hb dX3_songByte_50 (by decide) ?_
      exact hr20 (x4 + 1) hf hP _ (lv_sub hl [1, 2, 3, 0] rfl)
    · have hf := kpos hc hf
      exact t_Na_songByte_b41 C a_this a_odds a_lengths a_letters a_alike a_oddsTogether f_fault F f_size f_lengths f_alike x1 x2 r x4 hf hP _ (lv_sub hl [3] rfl)
set_option maxHeartbeats 4000000 in
set_option maxRecDepth 100000 in
theorem t_Na_songByte_l20 {p : Program} {l : Launch} {e : Env} {s : State} {m : MethodId} {args : Array Value} {below : List Frame} {meth : Method} {c : Code} {D : va_G} {ct : Nat → ClassId} (C : CX p s m args meth c RX3 cX3_songByte 5 (some .int) D ct) (a_this a_odds a_lengths a_letters a_alike a_oddsTogether : Nat) (f_fault : Int32) (F : Nat) (f_size : Int32) (f_lengths : Nat → Int32) (f_alike : Nat → Int32) (x1 : Int32) (x2 : Int32) (r : Int32) : ∀ (n : Nat) (x4 : Int32), Na_songByte_l20 F f_size f_lengths f_alike x1 x2 n x4 = some r → va_P D vwCl (w_Na_songByte ct a_this a_odds a_lengths a_letters a_alike a_oddsTogether f_size f_fault f_lengths f_alike) s.heap → ∀ ls : Array Slot, lv_has ls 5 [(0, .ref a_this), (1, .int x1), (2, .int x2), (4, .int x4)] → W p l e RM_Na_songByte s m args below meth c s.heap [] 0 0 (MQ below (QR (some (.int r))) args s 0 0 (fun _ => False)) (F0 m 20 ls []) := by
  intro n
  induction n with
  | zero =>
    intro x4 hf
    exact absurd hf (by simp [Na_songByte_l20])
  | succ n ih =>
    intro x4 hf
    exact t_Na_songByte_b20 C a_this a_odds a_lengths a_letters a_alike a_oddsTogether f_fault F f_size f_lengths f_alike x1 x2 r (Na_songByte_l20 F f_size f_lengths f_alike x1 x2 n) ih x4 hf
set_option maxHeartbeats 4000000 in
set_option maxRecDepth 100000 in
theorem c_Na_songByte (l : Launch) (D : va_G) (ct : Nat → ClassId) (a_this a_odds a_lengths a_letters a_alike a_oddsTogether : Nat) (f_fault : Int32) (F : Nat) (f_size : Int32) (f_lengths : Nat → Int32) (f_alike : Nat → Int32) (x1 : Int32) (x2 : Int32) (r : Int32) (hf : Na_songByte F f_size f_lengths f_alike x1 x2 = some r) : Met l yX3_songByte (WS yX3_songByte cX3_songByte 5 (some .int)) RM_Na_songByte (va_Pc [.ref a_this, .int x1, .int x2] (PR D ct (w_Na_songByte ct a_this a_odds a_lengths a_letters a_alike a_oddsTogether f_size f_fault f_lengths f_alike))) (QR (some (.int r))) 0 0 (fun _ => False) := by
  refine kMetR yn_yX3_songByte rfl (Nat.le_of_ble_eq_true rfl) ?_
  intro p e s m args below meth c C hP ls hl
  have hl : lv_has ls 5 [(0, .ref a_this), (1, .int x1), (2, .int x2)] := hl
  obtain ⟨hx, hb, hr, hml, hown, hts, hlk, hK, hN⟩ := id C
  unfold Na_songByte at hf
  refine lv_aload_n hx hb dX3_songByte_0 rfl (lv_at hl 0 rfl) ?_
  refine lv_iload_n hx hb dX3_songByte_1 rfl (lv_at hl 1 rfl) ?_
  obtain ⟨v2, hc2, hf⟩ := cb1_some hf
  refine kcRV (q0 := 0) (ci := 3) (As := [.int x1]) (rest := []) (st1 := [.int v2]) C (c_Na_commonLength l D ct a_this a_odds a_lengths a_letters a_alike a_oddsTogether f_fault F f_size f_lengths x1 v2 hc2) ⟨rfl, rfl⟩ yn_yX3_commonLength tw_810 tw_19 tw_808 ⟨Nat.le_of_ble_eq_true rfl, Nat.le_of_ble_eq_true rfl⟩ ⟨Nat.zero_le _, Nat.zero_le _⟩ hP [0, 1] rfl rfl rfl rfl hl.1 rfl rfl (Nat.le_of_ble_eq_true rfl) dX3_songByte_2 rfl ?_
  refine lv_istore_n (lv' := [(3, .int v2), (0, .ref a_this), (1, .int x1), (2, .int x2)]) hx hb dX3_songByte_5 rfl hl (by decide) rfl (fun ls hl => ?_)
  refine lv_iload_n hx hb dX3_songByte_6 rfl (lv_at hl 3 rfl) ?_
  refine lv_if_lt (tgt := 15) hx hb dX3_songByte_7 (by decide) (fun hc => ?_) (fun hc => ?_)
  · have hf := kpos hc hf
    refine lv_iconst (v := (-1)) hx hb dX3_songByte_15 (by decide) ?_
    have e1 := Option.some.inj hf
    subst e1
    exact kretR C dX3_songByte_16
  · have hf := kneg hc hf
    refine lv_iload_n hx hb dX3_songByte_10 rfl (lv_at hl 3 rfl) ?_
    refine lv_iload_n hx hb dX3_songByte_11 rfl (lv_at hl 0 rfl) ?_
    refine lv_icmp_lt (tgt := 17) hx hb dX3_songByte_12 (by decide) (fun hc => ?_) (fun hc => ?_)
    · have hf := kpos hc hf
      refine lv_iconst (v := 0) hx hb dX3_songByte_17 (by decide) ?_
      refine lv_istore (lv' := [(4, .int 0), (3, .int v2), (0, .ref a_this), (1, .int x1), (2, .int x2)]) hx hb dX3_songByte_18 hl (by decide) rfl (fun ls hl => ?_)
      exact t_Na_songByte_l20 C a_this a_odds a_lengths a_letters a_alike a_oddsTogether f_fault F f_size f_lengths f_alike x1 x2 r F 0 hf hP _ (lv_sub hl [2, 3, 4, 0] rfl)
    · have hf := kneg hc hf
      refine lv_iconst (v := (-1)) hx hb dX3_songByte_15 (by decide) ?_
      have e1 := Option.some.inj hf
      subst e1
      exact kretR C dX3_songByte_16
def RM_ND_sung : Room := { frames := 5, cells := 0, slots := 0, locals := 117 }
set_option maxHeartbeats 4000000 in
set_option maxRecDepth 100000 in
theorem c_ND_sung (l : Launch) (D : va_G) (ct : Nat → ClassId) (a_this a_texts a_names a_pieces a_song a_fitting a_deal a_guesses a_wise a_spy a_sheets a_texts0 a_texts1 a_texts2 a_texts0_bytes a_texts1_bytes a_texts2_bytes a_names_odds a_names_lengths a_names_letters a_names_alike a_names_oddsTogether a_pieces_inside a_pieces_lengths a_pieces_letters a_song_letters a_fitting_pieceFits a_fitting_inOrder : Nat) (f_finding : Int32) (F : Nat) (f_texts0_size : Int32) (f_texts0_bytes : Nat → Int32) (f_texts1_size : Int32) (f_texts1_bytes : Nat → Int32) (f_texts2_size : Int32) (f_texts2_bytes : Nat → Int32) (f_stale : Int32) (f_names_size : Int32) (f_names_fault : Int32) (f_names_odds : Nat → Int32) (f_names_lengths : Nat → Int32) (f_names_letters : Nat → Int32) (f_names_alike : Nat → Int32) (f_names_oddsTogether : Nat → Int32) (f_pieces_size : Int32) (f_pieces_fault : Int32) (f_pieces_inside : Nat → Int32) (f_pieces_lengths : Nat → Int32) (f_pieces_letters : Nat → Int32) (f_song_size : Int32) (f_song_fault : Int32) (f_song_letters : Nat → Int32) (f_fitting_pieceCount : Int32) (f_fitting_songFits : Int32) (f_fitting_allFit : Int32) (f_fitting_ordered : Int32) (f_fitting_pieceFits : Nat → Int32) (f_fitting_inOrder : Nat → Int32) (x1 : Int32) (x2 : Int32) (r : Int32) (r_stale : Int32) (r_names_size : Int32) (r_names_fault : Int32) (r_names_odds : Nat → Int32) (r_names_lengths : Nat → Int32) (r_names_letters : Nat → Int32) (r_names_alike : Nat → Int32) (r_names_oddsTogether : Nat → Int32) (r_pieces_size : Int32) (r_pieces_fault : Int32) (r_pieces_inside : Nat → Int32) (r_pieces_lengths : Nat → Int32) (r_pieces_letters : Nat → Int32) (r_song_size : Int32) (r_song_fault : Int32) (r_song_letters : Nat → Int32) (r_fitting_pieceCount : Int32) (r_fitting_songFits : Int32) (r_fitting_allFit : Int32) (r_fitting_ordered : Int32) (r_fitting_pieceFits : Nat → Int32) (r_fitting_inOrder : Nat → Int32) (sz : Nat) (hf : ND_sung F f_texts0_size f_texts0_bytes f_texts1_size f_texts1_bytes f_texts2_size f_texts2_bytes f_stale f_names_size f_names_fault f_names_odds f_names_lengths f_names_letters f_names_alike f_names_oddsTogether f_pieces_size f_pieces_fault f_pieces_inside f_pieces_lengths f_pieces_letters f_song_size f_song_fault f_song_letters f_fitting_pieceCount f_fitting_songFits f_fitting_allFit f_fitting_ordered f_fitting_pieceFits f_fitting_inOrder x1 x2 = some (r, r_stale, r_names_size, r_names_fault, r_names_odds, r_names_lengths, r_names_letters, r_names_alike, r_names_oddsTogether, r_pieces_size, r_pieces_fault, r_pieces_inside, r_pieces_lengths, r_pieces_letters, r_song_size, r_song_fault, r_song_letters, r_fitting_pieceCount, r_fitting_songFits, r_fitting_allFit, r_fitting_ordered, r_fitting_pieceFits, r_fitting_inOrder)) : Met l yX10_sung (WS yX10_sung cX10_sung 4 (some .int)) RM_ND_sung (va_Pc [.ref a_this, .int x1, .int x2] (PM D ct sz (w_ND_sung ct a_this a_texts a_names a_pieces a_song a_fitting a_deal a_guesses a_wise a_spy a_sheets a_texts0 a_texts1 a_texts2 a_texts0_bytes a_texts1_bytes a_texts2_bytes a_names_odds a_names_lengths a_names_letters a_names_alike a_names_oddsTogether a_pieces_inside a_pieces_lengths a_pieces_letters a_song_letters a_fitting_pieceFits a_fitting_inOrder f_stale f_finding f_texts0_size f_texts0_bytes f_texts1_size f_texts1_bytes f_texts2_size f_texts2_bytes f_names_size f_names_fault f_names_odds f_names_lengths f_names_letters f_names_alike f_names_oddsTogether f_pieces_size f_pieces_fault f_pieces_inside f_pieces_lengths f_pieces_letters f_song_size f_song_fault f_song_letters f_fitting_pieceCount f_fitting_songFits f_fitting_allFit f_fitting_ordered f_fitting_pieceFits f_fitting_inOrder))) (QM D (some (.int r)) (w_ND_sung ct a_this a_texts a_names a_pieces a_song a_fitting a_deal a_guesses a_wise a_spy a_sheets a_texts0 a_texts1 a_texts2 a_texts0_bytes a_texts1_bytes a_texts2_bytes a_names_odds a_names_lengths a_names_letters a_names_alike a_names_oddsTogether a_pieces_inside a_pieces_lengths a_pieces_letters a_song_letters a_fitting_pieceFits a_fitting_inOrder r_stale f_finding f_texts0_size f_texts0_bytes f_texts1_size f_texts1_bytes f_texts2_size f_texts2_bytes r_names_size r_names_fault r_names_odds r_names_lengths r_names_letters r_names_alike r_names_oddsTogether r_pieces_size r_pieces_fault r_pieces_inside r_pieces_lengths r_pieces_letters r_song_size r_song_fault r_song_letters r_fitting_pieceCount r_fitting_songFits r_fitting_allFit r_fitting_ordered r_fitting_pieceFits r_fitting_inOrder) (va_A (w_ND_sung ct a_this a_texts a_names a_pieces a_song a_fitting a_deal a_guesses a_wise a_spy a_sheets a_texts0 a_texts1 a_texts2 a_texts0_bytes a_texts1_bytes a_texts2_bytes a_names_odds a_names_lengths a_names_letters a_names_alike a_names_oddsTogether a_pieces_inside a_pieces_lengths a_pieces_letters a_song_letters a_fitting_pieceFits a_fitting_inOrder f_stale f_finding f_texts0_size f_texts0_bytes f_texts1_size f_texts1_bytes f_texts2_size f_texts2_bytes f_names_size f_names_fault f_names_odds f_names_lengths f_names_letters f_names_alike f_names_oddsTogether f_pieces_size f_pieces_fault f_pieces_inside f_pieces_lengths f_pieces_letters f_song_size f_song_fault f_song_letters f_fitting_pieceCount f_fitting_songFits f_fitting_allFit f_fitting_ordered f_fitting_pieceFits f_fitting_inOrder) sz)) 0 0 (va_A (w_ND_sung ct a_this a_texts a_names a_pieces a_song a_fitting a_deal a_guesses a_wise a_spy a_sheets a_texts0 a_texts1 a_texts2 a_texts0_bytes a_texts1_bytes a_texts2_bytes a_names_odds a_names_lengths a_names_letters a_names_alike a_names_oddsTogether a_pieces_inside a_pieces_lengths a_pieces_letters a_song_letters a_fitting_pieceFits a_fitting_inOrder f_stale f_finding f_texts0_size f_texts0_bytes f_texts1_size f_texts1_bytes f_texts2_size f_texts2_bytes f_names_size f_names_fault f_names_odds f_names_lengths f_names_letters f_names_alike f_names_oddsTogether f_pieces_size f_pieces_fault f_pieces_inside f_pieces_lengths f_pieces_letters f_song_size f_song_fault f_song_letters f_fitting_pieceCount f_fitting_songFits f_fitting_allFit f_fitting_ordered f_fitting_pieceFits f_fitting_inOrder) sz) := by
  refine kMetM yn_yX10_sung rfl (Nat.le_of_ble_eq_true rfl) ?_
  intro p e s m args below meth c A C hA hP hD ls hl
  have hl : lv_has ls 4 [(0, .ref a_this), (1, .int x1), (2, .int x2)] := hl
  have hS : va_S A s.heap s.heap [] := va_S.rf
  obtain ⟨hx, hb, hr, hml, hown, hts, hlk, hK, hN⟩ := id C
  unfold ND_sung at hf
  refine lv_iload_n hx hb dX10_sung_0 rfl (lv_at hl 1 rfl) ?_
  obtain ⟨v1, hc1, hf⟩ := cb1_some hf
  refine kcRS (As := [.int x1]) (rest := []) (st1 := [.int v1]) C (c_ND_isNameBits l D ct x1 v1 hc1) ⟨rfl, rfl⟩ yn_yX10_isNameBits tw_690 tw_689 ⟨Nat.le_of_ble_eq_true rfl, Nat.le_of_ble_eq_true rfl⟩ ⟨Nat.zero_le _, Nat.zero_le _⟩ hP [] rfl hl.1 rfl rfl (Nat.le_of_ble_eq_true rfl) dX10_sung_1 rfl ?_
  refine lv_if_eq (tgt := 17) hx hb dX10_sung_4 (by decide) (fun hc => ?_) (fun hc => ?_)
  · have hf := kpos hc hf
    refine lv_bipush (v := (-2)) hx hb dX10_sung_17 (by decide) ?_
    obtain ⟨e1, e2, e3, e4, e5, e6, e7, e8, e9, e10, e11, e12, e13, e14, e15, e16, e17, e18, e19, e20, e21, e22, e23⟩ := ti23 hf
    subst e1; subst e2; subst e3; subst e4; subst e5; subst e6; subst e7; subst e8; subst e9; subst e10; subst e11; subst e12; subst e13; subst e14; subst e15; subst e16; subst e17; subst e18; subst e19; subst e20; subst e21; subst e22; subst e23
    exact kretM C hP hD hS dX10_sung_19
  · have hf := kneg hc hf
    refine lv_iload_n hx hb dX10_sung_7 rfl (lv_at hl 2 rfl) ?_
    refine lv_if_lt (tgt := 17) hx hb dX10_sung_8 (by decide) (fun hc => ?_) (fun hc => ?_)
    · have hf := kpos hc hf
      refine lv_bipush (v := (-2)) hx hb dX10_sung_17 (by decide) ?_
      obtain ⟨e1, e2, e3, e4, e5, e6, e7, e8, e9, e10, e11, e12, e13, e14, e15, e16, e17, e18, e19, e20, e21, e22, e23⟩ := ti23 hf
      subst e1; subst e2; subst e3; subst e4; subst e5; subst e6; subst e7; subst e8; subst e9; subst e10; subst e11; subst e12; subst e13; subst e14; subst e15; subst e16; subst e17; subst e18; subst e19; subst e20; subst e21; subst e22; subst e23
      exact kretM C hP hD hS dX10_sung_19
    · have hf := kneg hc hf
      refine lv_iload_n hx hb dX10_sung_11 rfl (lv_at hl 2 rfl) ?_
      refine lv_bipush (v := 6) hx hb dX10_sung_12 (by decide) ?_
      refine lv_icmp_lt (tgt := 20) hx hb dX10_sung_14 (by decide) (fun hc => ?_) (fun hc => ?_)
      · have hf := kpos hc hf
        refine lv_aload_n hx hb dX10_sung_20 rfl (lv_at hl 0 rfl) ?_
        obtain ⟨f_stale_21, f_names_size_21, f_names_fault_21, f_names_odds_21, f_names_lengths_21, f_names_letters_21, f_names_alike_21, f_names_oddsTogether_21, f_pieces_size_21, f_pieces_fault_21, f_pieces_inside_21, f_pieces_lengths_21, f_pieces_letters_21, f_song_size_21, f_song_fault_21, f_song_letters_21, f_fitting_pieceCount_21, f_fitting_songFits_21, f_fitting_allFit_21, f_fitting_ordered_21, f_fitting_pieceFits_21, f_fitting_inOrder_21, hc21, hf⟩ := cb22_some hf
        refine kcMV (q0 := 0) (ci := 10) (As := []) (rest := []) (st1 := []) (wf := (w_ND_sung ct a_this a_texts a_names a_pieces a_song a_fitting a_deal a_guesses a_wise a_spy a_sheets a_texts0 a_texts1 a_texts2 a_texts0_bytes a_texts1_bytes a_texts2_bytes a_names_odds a_names_lengths a_names_letters a_names_alike a_names_oddsTogether a_pieces_inside a_pieces_lengths a_pieces_letters a_song_letters a_fitting_pieceFits a_fitting_inOrder f_stale_21 f_finding f_texts0_size f_texts0_bytes f_texts1_size f_texts1_bytes f_texts2_size f_texts2_bytes f_names_size_21 f_names_fault_21 f_names_odds_21 f_names_lengths_21 f_names_letters_21 f_names_alike_21 f_names_oddsTogether_21 f_pieces_size_21 f_pieces_fault_21 f_pieces_inside_21 f_pieces_lengths_21 f_pieces_letters_21 f_song_size_21 f_song_fault_21 f_song_letters_21 f_fitting_pieceCount_21 f_fitting_songFits_21 f_fitting_allFit_21 f_fitting_ordered_21 f_fitting_pieceFits_21 f_fitting_inOrder_21)) C (c_ND_refresh l D ct a_this a_texts a_names a_pieces a_song a_fitting a_deal a_guesses a_wise a_spy a_sheets a_texts0 a_texts1 a_texts2 a_texts0_bytes a_texts1_bytes a_texts2_bytes a_names_odds a_names_lengths a_names_letters a_names_alike a_names_oddsTogether a_pieces_inside a_pieces_lengths a_pieces_letters a_song_letters a_fitting_pieceFits a_fitting_inOrder f_finding F f_texts0_size f_texts0_bytes f_texts1_size f_texts1_bytes f_texts2_size f_texts2_bytes f_stale f_names_size f_names_fault f_names_odds f_names_lengths f_names_letters f_names_alike f_names_oddsTogether f_pieces_size f_pieces_fault f_pieces_inside f_pieces_lengths f_pieces_letters f_song_size f_song_fault f_song_letters f_fitting_pieceCount f_fitting_songFits f_fitting_allFit f_fitting_ordered f_fitting_pieceFits f_fitting_inOrder f_stale_21 f_names_size_21 f_names_fault_21 f_names_odds_21 f_names_lengths_21 f_names_letters_21 f_names_alike_21 f_names_oddsTogether_21 f_pieces_size_21 f_pieces_fault_21 f_pieces_inside_21 f_pieces_lengths_21 f_pieces_letters_21 f_song_size_21 f_song_fault_21 f_song_letters_21 f_fitting_pieceCount_21 f_fitting_songFits_21 f_fitting_allFit_21 f_fitting_ordered_21 f_fitting_pieceFits_21 f_fitting_inOrder_21 _ hc21) ⟨rfl, rfl⟩ yn_yX10_refresh tw_372 tw_1 tw_370 ⟨Nat.le_of_ble_eq_true rfl, Nat.le_of_ble_eq_true rfl⟩ ⟨Nat.zero_le _, Nat.zero_le _⟩ hP hD hS hA [0, 1, 2, 3, 4, 5, 6, 7, 8, 9, 10, 11, 12, 13, 14, 15, 16, 17, 18, 19, 20, 21, 22] [] [0, 1, 2, 3, 4, 5, 6, 7, 8, 9, 10, 11, 12, 13, 14, 15, 16, 17, 18, 19, 20, 21, 22] rfl rfl rfl rfl rfl (by decide) rfl rfl rfl rfl rfl rfl hl.1 rfl rfl (Nat.le_of_ble_eq_true rfl) dX10_sung_21 rfl (fun H locs hP hD hS => ?_)
        refine lv_iload_n hx hb dX10_sung_24 rfl (lv_at hl 1 rfl) ?_
        refine lv_aload_n hx hb dX10_sung_25 rfl (lv_at hl 0 rfl) ?_
        refine va_get (ci := 10) (v := .ref a_names) (C := RX10) (T := TX10) (N := 12) hx hb hts inX10 hown hK hP 0 rfl rfl 1 (by decide) (hts _ tw_283) (fun _ h9 => h9) rfl dX10_sung_26 ?_
        obtain ⟨v29, hc29, hf⟩ := cb1_some hf
        refine kcRV (q0 := 8) (ci := 3) (As := []) (rest := [.int x1]) (st1 := [.int v29, .int x1]) C (c_Na_all l D ct a_names a_names_odds a_names_lengths a_names_letters a_names_alike a_names_oddsTogether f_names_fault_21 f_names_size_21 v29 hc29) ⟨rfl, rfl⟩ yn_yX3_all tw_621 tw_622 tw_699 ⟨Nat.le_of_ble_eq_true rfl, Nat.le_of_ble_eq_true rfl⟩ ⟨Nat.zero_le _, Nat.zero_le _⟩ hP [8] rfl rfl rfl rfl hl.1 rfl rfl (Nat.le_of_ble_eq_true rfl) dX10_sung_29 rfl ?_
        refine lv_iand hx hb dX10_sung_32 ?_
        refine lv_istore_n (lv' := [(3, .int (x1 &&& v29)), (0, .ref a_this), (1, .int x1), (2, .int x2)]) hx hb dX10_sung_33 rfl hl (by decide) rfl (fun ls hl => ?_)
        refine lv_iload_n hx hb dX10_sung_34 rfl (lv_at hl 0 rfl) ?_
        refine lv_if_ne (tgt := 43) hx hb dX10_sung_35 (by decide) (fun hc => ?_) (fun hc => ?_)
        · have hf := kneg hc hf
          refine lv_aload_n hx hb dX10_sung_43 rfl (lv_at hl 1 rfl) ?_
          refine va_get (ci := 10) (v := .ref a_names) (C := RX10) (T := TX10) (N := 12) hx hb hts inX10 hown hK hP 0 rfl rfl 1 (by decide) (hts _ tw_283) (fun _ h9 => h9) rfl dX10_sung_44 ?_
          refine lv_iload_n hx hb dX10_sung_47 rfl (lv_at hl 0 rfl) ?_
          refine lv_iload_n hx hb dX10_sung_48 rfl (lv_at hl 3 rfl) ?_
          obtain ⟨v49, hc49, hf⟩ := cb1_some hf
          refine kcRV (q0 := 8) (ci := 3) (As := [.int (x1 &&& v29), .int x2]) (rest := []) (st1 := [.int v49]) C (c_Na_songByte l D ct a_names a_names_odds a_names_lengths a_names_letters a_names_alike a_names_oddsTogether f_names_fault_21 F f_names_size_21 f_names_lengths_21 f_names_alike_21 (x1 &&& v29) x2 v49 hc49) ⟨rfl, rfl⟩ yn_yX3_songByte tw_805 tw_806 tw_804 ⟨Nat.le_of_ble_eq_true rfl, Nat.le_of_ble_eq_true rfl⟩ ⟨Nat.zero_le _, Nat.zero_le _⟩ hP [8, 10, 12] rfl rfl rfl rfl hl.1 rfl rfl (Nat.le_of_ble_eq_true rfl) dX10_sung_49 rfl ?_
          obtain ⟨e1, e2, e3, e4, e5, e6, e7, e8, e9, e10, e11, e12, e13, e14, e15, e16, e17, e18, e19, e20, e21, e22, e23⟩ := ti23 hf
          subst e1; subst e2; subst e3; subst e4; subst e5; subst e6; subst e7; subst e8; subst e9; subst e10; subst e11; subst e12; subst e13; subst e14; subst e15; subst e16; subst e17; subst e18; subst e19; subst e20; subst e21; subst e22; subst e23
          exact kretM C hP hD hS dX10_sung_52
        · have hf := kpos hc hf
          refine lv_bipush (v := (-2)) hx hb dX10_sung_38 (by decide) ?_
          refine lv_goto (tgt := 52) hx hb dX10_sung_40 (by decide) ?_
          obtain ⟨e1, e2, e3, e4, e5, e6, e7, e8, e9, e10, e11, e12, e13, e14, e15, e16, e17, e18, e19, e20, e21, e22, e23⟩ := ti23 hf
          subst e1; subst e2; subst e3; subst e4; subst e5; subst e6; subst e7; subst e8; subst e9; subst e10; subst e11; subst e12; subst e13; subst e14; subst e15; subst e16; subst e17; subst e18; subst e19; subst e20; subst e21; subst e22; subst e23
          exact kretM C hP hD hS dX10_sung_52
      · have hf := kneg hc hf
        refine lv_bipush (v := (-2)) hx hb dX10_sung_17 (by decide) ?_
        obtain ⟨e1, e2, e3, e4, e5, e6, e7, e8, e9, e10, e11, e12, e13, e14, e15, e16, e17, e18, e19, e20, e21, e22, e23⟩ := ti23 hf
        subst e1; subst e2; subst e3; subst e4; subst e5; subst e6; subst e7; subst e8; subst e9; subst e10; subst e11; subst e12; subst e13; subst e14; subst e15; subst e16; subst e17; subst e18; subst e19; subst e20; subst e21; subst e22; subst e23
        exact kretM C hP hD hS dX10_sung_19
def RM_Na_oneLetterFromAny : Room := { frames := 3, cells := 0, slots := 0, locals := 69 }
set_option maxHeartbeats 4000000 in
set_option maxRecDepth 100000 in
theorem t_Na_oneLetterFromAny_b28 {p : Program} {l : Launch} {e : Env} {s : State} {m : MethodId} {args : Array Value} {below : List Frame} {meth : Method} {c : Code} {D : va_G} {ct : Nat → ClassId} (C : CX p s m args meth c RX3 cX3_oneLetterFromAny 4 (some .int) D ct) (a_this a_odds a_lengths a_letters a_alike a_oddsTogether : Nat) (f_fault : Int32) (F : Nat) (f_size : Int32) (f_lengths : Nat → Int32) (f_letters : Nat → Int32) (f_alike : Nat → Int32) (x1 : Int32) (r : Int32) (rec4 : Int32 → Int32 → Option Int32) (hr4 : ∀ (x2 : Int32) (x3 : Int32), rec4 x2 x3 = some r → va_P D vwCl (w_Na_oneLetterFromAny ct a_this a_odds a_lengths a_letters a_alike a_oddsTogether f_size f_fault f_lengths f_letters f_alike) s.heap → ∀ ls : Array Slot, lv_has ls 4 [(0, .ref a_this), (1, .int x1), (2, .int x2), (3, .int x3)] → W p l e RM_Na_oneLetterFromAny s m args below meth c s.heap [] 0 0 (MQ below (QR (some (.int r))) args s 0 0 (fun _ => False)) (F0 m 4 ls [])) : ∀ (x2 : Int32) (x3 : Int32), Na_oneLetterFromAny_b28 F f_size f_lengths f_letters f_alike x1 rec4 x2 x3 = some r → va_P D vwCl (w_Na_oneLetterFromAny ct a_this a_odds a_lengths a_letters a_alike a_oddsTogether f_size f_fault f_lengths f_letters f_alike) s.heap → ∀ ls : Array Slot, lv_has ls 4 [(0, .ref a_this), (1, .int x1), (2, .int x2), (3, .int x3)] → W p l e RM_Na_oneLetterFromAny s m args below meth c s.heap [] 0 0 (MQ below (QR (some (.int r))) args s 0 0 (fun _ => False)) (F0 m 28 ls []) := by
  obtain ⟨hx, hb, hr, hml, hown, hts, hlk, hK, hN⟩ := id C
  intro x2 x3 hf hP ls hl
  unfold Na_oneLetterFromAny_b28 at hf
  refine lv_iinc (v := x3 + 1) (lv' := [(3, .int (x3 + 1)), (0, .ref a_this), (1, .int x1), (2, .int x2)]) hx hb dX3_oneLetterFromAny_28 hl (k := 3) rfl rfl (by decide) rfl (fun ls hl => ?_)
  refine lv_goto (tgt := 4) hx hb dX3_oneLetterFromAny_31 (by decide) ?_
  exact hr4 x2 (x3 + 1) hf hP _ (lv_sub hl [1, 2, 3, 0] rfl)
set_option maxHeartbeats 4000000 in
set_option maxRecDepth 100000 in
theorem t_Na_oneLetterFromAny_b4 {p : Program} {l : Launch} {e : Env} {s : State} {m : MethodId} {args : Array Value} {below : List Frame} {meth : Method} {c : Code} {D : va_G} {ct : Nat → ClassId} (C : CX p s m args meth c RX3 cX3_oneLetterFromAny 4 (some .int) D ct) (a_this a_odds a_lengths a_letters a_alike a_oddsTogether : Nat) (f_fault : Int32) (F : Nat) (f_size : Int32) (f_lengths : Nat → Int32) (f_letters : Nat → Int32) (f_alike : Nat → Int32) (x1 : Int32) (r : Int32) (rec4 : Int32 → Int32 → Option Int32) (hr4 : ∀ (x2 : Int32) (x3 : Int32), rec4 x2 x3 = some r → va_P D vwCl (w_Na_oneLetterFromAny ct a_this a_odds a_lengths a_letters a_alike a_oddsTogether f_size f_fault f_lengths f_letters f_alike) s.heap → ∀ ls : Array Slot, lv_has ls 4 [(0, .ref a_this), (1, .int x1), (2, .int x2), (3, .int x3)] → W p l e RM_Na_oneLetterFromAny s m args below meth c s.heap [] 0 0 (MQ below (QR (some (.int r))) args s 0 0 (fun _ => False)) (F0 m 4 ls [])) : ∀ (x2 : Int32) (x3 : Int32), Na_oneLetterFromAny_b4 F f_size f_lengths f_letters f_alike x1 rec4 x2 x3 = some r → va_P D vwCl (w_Na_oneLetterFromAny ct a_this a_odds a_lengths a_letters a_alike a_oddsTogether f_size f_fault f_lengths f_letters f_alike) s.heap → ∀ ls : Array Slot, lv_has ls 4 [(0, .ref a_this), (1, .int x1), (2, .int x2), (3, .int x3)] → W p l e RM_Na_oneLetterFromAny s m args below meth c s.heap [] 0 0 (MQ below (QR (some (.int r))) args s 0 0 (fun _ => False)) (F0 m 4 ls []) := by
  obtain ⟨hx, hb, hr, hml, hown, hts, hlk, hK, hN⟩ := id C
  intro x2 x3 hf hP ls hl
  unfold Na_oneLetterFromAny_b4 at hf
  refine lv_iload_n hx hb dX3_oneLetterFromAny_4 rfl (lv_at hl 3 rfl) ?_
  refine lv_aload_n hx hb dX3_oneLetterFromAny_5 rfl (lv_at hl 0 rfl) ?_
  refine va_get (ci := 3) (v := .int f_size) (C := RX3) (T := TX3) (N := 7) hx hb hts inX3 hown hK hP 0 rfl rfl 5 (by decide) (hts _ tw_123) (fun _ h9 => h9) rfl dX3_oneLetterFromAny_6 ?_
  refine lv_icmp_ge (tgt := 34) hx hb dX3_oneLetterFromAny_9 (by decide) (fun hc => ?_) (fun hc => ?_)
  · have hf := kpos hc hf
    refine lv_iload_n hx hb dX3_oneLetterFromAny_34 rfl (lv_at hl 2 rfl) ?_
    have e1 := Option.some.inj hf
    subst e1
    exact kretR C dX3_oneLetterFromAny_35
  · have hf := kneg hc hf
    refine lv_iload_n hx hb dX3_oneLetterFromAny_12 rfl (lv_at hl 1 rfl) ?_
    refine lv_iconst (v := 1) hx hb dX3_oneLetterFromAny_13 (by decide) ?_
    refine lv_iload_n hx hb dX3_oneLetterFromAny_14 rfl (lv_at hl 3 rfl) ?_
    refine lv_ishl hx hb dX3_oneLetterFromAny_15 ?_
    refine lv_iand hx hb dX3_oneLetterFromAny_16 ?_
    refine lv_if_eq (tgt := 28) hx hb dX3_oneLetterFromAny_17 (by decide) (fun hc => ?_) (fun hc => ?_)
    · have hf := kpos hc hf
      exact t_Na_oneLetterFromAny_b28 C a_this a_odds a_lengths a_letters a_alike a_oddsTogether f_fault F f_size f_lengths f_letters f_alike x1 r rec4 hr4 x2 x3 hf hP _ (lv_sub hl [0, 1, 2, 3] rfl)
    · have hf := kneg hc hf
      refine lv_iload_n hx hb dX3_oneLetterFromAny_20 rfl (lv_at hl 2 rfl) ?_
      refine lv_aload_n hx hb dX3_oneLetterFromAny_21 rfl (lv_at hl 0 rfl) ?_
      refine lv_iload_n hx hb dX3_oneLetterFromAny_22 rfl (lv_at hl 3 rfl) ?_
      obtain ⟨v23, hc23, hf⟩ := cb1_some hf
      refine kcRV (q0 := 0) (ci := 3) (As := [.int x3]) (rest := [.int x2]) (st1 := [.int v23, .int x2]) C (c_Na_oneLetterFrom l D ct a_this a_odds a_lengths a_letters a_alike a_oddsTogether f_fault F f_size f_lengths f_letters f_alike x3 v23 hc23) ⟨rfl, rfl⟩ yn_yX3_oneLetterFrom tw_617 tw_618 tw_820 ⟨Nat.le_of_ble_eq_true rfl, Nat.le_of_ble_eq_true rfl⟩ ⟨Nat.zero_le _, Nat.zero_le _⟩ hP [0, 1, 2, 3] rfl rfl rfl rfl hl.1 rfl rfl (Nat.le_of_ble_eq_true rfl) dX3_oneLetterFromAny_23 rfl ?_
      refine lv_ior hx hb dX3_oneLetterFromAny_26 ?_
      refine lv_istore_n (lv' := [(2, .int (x2 ||| v23)), (0, .ref a_this), (1, .int x1), (3, .int x3)]) hx hb dX3_oneLetterFromAny_27 rfl hl (by decide) rfl (fun ls hl => ?_)
      exact t_Na_oneLetterFromAny_b28 C a_this a_odds a_lengths a_letters a_alike a_oddsTogether f_fault F f_size f_lengths f_letters f_alike x1 r rec4 hr4 (x2 ||| v23) x3 hf hP _ (lv_sub hl [1, 2, 0, 3] rfl)
set_option maxHeartbeats 4000000 in
set_option maxRecDepth 100000 in
theorem t_Na_oneLetterFromAny_l4 {p : Program} {l : Launch} {e : Env} {s : State} {m : MethodId} {args : Array Value} {below : List Frame} {meth : Method} {c : Code} {D : va_G} {ct : Nat → ClassId} (C : CX p s m args meth c RX3 cX3_oneLetterFromAny 4 (some .int) D ct) (a_this a_odds a_lengths a_letters a_alike a_oddsTogether : Nat) (f_fault : Int32) (F : Nat) (f_size : Int32) (f_lengths : Nat → Int32) (f_letters : Nat → Int32) (f_alike : Nat → Int32) (x1 : Int32) (r : Int32) : ∀ (n : Nat) (x2 : Int32) (x3 : Int32), Na_oneLetterFromAny_l4 F f_size f_lengths f_letters f_alike x1 n x2 x3 = some r → va_P D vwCl (w_Na_oneLetterFromAny ct a_this a_odds a_lengths a_letters a_alike a_oddsTogether f_size f_fault f_lengths f_letters f_alike) s.heap → ∀ ls : Array Slot, lv_has ls 4 [(0, .ref a_this), (1, .int x1), (2, .int x2), (3, .int x3)] → W p l e RM_Na_oneLetterFromAny s m args below meth c s.heap [] 0 0 (MQ below (QR (some (.int r))) args s 0 0 (fun _ => False)) (F0 m 4 ls []) := by
  intro n
  induction n with
  | zero =>
    intro x2 x3 hf
    exact absurd hf (by simp [Na_oneLetterFromAny_l4])
  | succ n ih =>
    intro x2 x3 hf
    exact t_Na_oneLetterFromAny_b4 C a_this a_odds a_lengths a_letters a_alike a_oddsTogether f_fault F f_size f_lengths f_letters f_alike x1 r (Na_oneLetterFromAny_l4 F f_size f_lengths f_letters f_alike x1 n) ih x2 x3 hf
set_option maxHeartbeats 4000000 in
set_option maxRecDepth 100000 in
theorem c_Na_oneLetterFromAny (l : Launch) (D : va_G) (ct : Nat → ClassId) (a_this a_odds a_lengths a_letters a_alike a_oddsTogether : Nat) (f_fault : Int32) (F : Nat) (f_size : Int32) (f_lengths : Nat → Int32) (f_letters : Nat → Int32) (f_alike : Nat → Int32) (x1 : Int32) (r : Int32) (hf : Na_oneLetterFromAny F f_size f_lengths f_letters f_alike x1 = some r) : Met l yX3_oneLetterFromAny (WS yX3_oneLetterFromAny cX3_oneLetterFromAny 4 (some .int)) RM_Na_oneLetterFromAny (va_Pc [.ref a_this, .int x1] (PR D ct (w_Na_oneLetterFromAny ct a_this a_odds a_lengths a_letters a_alike a_oddsTogether f_size f_fault f_lengths f_letters f_alike))) (QR (some (.int r))) 0 0 (fun _ => False) := by
  refine kMetR yn_yX3_oneLetterFromAny rfl (Nat.le_of_ble_eq_true rfl) ?_
  intro p e s m args below meth c C hP ls hl
  have hl : lv_has ls 4 [(0, .ref a_this), (1, .int x1)] := hl
  obtain ⟨hx, hb, hr, hml, hown, hts, hlk, hK, hN⟩ := id C
  unfold Na_oneLetterFromAny at hf
  refine lv_iconst (v := 0) hx hb dX3_oneLetterFromAny_0 (by decide) ?_
  refine lv_istore_n (lv' := [(2, .int 0), (0, .ref a_this), (1, .int x1)]) hx hb dX3_oneLetterFromAny_1 rfl hl (by decide) rfl (fun ls hl => ?_)
  refine lv_iconst (v := 0) hx hb dX3_oneLetterFromAny_2 (by decide) ?_
  refine lv_istore_n (lv' := [(3, .int 0), (2, .int 0), (0, .ref a_this), (1, .int x1)]) hx hb dX3_oneLetterFromAny_3 rfl hl (by decide) rfl (fun ls hl => ?_)
  exact t_Na_oneLetterFromAny_l4 C a_this a_odds a_lengths a_letters a_alike a_oddsTogether f_fault F f_size f_lengths f_letters f_alike x1 r F 0 0 hf hP _ (lv_sub hl [2, 3, 1, 0] rfl)
def RM_ND_changes : Room := { frames := 5, cells := 0, slots := 0, locals := 117 }
set_option maxHeartbeats 4000000 in
set_option maxRecDepth 100000 in
theorem t_ND_changes_b36 {p : Program} {l : Launch} {e : Env} {s : State} {m : MethodId} {args : Array Value} {below : List Frame} {meth : Method} {c : Code} {D : va_G} {ct : Nat → ClassId} (C : CX p s m args meth c RX10 cX10_changes 5 (some .int) D ct) {A : Nat → Prop} (hA : ∀ q : Nat, s.heap.size ≤ q → A q) (a_this a_texts a_names a_pieces a_song a_fitting a_deal a_guesses a_wise a_spy a_sheets a_texts0 a_texts1 a_texts2 a_texts0_bytes a_texts1_bytes a_texts2_bytes a_names_odds a_names_lengths a_names_letters a_names_alike a_names_oddsTogether a_pieces_inside a_pieces_lengths a_pieces_letters a_song_letters a_fitting_pieceFits a_fitting_inOrder : Nat) (f_finding : Int32) (F : Nat) (f_texts0_size : Int32) (f_texts0_bytes : Nat → Int32) (f_texts1_size : Int32) (f_texts1_bytes : Nat → Int32) (f_texts2_size : Int32) (f_texts2_bytes : Nat → Int32) (x1 : Int32) (x2 : Int32) (r : Int32) (r_stale : Int32) (r_names_size : Int32) (r_names_fault : Int32) (r_names_odds : Nat → Int32) (r_names_lengths : Nat → Int32) (r_names_letters : Nat → Int32) (r_names_alike : Nat → Int32) (r_names_oddsTogether : Nat → Int32) (r_pieces_size : Int32) (r_pieces_fault : Int32) (r_pieces_inside : Nat → Int32) (r_pieces_lengths : Nat → Int32) (r_pieces_letters : Nat → Int32) (r_song_size : Int32) (r_song_fault : Int32) (r_song_letters : Nat → Int32) (r_fitting_pieceCount : Int32) (r_fitting_songFits : Int32) (r_fitting_allFit : Int32) (r_fitting_ordered : Int32) (r_fitting_pieceFits : Nat → Int32) (r_fitting_inOrder : Nat → Int32) (rec36 : Int32 → Int32 → Int32 → Int32 → Int32 → (Nat → Int32) → (Nat → Int32) → (Nat → Int32) → (Nat → Int32) → (Nat → Int32) → Int32 → Int32 → (Nat → Int32) → (Nat → Int32) → (Nat → Int32) → Int32 → Int32 → (Nat → Int32) → Int32 → Int32 → Int32 → Int32 → (Nat → Int32) → (Nat → Int32) → Option (Int32 × Int32 × Int32 × Int32 × (Nat → Int32) × (Nat → Int32) × (Nat → Int32) × (Nat → Int32) × (Nat → Int32) × Int32 × Int32 × (Nat → Int32) × (Nat → Int32) × (Nat → Int32) × Int32 × Int32 × (Nat → Int32) × Int32 × Int32 × Int32 × Int32 × (Nat → Int32) × (Nat → Int32))) (hr36 : ∀ (x3 : Int32) (x4 : Int32) (f_stale : Int32) (f_names_size : Int32) (f_names_fault : Int32) (f_names_odds : Nat → Int32) (f_names_lengths : Nat → Int32) (f_names_letters : Nat → Int32) (f_names_alike : Nat → Int32) (f_names_oddsTogether : Nat → Int32) (f_pieces_size : Int32) (f_pieces_fault : Int32) (f_pieces_inside : Nat → Int32) (f_pieces_lengths : Nat → Int32) (f_pieces_letters : Nat → Int32) (f_song_size : Int32) (f_song_fault : Int32) (f_song_letters : Nat → Int32) (f_fitting_pieceCount : Int32) (f_fitting_songFits : Int32) (f_fitting_allFit : Int32) (f_fitting_ordered : Int32) (f_fitting_pieceFits : Nat → Int32) (f_fitting_inOrder : Nat → Int32), rec36 x3 x4 f_stale f_names_size f_names_fault f_names_odds f_names_lengths f_names_letters f_names_alike f_names_oddsTogether f_pieces_size f_pieces_fault f_pieces_inside f_pieces_lengths f_pieces_letters f_song_size f_song_fault f_song_letters f_fitting_pieceCount f_fitting_songFits f_fitting_allFit f_fitting_ordered f_fitting_pieceFits f_fitting_inOrder = some (r, r_stale, r_names_size, r_names_fault, r_names_odds, r_names_lengths, r_names_letters, r_names_alike, r_names_oddsTogether, r_pieces_size, r_pieces_fault, r_pieces_inside, r_pieces_lengths, r_pieces_letters, r_song_size, r_song_fault, r_song_letters, r_fitting_pieceCount, r_fitting_songFits, r_fitting_allFit, r_fitting_ordered, r_fitting_pieceFits, r_fitting_inOrder) → ∀ (H : Heap) (locs : List Loc), va_P D vwCl (w_ND_changes ct a_this a_texts a_names a_pieces a_song a_fitting a_deal a_guesses a_wise a_spy a_sheets a_texts0 a_texts1 a_texts2 a_texts0_bytes a_texts1_bytes a_texts2_bytes a_names_odds a_names_lengths a_names_letters a_names_alike a_names_oddsTogether a_pieces_inside a_pieces_lengths a_pieces_letters a_song_letters a_fitting_pieceFits a_fitting_inOrder f_stale f_finding f_texts0_size f_texts0_bytes f_texts1_size f_texts1_bytes f_texts2_size f_texts2_bytes f_names_size f_names_fault f_names_odds f_names_lengths f_names_letters f_names_alike f_names_oddsTogether f_pieces_size f_pieces_fault f_pieces_inside f_pieces_lengths f_pieces_letters f_song_size f_song_fault f_song_letters f_fitting_pieceCount f_fitting_songFits f_fitting_allFit f_fitting_ordered f_fitting_pieceFits f_fitting_inOrder) H → va_D A (w_ND_changes ct a_this a_texts a_names a_pieces a_song a_fitting a_deal a_guesses a_wise a_spy a_sheets a_texts0 a_texts1 a_texts2 a_texts0_bytes a_texts1_bytes a_texts2_bytes a_names_odds a_names_lengths a_names_letters a_names_alike a_names_oddsTogether a_pieces_inside a_pieces_lengths a_pieces_letters a_song_letters a_fitting_pieceFits a_fitting_inOrder f_stale f_finding f_texts0_size f_texts0_bytes f_texts1_size f_texts1_bytes f_texts2_size f_texts2_bytes f_names_size f_names_fault f_names_odds f_names_lengths f_names_letters f_names_alike f_names_oddsTogether f_pieces_size f_pieces_fault f_pieces_inside f_pieces_lengths f_pieces_letters f_song_size f_song_fault f_song_letters f_fitting_pieceCount f_fitting_songFits f_fitting_allFit f_fitting_ordered f_fitting_pieceFits f_fitting_inOrder) → va_S A s.heap H locs → ∀ ls : Array Slot, lv_has ls 5 [(0, .ref a_this), (2, .int x2), (3, .int x3), (4, .int x4)] → W p l e RM_ND_changes s m args below meth c H locs 0 0 (MQ below (QM D (some (.int r)) (w_ND_changes ct a_this a_texts a_names a_pieces a_song a_fitting a_deal a_guesses a_wise a_spy a_sheets a_texts0 a_texts1 a_texts2 a_texts0_bytes a_texts1_bytes a_texts2_bytes a_names_odds a_names_lengths a_names_letters a_names_alike a_names_oddsTogether a_pieces_inside a_pieces_lengths a_pieces_letters a_song_letters a_fitting_pieceFits a_fitting_inOrder r_stale f_finding f_texts0_size f_texts0_bytes f_texts1_size f_texts1_bytes f_texts2_size f_texts2_bytes r_names_size r_names_fault r_names_odds r_names_lengths r_names_letters r_names_alike r_names_oddsTogether r_pieces_size r_pieces_fault r_pieces_inside r_pieces_lengths r_pieces_letters r_song_size r_song_fault r_song_letters r_fitting_pieceCount r_fitting_songFits r_fitting_allFit r_fitting_ordered r_fitting_pieceFits r_fitting_inOrder) A) args s 0 0 A) (F0 m 36 ls [])) : ∀ (x3 : Int32) (x4 : Int32) (f_stale : Int32) (f_names_size : Int32) (f_names_fault : Int32) (f_names_odds : Nat → Int32) (f_names_lengths : Nat → Int32) (f_names_letters : Nat → Int32) (f_names_alike : Nat → Int32) (f_names_oddsTogether : Nat → Int32) (f_pieces_size : Int32) (f_pieces_fault : Int32) (f_pieces_inside : Nat → Int32) (f_pieces_lengths : Nat → Int32) (f_pieces_letters : Nat → Int32) (f_song_size : Int32) (f_song_fault : Int32) (f_song_letters : Nat → Int32) (f_fitting_pieceCount : Int32) (f_fitting_songFits : Int32) (f_fitting_allFit : Int32) (f_fitting_ordered : Int32) (f_fitting_pieceFits : Nat → Int32) (f_fitting_inOrder : Nat → Int32), ND_changes_b36 F f_texts0_size f_texts0_bytes f_texts1_size f_texts1_bytes f_texts2_size f_texts2_bytes x1 x2 rec36 x3 x4 f_stale f_names_size f_names_fault f_names_odds f_names_lengths f_names_letters f_names_alike f_names_oddsTogether f_pieces_size f_pieces_fault f_pieces_inside f_pieces_lengths f_pieces_letters f_song_size f_song_fault f_song_letters f_fitting_pieceCount f_fitting_songFits f_fitting_allFit f_fitting_ordered f_fitting_pieceFits f_fitting_inOrder = some (r, r_stale, r_names_size, r_names_fault, r_names_odds, r_names_lengths, r_names_letters, r_names_alike, r_names_oddsTogether, r_pieces_size, r_pieces_fault, r_pieces_inside, r_pieces_lengths, r_pieces_letters, r_song_size, r_song_fault, r_song_letters, r_fitting_pieceCount, r_fitting_songFits, r_fitting_allFit, r_fitting_ordered, r_fitting_pieceFits, r_fitting_inOrder) → ∀ (H : Heap) (locs : List Loc), va_P D vwCl (w_ND_changes ct a_this a_texts a_names a_pieces a_song a_fitting a_deal a_guesses a_wise a_spy a_sheets a_texts0 a_texts1 a_texts2 a_texts0_bytes a_texts1_bytes a_texts2_bytes a_names_odds a_names_lengths a_names_letters a_names_alike a_names_oddsTogether a_pieces_inside a_pieces_lengths a_pieces_letters a_song_letters a_fitting_pieceFits a_fitting_inOrder f_stale f_finding f_texts0_size f_texts0_bytes f_texts1_size f_texts1_bytes f_texts2_size f_texts2_bytes f_names_size f_names_fault f_names_odds f_names_lengths f_names_letters f_names_alike f_names_oddsTogether f_pieces_size f_pieces_fault f_pieces_inside f_pieces_lengths f_pieces_letters f_song_size f_song_fault f_song_letters f_fitting_pieceCount f_fitting_songFits f_fitting_allFit f_fitting_ordered f_fitting_pieceFits f_fitting_inOrder) H → va_D A (w_ND_changes ct a_this a_texts a_names a_pieces a_song a_fitting a_deal a_guesses a_wise a_spy a_sheets a_texts0 a_texts1 a_texts2 a_texts0_bytes a_texts1_bytes a_texts2_bytes a_names_odds a_names_lengths a_names_letters a_names_alike a_names_oddsTogether a_pieces_inside a_pieces_lengths a_pieces_letters a_song_letters a_fitting_pieceFits a_fitting_inOrder f_stale f_finding f_texts0_size f_texts0_bytes f_texts1_size f_texts1_bytes f_texts2_size f_texts2_bytes f_names_size f_names_fault f_names_odds f_names_lengths f_names_letters f_names_alike f_names_oddsTogether f_pieces_size f_pieces_fault f_pieces_inside f_pieces_lengths f_pieces_letters f_song_size f_song_fault f_song_letters f_fitting_pieceCount f_fitting_songFits f_fitting_allFit f_fitting_ordered f_fitting_pieceFits f_fitting_inOrder) → va_S A s.heap H locs → ∀ ls : Array Slot, lv_has ls 5 [(0, .ref a_this), (2, .int x2), (3, .int x3), (4, .int x4)] → W p l e RM_ND_changes s m args below meth c H locs 0 0 (MQ below (QM D (some (.int r)) (w_ND_changes ct a_this a_texts a_names a_pieces a_song a_fitting a_deal a_guesses a_wise a_spy a_sheets a_texts0 a_texts1 a_texts2 a_texts0_bytes a_texts1_bytes a_texts2_bytes a_names_odds a_names_lengths a_names_letters a_names_alike a_names_oddsTogether a_pieces_inside a_pieces_lengths a_pieces_letters a_song_letters a_fitting_pieceFits a_fitting_inOrder r_stale f_finding f_texts0_size f_texts0_bytes f_texts1_size f_texts1_bytes f_texts2_size f_texts2_bytes r_names_size r_names_fault r_names_odds r_names_lengths r_names_letters r_names_alike r_names_oddsTogether r_pieces_size r_pieces_fault r_pieces_inside r_pieces_lengths r_pieces_letters r_song_size r_song_fault r_song_letters r_fitting_pieceCount r_fitting_songFits r_fitting_allFit r_fitting_ordered r_fitting_pieceFits r_fitting_inOrder) A) args s 0 0 A) (F0 m 36 ls []) := by
  obtain ⟨hx, hb, hr, hml, hown, hts, hlk, hK, hN⟩ := id C
  intro x3 x4 f_stale f_names_size f_names_fault f_names_odds f_names_lengths f_names_letters f_names_alike f_names_oddsTogether f_pieces_size f_pieces_fault f_pieces_inside f_pieces_lengths f_pieces_letters f_song_size f_song_fault f_song_letters f_fitting_pieceCount f_fitting_songFits f_fitting_allFit f_fitting_ordered f_fitting_pieceFits f_fitting_inOrder hf H locs hP hD hS ls hl
  unfold ND_changes_b36 at hf
  refine lv_iload hx hb dX10_changes_36 (lv_at hl 3 rfl) ?_
  refine lv_bipush (v := 10) hx hb dX10_changes_38 (by decide) ?_
  refine lv_icmp_ge (tgt := 71) hx hb dX10_changes_40 (by decide) (fun hc => ?_) (fun hc => ?_)
  · have hf := kpos hc hf
    refine lv_iconst (v := (-1)) hx hb dX10_changes_71 (by decide) ?_
    obtain ⟨e1, e2, e3, e4, e5, e6, e7, e8, e9, e10, e11, e12, e13, e14, e15, e16, e17, e18, e19, e20, e21, e22, e23⟩ := ti23 hf
    subst e1; subst e2; subst e3; subst e4; subst e5; subst e6; subst e7; subst e8; subst e9; subst e10; subst e11; subst e12; subst e13; subst e14; subst e15; subst e16; subst e17; subst e18; subst e19; subst e20; subst e21; subst e22; subst e23
    exact kretM C hP hD hS dX10_changes_72
  · have hf := kneg hc hf
    refine lv_iload_n hx hb dX10_changes_43 rfl (lv_at hl 2 rfl) ?_
    refine lv_iconst (v := 1) hx hb dX10_changes_44 (by decide) ?_
    refine lv_iload_n hx hb dX10_changes_45 rfl (lv_at hl 1 rfl) ?_
    refine lv_ishl hx hb dX10_changes_46 ?_
    refine lv_iand hx hb dX10_changes_47 ?_
    refine lv_if_eq (tgt := 54) hx hb dX10_changes_48 (by decide) (fun hc => ?_) (fun hc => ?_)
    · have hf := kpos hc hf
      refine lv_iload_n hx hb dX10_changes_54 rfl (lv_at hl 2 rfl) ?_
      refine lv_aload_n hx hb dX10_changes_55 rfl (lv_at hl 0 rfl) ?_
      refine va_get (ci := 10) (v := .ref a_names) (C := RX10) (T := TX10) (N := 12) hx hb hts inX10 hown hK hP 0 rfl rfl 1 (by decide) (hts _ tw_283) (fun _ h9 => h9) rfl dX10_changes_56 ?_
      refine lv_iload_n hx hb dX10_changes_59 rfl (lv_at hl 2 rfl) ?_
      obtain ⟨v60, hc60, hf⟩ := cb1_some hf
      refine kcRV (q0 := 8) (ci := 3) (As := [.int x3]) (rest := [.int x3]) (st1 := [.int v60, .int x3]) C (c_Na_oneLetterFromAny l D ct a_names a_names_odds a_names_lengths a_names_letters a_names_alike a_names_oddsTogether f_names_fault F f_names_size f_names_lengths f_names_letters f_names_alike x3 v60 hc60) ⟨rfl, rfl⟩ yn_yX3_oneLetterFromAny tw_817 tw_818 tw_816 ⟨Nat.le_of_ble_eq_true rfl, Nat.le_of_ble_eq_true rfl⟩ ⟨Nat.zero_le _, Nat.zero_le _⟩ hP [8, 10, 11, 12] rfl rfl rfl rfl hl.1 rfl rfl (Nat.le_of_ble_eq_true rfl) dX10_changes_60 rfl ?_
      refine lv_ior hx hb dX10_changes_63 ?_
      refine lv_istore_n (lv' := [(3, .int (x3 ||| v60)), (0, .ref a_this), (2, .int x2), (4, .int x4)]) hx hb dX10_changes_64 rfl hl (by decide) rfl (fun ls hl => ?_)
      refine lv_iinc (v := x4 + 1) (lv' := [(4, .int (x4 + 1)), (3, .int (x3 ||| v60)), (0, .ref a_this), (2, .int x2)]) hx hb dX10_changes_65 hl (k := 3) rfl rfl (by decide) rfl (fun ls hl => ?_)
      refine lv_goto (tgt := 36) hx hb dX10_changes_68 (by decide) ?_
      exact hr36 (x3 ||| v60) (x4 + 1) f_stale f_names_size f_names_fault f_names_odds f_names_lengths f_names_letters f_names_alike f_names_oddsTogether f_pieces_size f_pieces_fault f_pieces_inside f_pieces_lengths f_pieces_letters f_song_size f_song_fault f_song_letters f_fitting_pieceCount f_fitting_songFits f_fitting_allFit f_fitting_ordered f_fitting_pieceFits f_fitting_inOrder hf _ _ hP hD hS _ (lv_sub hl [2, 3, 1, 0] rfl)
    · have hf := kneg hc hf
      refine lv_iload hx hb dX10_changes_51 (lv_at hl 3 rfl) ?_
      obtain ⟨e1, e2, e3, e4, e5, e6, e7, e8, e9, e10, e11, e12, e13, e14, e15, e16, e17, e18, e19, e20, e21, e22, e23⟩ := ti23 hf
      subst e1; subst e2; subst e3; subst e4; subst e5; subst e6; subst e7; subst e8; subst e9; subst e10; subst e11; subst e12; subst e13; subst e14; subst e15; subst e16; subst e17; subst e18; subst e19; subst e20; subst e21; subst e22; subst e23
      exact kretM C hP hD hS dX10_changes_53
set_option maxHeartbeats 4000000 in
set_option maxRecDepth 100000 in
theorem t_ND_changes_l36 {p : Program} {l : Launch} {e : Env} {s : State} {m : MethodId} {args : Array Value} {below : List Frame} {meth : Method} {c : Code} {D : va_G} {ct : Nat → ClassId} (C : CX p s m args meth c RX10 cX10_changes 5 (some .int) D ct) {A : Nat → Prop} (hA : ∀ q : Nat, s.heap.size ≤ q → A q) (a_this a_texts a_names a_pieces a_song a_fitting a_deal a_guesses a_wise a_spy a_sheets a_texts0 a_texts1 a_texts2 a_texts0_bytes a_texts1_bytes a_texts2_bytes a_names_odds a_names_lengths a_names_letters a_names_alike a_names_oddsTogether a_pieces_inside a_pieces_lengths a_pieces_letters a_song_letters a_fitting_pieceFits a_fitting_inOrder : Nat) (f_finding : Int32) (F : Nat) (f_texts0_size : Int32) (f_texts0_bytes : Nat → Int32) (f_texts1_size : Int32) (f_texts1_bytes : Nat → Int32) (f_texts2_size : Int32) (f_texts2_bytes : Nat → Int32) (x1 : Int32) (x2 : Int32) (r : Int32) (r_stale : Int32) (r_names_size : Int32) (r_names_fault : Int32) (r_names_odds : Nat → Int32) (r_names_lengths : Nat → Int32) (r_names_letters : Nat → Int32) (r_names_alike : Nat → Int32) (r_names_oddsTogether : Nat → Int32) (r_pieces_size : Int32) (r_pieces_fault : Int32) (r_pieces_inside : Nat → Int32) (r_pieces_lengths : Nat → Int32) (r_pieces_letters : Nat → Int32) (r_song_size : Int32) (r_song_fault : Int32) (r_song_letters : Nat → Int32) (r_fitting_pieceCount : Int32) (r_fitting_songFits : Int32) (r_fitting_allFit : Int32) (r_fitting_ordered : Int32) (r_fitting_pieceFits : Nat → Int32) (r_fitting_inOrder : Nat → Int32) : ∀ (n : Nat) (x3 : Int32) (x4 : Int32) (f_stale : Int32) (f_names_size : Int32) (f_names_fault : Int32) (f_names_odds : Nat → Int32) (f_names_lengths : Nat → Int32) (f_names_letters : Nat → Int32) (f_names_alike : Nat → Int32) (f_names_oddsTogether : Nat → Int32) (f_pieces_size : Int32) (f_pieces_fault : Int32) (f_pieces_inside : Nat → Int32) (f_pieces_lengths : Nat → Int32) (f_pieces_letters : Nat → Int32) (f_song_size : Int32) (f_song_fault : Int32) (f_song_letters : Nat → Int32) (f_fitting_pieceCount : Int32) (f_fitting_songFits : Int32) (f_fitting_allFit : Int32) (f_fitting_ordered : Int32) (f_fitting_pieceFits : Nat → Int32) (f_fitting_inOrder : Nat → Int32), ND_changes_l36 F f_texts0_size f_texts0_bytes f_texts1_size f_texts1_bytes f_texts2_size f_texts2_bytes x1 x2 n x3 x4 f_stale f_names_size f_names_fault f_names_odds f_names_lengths f_names_letters f_names_alike f_names_oddsTogether f_pieces_size f_pieces_fault f_pieces_inside f_pieces_lengths f_pieces_letters f_song_size f_song_fault f_song_letters f_fitting_pieceCount f_fitting_songFits f_fitting_allFit f_fitting_ordered f_fitting_pieceFits f_fitting_inOrder = some (r, r_stale, r_names_size, r_names_fault, r_names_odds, r_names_lengths, r_names_letters, r_names_alike, r_names_oddsTogether, r_pieces_size, r_pieces_fault, r_pieces_inside, r_pieces_lengths, r_pieces_letters, r_song_size, r_song_fault, r_song_letters, r_fitting_pieceCount, r_fitting_songFits, r_fitting_allFit, r_fitting_ordered, r_fitting_pieceFits, r_fitting_inOrder) → ∀ (H : Heap) (locs : List Loc), va_P D vwCl (w_ND_changes ct a_this a_texts a_names a_pieces a_song a_fitting a_deal a_guesses a_wise a_spy a_sheets a_texts0 a_texts1 a_texts2 a_texts0_bytes a_texts1_bytes a_texts2_bytes a_names_odds a_names_lengths a_names_letters a_names_alike a_names_oddsTogether a_pieces_inside a_pieces_lengths a_pieces_letters a_song_letters a_fitting_pieceFits a_fitting_inOrder f_stale f_finding f_texts0_size f_texts0_bytes f_texts1_size f_texts1_bytes f_texts2_size f_texts2_bytes f_names_size f_names_fault f_names_odds f_names_lengths f_names_letters f_names_alike f_names_oddsTogether f_pieces_size f_pieces_fault f_pieces_inside f_pieces_lengths f_pieces_letters f_song_size f_song_fault f_song_letters f_fitting_pieceCount f_fitting_songFits f_fitting_allFit f_fitting_ordered f_fitting_pieceFits f_fitting_inOrder) H → va_D A (w_ND_changes ct a_this a_texts a_names a_pieces a_song a_fitting a_deal a_guesses a_wise a_spy a_sheets a_texts0 a_texts1 a_texts2 a_texts0_bytes a_texts1_bytes a_texts2_bytes a_names_odds a_names_lengths a_names_letters a_names_alike a_names_oddsTogether a_pieces_inside a_pieces_lengths a_pieces_letters a_song_letters a_fitting_pieceFits a_fitting_inOrder f_stale f_finding f_texts0_size f_texts0_bytes f_texts1_size f_texts1_bytes f_texts2_size f_texts2_bytes f_names_size f_names_fault f_names_odds f_names_lengths f_names_letters f_names_alike f_names_oddsTogether f_pieces_size f_pieces_fault f_pieces_inside f_pieces_lengths f_pieces_letters f_song_size f_song_fault f_song_letters f_fitting_pieceCount f_fitting_songFits f_fitting_allFit f_fitting_ordered f_fitting_pieceFits f_fitting_inOrder) → va_S A s.heap H locs → ∀ ls : Array Slot, lv_has ls 5 [(0, .ref a_this), (2, .int x2), (3, .int x3), (4, .int x4)] → W p l e RM_ND_changes s m args below meth c H locs 0 0 (MQ below (QM D (some (.int r)) (w_ND_changes ct a_this a_texts a_names a_pieces a_song a_fitting a_deal a_guesses a_wise a_spy a_sheets a_texts0 a_texts1 a_texts2 a_texts0_bytes a_texts1_bytes a_texts2_bytes a_names_odds a_names_lengths a_names_letters a_names_alike a_names_oddsTogether a_pieces_inside a_pieces_lengths a_pieces_letters a_song_letters a_fitting_pieceFits a_fitting_inOrder r_stale f_finding f_texts0_size f_texts0_bytes f_texts1_size f_texts1_bytes f_texts2_size f_texts2_bytes r_names_size r_names_fault r_names_odds r_names_lengths r_names_letters r_names_alike r_names_oddsTogether r_pieces_size r_pieces_fault r_pieces_inside r_pieces_lengths r_pieces_letters r_song_size r_song_fault r_song_letters r_fitting_pieceCount r_fitting_songFits r_fitting_allFit r_fitting_ordered r_fitting_pieceFits r_fitting_inOrder) A) args s 0 0 A) (F0 m 36 ls []) := by
  intro n
  induction n with
  | zero =>
    intro x3 x4 f_stale f_names_size f_names_fault f_names_odds f_names_lengths f_names_letters f_names_alike f_names_oddsTogether f_pieces_size f_pieces_fault f_pieces_inside f_pieces_lengths f_pieces_letters f_song_size f_song_fault f_song_letters f_fitting_pieceCount f_fitting_songFits f_fitting_allFit f_fitting_ordered f_fitting_pieceFits f_fitting_inOrder hf
    exact absurd hf (by simp [ND_changes_l36])
  | succ n ih =>
    intro x3 x4 f_stale f_names_size f_names_fault f_names_odds f_names_lengths f_names_letters f_names_alike f_names_oddsTogether f_pieces_size f_pieces_fault f_pieces_inside f_pieces_lengths f_pieces_letters f_song_size f_song_fault f_song_letters f_fitting_pieceCount f_fitting_songFits f_fitting_allFit f_fitting_ordered f_fitting_pieceFits f_fitting_inOrder hf
    exact t_ND_changes_b36 C hA a_this a_texts a_names a_pieces a_song a_fitting a_deal a_guesses a_wise a_spy a_sheets a_texts0 a_texts1 a_texts2 a_texts0_bytes a_texts1_bytes a_texts2_bytes a_names_odds a_names_lengths a_names_letters a_names_alike a_names_oddsTogether a_pieces_inside a_pieces_lengths a_pieces_letters a_song_letters a_fitting_pieceFits a_fitting_inOrder f_finding F f_texts0_size f_texts0_bytes f_texts1_size f_texts1_bytes f_texts2_size f_texts2_bytes x1 x2 r r_stale r_names_size r_names_fault r_names_odds r_names_lengths r_names_letters r_names_alike r_names_oddsTogether r_pieces_size r_pieces_fault r_pieces_inside r_pieces_lengths r_pieces_letters r_song_size r_song_fault r_song_letters r_fitting_pieceCount r_fitting_songFits r_fitting_allFit r_fitting_ordered r_fitting_pieceFits r_fitting_inOrder (ND_changes_l36 F f_texts0_size f_texts0_bytes f_texts1_size f_texts1_bytes f_texts2_size f_texts2_bytes x1 x2 n) ih x3 x4 f_stale f_names_size f_names_fault f_names_odds f_names_lengths f_names_letters f_names_alike f_names_oddsTogether f_pieces_size f_pieces_fault f_pieces_inside f_pieces_lengths f_pieces_letters f_song_size f_song_fault f_song_letters f_fitting_pieceCount f_fitting_songFits f_fitting_allFit f_fitting_ordered f_fitting_pieceFits f_fitting_inOrder hf
set_option maxHeartbeats 4000000 in
set_option maxRecDepth 100000 in
theorem c_ND_changes (l : Launch) (D : va_G) (ct : Nat → ClassId) (a_this a_texts a_names a_pieces a_song a_fitting a_deal a_guesses a_wise a_spy a_sheets a_texts0 a_texts1 a_texts2 a_texts0_bytes a_texts1_bytes a_texts2_bytes a_names_odds a_names_lengths a_names_letters a_names_alike a_names_oddsTogether a_pieces_inside a_pieces_lengths a_pieces_letters a_song_letters a_fitting_pieceFits a_fitting_inOrder : Nat) (f_finding : Int32) (F : Nat) (f_texts0_size : Int32) (f_texts0_bytes : Nat → Int32) (f_texts1_size : Int32) (f_texts1_bytes : Nat → Int32) (f_texts2_size : Int32) (f_texts2_bytes : Nat → Int32) (f_stale : Int32) (f_names_size : Int32) (f_names_fault : Int32) (f_names_odds : Nat → Int32) (f_names_lengths : Nat → Int32) (f_names_letters : Nat → Int32) (f_names_alike : Nat → Int32) (f_names_oddsTogether : Nat → Int32) (f_pieces_size : Int32) (f_pieces_fault : Int32) (f_pieces_inside : Nat → Int32) (f_pieces_lengths : Nat → Int32) (f_pieces_letters : Nat → Int32) (f_song_size : Int32) (f_song_fault : Int32) (f_song_letters : Nat → Int32) (f_fitting_pieceCount : Int32) (f_fitting_songFits : Int32) (f_fitting_allFit : Int32) (f_fitting_ordered : Int32) (f_fitting_pieceFits : Nat → Int32) (f_fitting_inOrder : Nat → Int32) (x1 : Int32) (x2 : Int32) (r : Int32) (r_stale : Int32) (r_names_size : Int32) (r_names_fault : Int32) (r_names_odds : Nat → Int32) (r_names_lengths : Nat → Int32) (r_names_letters : Nat → Int32) (r_names_alike : Nat → Int32) (r_names_oddsTogether : Nat → Int32) (r_pieces_size : Int32) (r_pieces_fault : Int32) (r_pieces_inside : Nat → Int32) (r_pieces_lengths : Nat → Int32) (r_pieces_letters : Nat → Int32) (r_song_size : Int32) (r_song_fault : Int32) (r_song_letters : Nat → Int32) (r_fitting_pieceCount : Int32) (r_fitting_songFits : Int32) (r_fitting_allFit : Int32) (r_fitting_ordered : Int32) (r_fitting_pieceFits : Nat → Int32) (r_fitting_inOrder : Nat → Int32) (sz : Nat) (hf : ND_changes F f_texts0_size f_texts0_bytes f_texts1_size f_texts1_bytes f_texts2_size f_texts2_bytes f_stale f_names_size f_names_fault f_names_odds f_names_lengths f_names_letters f_names_alike f_names_oddsTogether f_pieces_size f_pieces_fault f_pieces_inside f_pieces_lengths f_pieces_letters f_song_size f_song_fault f_song_letters f_fitting_pieceCount f_fitting_songFits f_fitting_allFit f_fitting_ordered f_fitting_pieceFits f_fitting_inOrder x1 x2 = some (r, r_stale, r_names_size, r_names_fault, r_names_odds, r_names_lengths, r_names_letters, r_names_alike, r_names_oddsTogether, r_pieces_size, r_pieces_fault, r_pieces_inside, r_pieces_lengths, r_pieces_letters, r_song_size, r_song_fault, r_song_letters, r_fitting_pieceCount, r_fitting_songFits, r_fitting_allFit, r_fitting_ordered, r_fitting_pieceFits, r_fitting_inOrder)) : Met l yX10_changes (WS yX10_changes cX10_changes 5 (some .int)) RM_ND_changes (va_Pc [.ref a_this, .int x1, .int x2] (PM D ct sz (w_ND_changes ct a_this a_texts a_names a_pieces a_song a_fitting a_deal a_guesses a_wise a_spy a_sheets a_texts0 a_texts1 a_texts2 a_texts0_bytes a_texts1_bytes a_texts2_bytes a_names_odds a_names_lengths a_names_letters a_names_alike a_names_oddsTogether a_pieces_inside a_pieces_lengths a_pieces_letters a_song_letters a_fitting_pieceFits a_fitting_inOrder f_stale f_finding f_texts0_size f_texts0_bytes f_texts1_size f_texts1_bytes f_texts2_size f_texts2_bytes f_names_size f_names_fault f_names_odds f_names_lengths f_names_letters f_names_alike f_names_oddsTogether f_pieces_size f_pieces_fault f_pieces_inside f_pieces_lengths f_pieces_letters f_song_size f_song_fault f_song_letters f_fitting_pieceCount f_fitting_songFits f_fitting_allFit f_fitting_ordered f_fitting_pieceFits f_fitting_inOrder))) (QM D (some (.int r)) (w_ND_changes ct a_this a_texts a_names a_pieces a_song a_fitting a_deal a_guesses a_wise a_spy a_sheets a_texts0 a_texts1 a_texts2 a_texts0_bytes a_texts1_bytes a_texts2_bytes a_names_odds a_names_lengths a_names_letters a_names_alike a_names_oddsTogether a_pieces_inside a_pieces_lengths a_pieces_letters a_song_letters a_fitting_pieceFits a_fitting_inOrder r_stale f_finding f_texts0_size f_texts0_bytes f_texts1_size f_texts1_bytes f_texts2_size f_texts2_bytes r_names_size r_names_fault r_names_odds r_names_lengths r_names_letters r_names_alike r_names_oddsTogether r_pieces_size r_pieces_fault r_pieces_inside r_pieces_lengths r_pieces_letters r_song_size r_song_fault r_song_letters r_fitting_pieceCount r_fitting_songFits r_fitting_allFit r_fitting_ordered r_fitting_pieceFits r_fitting_inOrder) (va_A (w_ND_changes ct a_this a_texts a_names a_pieces a_song a_fitting a_deal a_guesses a_wise a_spy a_sheets a_texts0 a_texts1 a_texts2 a_texts0_bytes a_texts1_bytes a_texts2_bytes a_names_odds a_names_lengths a_names_letters a_names_alike a_names_oddsTogether a_pieces_inside a_pieces_lengths a_pieces_letters a_song_letters a_fitting_pieceFits a_fitting_inOrder f_stale f_finding f_texts0_size f_texts0_bytes f_texts1_size f_texts1_bytes f_texts2_size f_texts2_bytes f_names_size f_names_fault f_names_odds f_names_lengths f_names_letters f_names_alike f_names_oddsTogether f_pieces_size f_pieces_fault f_pieces_inside f_pieces_lengths f_pieces_letters f_song_size f_song_fault f_song_letters f_fitting_pieceCount f_fitting_songFits f_fitting_allFit f_fitting_ordered f_fitting_pieceFits f_fitting_inOrder) sz)) 0 0 (va_A (w_ND_changes ct a_this a_texts a_names a_pieces a_song a_fitting a_deal a_guesses a_wise a_spy a_sheets a_texts0 a_texts1 a_texts2 a_texts0_bytes a_texts1_bytes a_texts2_bytes a_names_odds a_names_lengths a_names_letters a_names_alike a_names_oddsTogether a_pieces_inside a_pieces_lengths a_pieces_letters a_song_letters a_fitting_pieceFits a_fitting_inOrder f_stale f_finding f_texts0_size f_texts0_bytes f_texts1_size f_texts1_bytes f_texts2_size f_texts2_bytes f_names_size f_names_fault f_names_odds f_names_lengths f_names_letters f_names_alike f_names_oddsTogether f_pieces_size f_pieces_fault f_pieces_inside f_pieces_lengths f_pieces_letters f_song_size f_song_fault f_song_letters f_fitting_pieceCount f_fitting_songFits f_fitting_allFit f_fitting_ordered f_fitting_pieceFits f_fitting_inOrder) sz) := by
  refine kMetM yn_yX10_changes rfl (Nat.le_of_ble_eq_true rfl) ?_
  intro p e s m args below meth c A C hA hP hD ls hl
  have hl : lv_has ls 5 [(0, .ref a_this), (1, .int x1), (2, .int x2)] := hl
  have hS : va_S A s.heap s.heap [] := va_S.rf
  obtain ⟨hx, hb, hr, hml, hown, hts, hlk, hK, hN⟩ := id C
  unfold ND_changes at hf
  refine lv_aload_n hx hb dX10_changes_0 rfl (lv_at hl 0 rfl) ?_
  obtain ⟨f_stale_1, f_names_size_1, f_names_fault_1, f_names_odds_1, f_names_lengths_1, f_names_letters_1, f_names_alike_1, f_names_oddsTogether_1, f_pieces_size_1, f_pieces_fault_1, f_pieces_inside_1, f_pieces_lengths_1, f_pieces_letters_1, f_song_size_1, f_song_fault_1, f_song_letters_1, f_fitting_pieceCount_1, f_fitting_songFits_1, f_fitting_allFit_1, f_fitting_ordered_1, f_fitting_pieceFits_1, f_fitting_inOrder_1, hc1, hf⟩ := cb22_some hf
  refine kcMV (q0 := 0) (ci := 10) (As := []) (rest := []) (st1 := []) (wf := (w_ND_changes ct a_this a_texts a_names a_pieces a_song a_fitting a_deal a_guesses a_wise a_spy a_sheets a_texts0 a_texts1 a_texts2 a_texts0_bytes a_texts1_bytes a_texts2_bytes a_names_odds a_names_lengths a_names_letters a_names_alike a_names_oddsTogether a_pieces_inside a_pieces_lengths a_pieces_letters a_song_letters a_fitting_pieceFits a_fitting_inOrder f_stale_1 f_finding f_texts0_size f_texts0_bytes f_texts1_size f_texts1_bytes f_texts2_size f_texts2_bytes f_names_size_1 f_names_fault_1 f_names_odds_1 f_names_lengths_1 f_names_letters_1 f_names_alike_1 f_names_oddsTogether_1 f_pieces_size_1 f_pieces_fault_1 f_pieces_inside_1 f_pieces_lengths_1 f_pieces_letters_1 f_song_size_1 f_song_fault_1 f_song_letters_1 f_fitting_pieceCount_1 f_fitting_songFits_1 f_fitting_allFit_1 f_fitting_ordered_1 f_fitting_pieceFits_1 f_fitting_inOrder_1)) C (c_ND_refresh l D ct a_this a_texts a_names a_pieces a_song a_fitting a_deal a_guesses a_wise a_spy a_sheets a_texts0 a_texts1 a_texts2 a_texts0_bytes a_texts1_bytes a_texts2_bytes a_names_odds a_names_lengths a_names_letters a_names_alike a_names_oddsTogether a_pieces_inside a_pieces_lengths a_pieces_letters a_song_letters a_fitting_pieceFits a_fitting_inOrder f_finding F f_texts0_size f_texts0_bytes f_texts1_size f_texts1_bytes f_texts2_size f_texts2_bytes f_stale f_names_size f_names_fault f_names_odds f_names_lengths f_names_letters f_names_alike f_names_oddsTogether f_pieces_size f_pieces_fault f_pieces_inside f_pieces_lengths f_pieces_letters f_song_size f_song_fault f_song_letters f_fitting_pieceCount f_fitting_songFits f_fitting_allFit f_fitting_ordered f_fitting_pieceFits f_fitting_inOrder f_stale_1 f_names_size_1 f_names_fault_1 f_names_odds_1 f_names_lengths_1 f_names_letters_1 f_names_alike_1 f_names_oddsTogether_1 f_pieces_size_1 f_pieces_fault_1 f_pieces_inside_1 f_pieces_lengths_1 f_pieces_letters_1 f_song_size_1 f_song_fault_1 f_song_letters_1 f_fitting_pieceCount_1 f_fitting_songFits_1 f_fitting_allFit_1 f_fitting_ordered_1 f_fitting_pieceFits_1 f_fitting_inOrder_1 _ hc1) ⟨rfl, rfl⟩ yn_yX10_refresh tw_372 tw_1 tw_370 ⟨Nat.le_of_ble_eq_true rfl, Nat.le_of_ble_eq_true rfl⟩ ⟨Nat.zero_le _, Nat.zero_le _⟩ hP hD hS hA [0, 1, 2, 3, 4, 5, 6, 7, 8, 9, 10, 11, 12, 13, 14, 15, 16, 17, 18, 19, 20, 21, 22] [] [0, 1, 2, 3, 4, 5, 6, 7, 8, 9, 10, 11, 12, 13, 14, 15, 16, 17, 18, 19, 20, 21, 22] rfl rfl rfl rfl rfl (by decide) rfl rfl rfl rfl rfl rfl hl.1 rfl rfl (Nat.le_of_ble_eq_true rfl) dX10_changes_1 rfl (fun H locs hP hD hS => ?_)
  refine lv_aload_n hx hb dX10_changes_4 rfl (lv_at hl 0 rfl) ?_
  refine va_get (ci := 10) (v := .ref a_names) (C := RX10) (T := TX10) (N := 12) hx hb hts inX10 hown hK hP 0 rfl rfl 1 (by decide) (hts _ tw_283) (fun _ h9 => h9) rfl dX10_changes_5 ?_
  refine lv_iload_n hx hb dX10_changes_8 rfl (lv_at hl 1 rfl) ?_
  obtain ⟨v9, hc9, hf⟩ := cb1_some hf
  refine kcRV (q0 := 8) (ci := 3) (As := [.int x1]) (rest := []) (st1 := [.int v9]) C (c_Na_has l D ct a_names a_names_odds a_names_lengths a_names_letters a_names_alike a_names_oddsTogether f_names_fault_1 f_names_size_1 x1 v9 hc9) ⟨rfl, rfl⟩ yn_yX3_has tw_495 tw_496 tw_494 ⟨Nat.le_of_ble_eq_true rfl, Nat.le_of_ble_eq_true rfl⟩ ⟨Nat.zero_le _, Nat.zero_le _⟩ hP [8] rfl rfl rfl rfl hl.1 rfl rfl (Nat.le_of_ble_eq_true rfl) dX10_changes_9 rfl ?_
  refine lv_if_eq (tgt := 26) hx hb dX10_changes_12 (by decide) (fun hc => ?_) (fun hc => ?_)
  · have hf := kpos hc hf
    refine lv_bipush (v := (-2)) hx hb dX10_changes_26 (by decide) ?_
    obtain ⟨e1, e2, e3, e4, e5, e6, e7, e8, e9, e10, e11, e12, e13, e14, e15, e16, e17, e18, e19, e20, e21, e22, e23⟩ := ti23 hf
    subst e1; subst e2; subst e3; subst e4; subst e5; subst e6; subst e7; subst e8; subst e9; subst e10; subst e11; subst e12; subst e13; subst e14; subst e15; subst e16; subst e17; subst e18; subst e19; subst e20; subst e21; subst e22; subst e23
    exact kretM C hP hD hS dX10_changes_28
  · have hf := kneg hc hf
    refine lv_aload_n hx hb dX10_changes_15 rfl (lv_at hl 0 rfl) ?_
    refine va_get (ci := 10) (v := .ref a_names) (C := RX10) (T := TX10) (N := 12) hx hb hts inX10 hown hK hP 0 rfl rfl 1 (by decide) (hts _ tw_283) (fun _ h9 => h9) rfl dX10_changes_16 ?_
    refine lv_iload_n hx hb dX10_changes_19 rfl (lv_at hl 2 rfl) ?_
    obtain ⟨v20, hc20, hf⟩ := cb1_some hf
    refine kcRV (q0 := 8) (ci := 3) (As := [.int x2]) (rest := []) (st1 := [.int v20]) C (c_Na_has l D ct a_names a_names_odds a_names_lengths a_names_letters a_names_alike a_names_oddsTogether f_names_fault_1 f_names_size_1 x2 v20 hc20) ⟨rfl, rfl⟩ yn_yX3_has tw_495 tw_496 tw_494 ⟨Nat.le_of_ble_eq_true rfl, Nat.le_of_ble_eq_true rfl⟩ ⟨Nat.zero_le _, Nat.zero_le _⟩ hP [8] rfl rfl rfl rfl hl.1 rfl rfl (Nat.le_of_ble_eq_true rfl) dX10_changes_20 rfl ?_
    refine lv_if_ne (tgt := 29) hx hb dX10_changes_23 (by decide) (fun hc => ?_) (fun hc => ?_)
    · have hf := kneg hc hf
      refine lv_iconst (v := 1) hx hb dX10_changes_29 (by decide) ?_
      refine lv_iload_n hx hb dX10_changes_30 rfl (lv_at hl 1 rfl) ?_
      refine lv_ishl hx hb dX10_changes_31 ?_
      refine lv_istore_n (lv' := [(3, .int ((1 : Int32) <<< (x1 &&& 31))), (0, .ref a_this), (1, .int x1), (2, .int x2)]) hx hb dX10_changes_32 rfl hl (by decide) rfl (fun ls hl => ?_)
      refine lv_iconst (v := 0) hx hb dX10_changes_33 (by decide) ?_
      refine lv_istore (lv' := [(4, .int 0), (3, .int ((1 : Int32) <<< (x1 &&& 31))), (0, .ref a_this), (1, .int x1), (2, .int x2)]) hx hb dX10_changes_34 hl (by decide) rfl (fun ls hl => ?_)
      exact t_ND_changes_l36 C hA a_this a_texts a_names a_pieces a_song a_fitting a_deal a_guesses a_wise a_spy a_sheets a_texts0 a_texts1 a_texts2 a_texts0_bytes a_texts1_bytes a_texts2_bytes a_names_odds a_names_lengths a_names_letters a_names_alike a_names_oddsTogether a_pieces_inside a_pieces_lengths a_pieces_letters a_song_letters a_fitting_pieceFits a_fitting_inOrder f_finding F f_texts0_size f_texts0_bytes f_texts1_size f_texts1_bytes f_texts2_size f_texts2_bytes x1 x2 r r_stale r_names_size r_names_fault r_names_odds r_names_lengths r_names_letters r_names_alike r_names_oddsTogether r_pieces_size r_pieces_fault r_pieces_inside r_pieces_lengths r_pieces_letters r_song_size r_song_fault r_song_letters r_fitting_pieceCount r_fitting_songFits r_fitting_allFit r_fitting_ordered r_fitting_pieceFits r_fitting_inOrder F ((1 : Int32) <<< (x1 &&& 31)) 0 f_stale_1 f_names_size_1 f_names_fault_1 f_names_odds_1 f_names_lengths_1 f_names_letters_1 f_names_alike_1 f_names_oddsTogether_1 f_pieces_size_1 f_pieces_fault_1 f_pieces_inside_1 f_pieces_lengths_1 f_pieces_letters_1 f_song_size_1 f_song_fault_1 f_song_letters_1 f_fitting_pieceCount_1 f_fitting_songFits_1 f_fitting_allFit_1 f_fitting_ordered_1 f_fitting_pieceFits_1 f_fitting_inOrder_1 hf _ _ hP hD hS _ (lv_sub hl [2, 4, 1, 0] rfl)
    · have hf := kpos hc hf
      refine lv_bipush (v := (-2)) hx hb dX10_changes_26 (by decide) ?_
      obtain ⟨e1, e2, e3, e4, e5, e6, e7, e8, e9, e10, e11, e12, e13, e14, e15, e16, e17, e18, e19, e20, e21, e22, e23⟩ := ti23 hf
      subst e1; subst e2; subst e3; subst e4; subst e5; subst e6; subst e7; subst e8; subst e9; subst e10; subst e11; subst e12; subst e13; subst e14; subst e15; subst e16; subst e17; subst e18; subst e19; subst e20; subst e21; subst e22; subst e23
      exact kretM C hP hD hS dX10_changes_28
def RM_ND_isForm : Room := { frames := 0, cells := 0, slots := 0, locals := 0 }
set_option maxHeartbeats 4000000 in
set_option maxRecDepth 100000 in
theorem c_ND_isForm (l : Launch) (D : va_G) (ct : Nat → ClassId) (x0 : Int32) (r : Int32) (hf : ND_isForm x0 = some r) : Met l yX10_isForm (WS yX10_isForm cX10_isForm 1 (some .boolean)) RM_ND_isForm (va_Pc [.int x0] (PR D ct (w_ND_isForm ct))) (QR (some (.int r))) 0 0 (fun _ => False) := by
  refine kMetR yn_yX10_isForm rfl (Nat.le_of_ble_eq_true rfl) ?_
  intro p e s m args below meth c C hP ls hl
  have hl : lv_has ls 1 [(0, .int x0)] := hl
  obtain ⟨hx, hb, hr, hml, hown, hts, hlk, hK, hN⟩ := id C
  unfold ND_isForm at hf
  refine lv_iload_n hx hb dX10_isForm_0 rfl (lv_at hl 0 rfl) ?_
  refine lv_if_lt (tgt := 13) hx hb dX10_isForm_1 (by decide) (fun hc => ?_) (fun hc => ?_)
  · have hf := kpos hc hf
    refine lv_iconst (v := 0) hx hb dX10_isForm_13 (by decide) ?_
    have e1 := Option.some.inj hf
    subst e1
    exact kretRz C (by decide) dX10_isForm_14
  · have hf := kneg hc hf
    refine lv_iload_n hx hb dX10_isForm_4 rfl (lv_at hl 0 rfl) ?_
    refine lv_iconst (v := 3) hx hb dX10_isForm_5 (by decide) ?_
    refine lv_icmp_ge (tgt := 13) hx hb dX10_isForm_6 (by decide) (fun hc => ?_) (fun hc => ?_)
    · have hf := kpos hc hf
      refine lv_iconst (v := 0) hx hb dX10_isForm_13 (by decide) ?_
      have e1 := Option.some.inj hf
      subst e1
      exact kretRz C (by decide) dX10_isForm_14
    · have hf := kneg hc hf
      refine lv_iconst (v := 1) hx hb dX10_isForm_9 (by decide) ?_
      refine lv_goto (tgt := 14) hx hb dX10_isForm_10 (by decide) ?_
      have e1 := Option.some.inj hf
      subst e1
      exact kretRz C (by decide) dX10_isForm_14
def RM_Sh_become : Room := { frames := 0, cells := 0, slots := 0, locals := 0 }
set_option maxHeartbeats 4000000 in
set_option maxRecDepth 100000 in
theorem c_Sh_become (l : Launch) (D : va_G) (ct : Nat → ClassId) (a_this a_items : Nat) (f_form : Int32) (f_size : Int32) (x1 : Int32) (r_size : Int32) (sz : Nat) (hf : Sh_become f_size x1 = some r_size) : Met l yX5_become (WS yX5_become cX5_become 2 none) RM_Sh_become (va_Pc [.ref a_this, .int x1] (PM D ct sz (w_Sh_become ct a_this a_items f_form f_size))) (QM D none (w_Sh_become ct a_this a_items f_form r_size) (va_A (w_Sh_become ct a_this a_items f_form f_size) sz)) 0 0 (va_A (w_Sh_become ct a_this a_items f_form f_size) sz) := by
  refine kMetM yn_yX5_become rfl (Nat.le_of_ble_eq_true rfl) ?_
  intro p e s m args below meth c A C hA hP hD ls hl
  have hl : lv_has ls 2 [(0, .ref a_this), (1, .int x1)] := hl
  have hS : va_S A s.heap s.heap [] := va_S.rf
  obtain ⟨hx, hb, hr, hml, hown, hts, hlk, hK, hN⟩ := id C
  unfold Sh_become at hf
  refine lv_aload_n hx hb dX5_become_0 rfl (lv_at hl 0 rfl) ?_
  refine lv_iload_n hx hb dX5_become_1 rfl (lv_at hl 1 rfl) ?_
  refine va_put (ci := 5) (v := .int x1) (ty := .int) (C := RX5) (T := TX5) (N := 3) hx hb hts inX5 tyX5 tyX5_ok nmX5 hown hK hP hD hS 0 rfl rfl 2 (by decide) (hts _ tw_274) (fun _ h9 => h9) rfl (tyX5_ok 2 (by decide)) rfl rfl (Nat.le_of_ble_eq_true rfl) dX5_become_2 (fun H locs hP hD hS => ?_)
  have hP : va_P D vwCl (w_Sh_become ct a_this a_items f_form x1) H := hP
  have hD : va_D A (w_Sh_become ct a_this a_items f_form x1) := hD
  have e1 := Option.some.inj hf
  subst e1
  exact kretMv C hP hD hS dX5_become_5
def RM_Sh_begin : Room := { frames := 1, cells := 0, slots := 0, locals := 23 }
set_option maxHeartbeats 4000000 in
set_option maxRecDepth 100000 in
theorem c_Sh_begin (l : Launch) (D : va_G) (ct : Nat → ClassId) (a_this a_items : Nat) (F : Nat) (f_form : Int32) (f_size : Int32) (f_items : Nat → Int32) (x1 : Int32) (x2 : Int32) (r_form : Int32) (r_size : Int32) (r_items : Nat → Int32) (sz : Nat) (hf : Sh_begin F f_form f_size f_items x1 x2 = some (r_form, r_size, r_items)) : Met l yX5_begin (WS yX5_begin cX5_begin 3 none) RM_Sh_begin (va_Pc [.ref a_this, .int x1, .int x2] (PM D ct sz (w_Sh_begin ct a_this a_items f_form f_size f_items))) (QM D none (w_Sh_begin ct a_this a_items r_form r_size r_items) (va_A (w_Sh_begin ct a_this a_items f_form f_size f_items) sz)) 0 0 (va_A (w_Sh_begin ct a_this a_items f_form f_size f_items) sz) := by
  refine kMetM yn_yX5_begin rfl (Nat.le_of_ble_eq_true rfl) ?_
  intro p e s m args below meth c A C hA hP hD ls hl
  have hl : lv_has ls 3 [(0, .ref a_this), (1, .int x1), (2, .int x2)] := hl
  have hS : va_S A s.heap s.heap [] := va_S.rf
  obtain ⟨hx, hb, hr, hml, hown, hts, hlk, hK, hN⟩ := id C
  unfold Sh_begin at hf
  refine lv_aload_n hx hb dX5_begin_0 rfl (lv_at hl 0 rfl) ?_
  refine lv_iload_n hx hb dX5_begin_1 rfl (lv_at hl 1 rfl) ?_
  refine va_put (ci := 5) (v := .int x1) (ty := .int) (C := RX5) (T := TX5) (N := 3) hx hb hts inX5 tyX5 tyX5_ok nmX5 hown hK hP hD hS 0 rfl rfl 1 (by decide) (hts _ tw_273) (fun _ h9 => h9) rfl (tyX5_ok 1 (by decide)) rfl rfl (Nat.le_of_ble_eq_true rfl) dX5_begin_2 (fun H locs hP hD hS => ?_)
  have hP : va_P D vwCl (w_Sh_begin ct a_this a_items x1 f_size f_items) H := hP
  have hD : va_D A (w_Sh_begin ct a_this a_items x1 f_size f_items) := hD
  refine lv_aload_n hx hb dX5_begin_5 rfl (lv_at hl 0 rfl) ?_
  refine lv_iload_n hx hb dX5_begin_6 rfl (lv_at hl 2 rfl) ?_
  refine lv_bipush (v := 60) hx hb dX5_begin_7 (by decide) ?_
  refine kmmin hx hb (hml.trans hl.1.symm) hown (hts _ tw_832) (hts _ tw_430) (hts _ tw_72) (hts _ tw_431) (Nat.le_of_ble_eq_true rfl) (Nat.le_of_ble_eq_true rfl) (Nat.zero_le _) (Nat.zero_le _) dX5_begin_9 ?_
  obtain ⟨f_size_12, hc12, hf⟩ := cb1_some hf
  refine kcMV (q0 := 0) (ci := 5) (As := [.int (mnI x2 60)]) (rest := []) (st1 := []) (wf := (w_Sh_begin ct a_this a_items x1 f_size_12 f_items)) C (c_Sh_become l D ct a_this a_items x1 f_size (mnI x2 60) f_size_12 _ hc12) ⟨rfl, rfl⟩ yn_yX5_become tw_834 tw_835 tw_833 ⟨Nat.le_of_ble_eq_true rfl, Nat.le_of_ble_eq_true rfl⟩ ⟨Nat.zero_le _, Nat.zero_le _⟩ hP hD hS hA [0] [1] [1, 0] rfl rfl rfl rfl rfl (by decide) rfl rfl rfl rfl rfl rfl hl.1 rfl rfl (Nat.le_of_ble_eq_true rfl) dX5_begin_12 rfl (fun H locs hP hD hS => ?_)
  refine lv_aload_n hx hb dX5_begin_15 rfl (lv_at hl 0 rfl) ?_
  refine va_get (ci := 5) (v := .ref a_items) (C := RX5) (T := TX5) (N := 3) hx hb hts inX5 hown hK hP 0 rfl rfl 0 (by decide) (hts _ tw_272) (fun _ h9 => h9) rfl dX5_begin_16 ?_
  refine lv_iconst (v := 0) hx hb dX5_begin_19 (by decide) ?_
  obtain ⟨f_items_20, hc20, hf⟩ := cb1_some hf
  refine kcMS (As := [.ref a_items, .int 0]) (rest := []) (st1 := []) (wf := (w_Sh_begin ct a_this a_items x1 f_size_12 f_items_20)) C (c_Jarr_fill l D ct a_items 60 F f_items 0 f_items_20 _ hc20) ⟨rfl, rfl⟩ yn_yJ7_fill_53178 tw_399 tw_837 ⟨Nat.le_of_ble_eq_true rfl, Nat.le_of_ble_eq_true rfl⟩ ⟨Nat.zero_le _, Nat.zero_le _⟩ hP hD hS hA [1] [0] [0, 1] rfl rfl rfl rfl rfl (by decide) rfl rfl rfl hl.1 rfl rfl (Nat.le_of_ble_eq_true rfl) dX5_begin_20 rfl (fun H locs hP hD hS => ?_)
  obtain ⟨e1, e2, e3⟩ := ti3 hf
  subst e1; subst e2; subst e3
  exact kretMv C hP hD hS dX5_begin_23
def RM_ND_sheet : Room := { frames := 2, cells := 0, slots := 0, locals := 45 }
set_option maxHeartbeats 4000000 in
set_option maxRecDepth 100000 in
theorem c_ND_sheet (l : Launch) (D : va_G) (ct : Nat → ClassId) (a_this a_texts a_names a_pieces a_song a_fitting a_deal a_guesses a_wise a_spy a_sheets a_sheets0 a_sheets1 a_sheets2 a_sheets3 a_sheets0_items a_sheets1_items a_sheets2_items a_sheets3_items : Nat) (f_stale : Int32) (F : Nat) (f_finding : Int32) (f_sheets0_form : Int32) (f_sheets0_size : Int32) (f_sheets0_items : Nat → Int32) (f_sheets1_form : Int32) (f_sheets1_size : Int32) (f_sheets1_items : Nat → Int32) (f_sheets2_form : Int32) (f_sheets2_size : Int32) (f_sheets2_items : Nat → Int32) (f_sheets3_form : Int32) (f_sheets3_size : Int32) (f_sheets3_items : Nat → Int32) (x1 : Int32) (x2 : Int32) (x3 : Int32) (r : Int32) (r_finding : Int32) (r_sheets0_form : Int32) (r_sheets0_size : Int32) (r_sheets0_items : Nat → Int32) (r_sheets1_form : Int32) (r_sheets1_size : Int32) (r_sheets1_items : Nat → Int32) (r_sheets2_form : Int32) (r_sheets2_size : Int32) (r_sheets2_items : Nat → Int32) (r_sheets3_form : Int32) (r_sheets3_size : Int32) (r_sheets3_items : Nat → Int32) (sz : Nat) (hf : ND_sheet F f_finding f_sheets0_form f_sheets0_size f_sheets0_items f_sheets1_form f_sheets1_size f_sheets1_items f_sheets2_form f_sheets2_size f_sheets2_items f_sheets3_form f_sheets3_size f_sheets3_items x1 x2 x3 = some (r, r_finding, r_sheets0_form, r_sheets0_size, r_sheets0_items, r_sheets1_form, r_sheets1_size, r_sheets1_items, r_sheets2_form, r_sheets2_size, r_sheets2_items, r_sheets3_form, r_sheets3_size, r_sheets3_items)) : Met l yX10_sheet (WS yX10_sheet cX10_sheet 4 (some .int)) RM_ND_sheet (va_Pc [.ref a_this, .int x1, .int x2, .int x3] (PM D ct sz (w_ND_sheet ct a_this a_texts a_names a_pieces a_song a_fitting a_deal a_guesses a_wise a_spy a_sheets a_sheets0 a_sheets1 a_sheets2 a_sheets3 a_sheets0_items a_sheets1_items a_sheets2_items a_sheets3_items f_stale f_finding f_sheets0_form f_sheets0_size f_sheets0_items f_sheets1_form f_sheets1_size f_sheets1_items f_sheets2_form f_sheets2_size f_sheets2_items f_sheets3_form f_sheets3_size f_sheets3_items))) (QM D (some (.int r)) (w_ND_sheet ct a_this a_texts a_names a_pieces a_song a_fitting a_deal a_guesses a_wise a_spy a_sheets a_sheets0 a_sheets1 a_sheets2 a_sheets3 a_sheets0_items a_sheets1_items a_sheets2_items a_sheets3_items f_stale r_finding r_sheets0_form r_sheets0_size r_sheets0_items r_sheets1_form r_sheets1_size r_sheets1_items r_sheets2_form r_sheets2_size r_sheets2_items r_sheets3_form r_sheets3_size r_sheets3_items) (va_A (w_ND_sheet ct a_this a_texts a_names a_pieces a_song a_fitting a_deal a_guesses a_wise a_spy a_sheets a_sheets0 a_sheets1 a_sheets2 a_sheets3 a_sheets0_items a_sheets1_items a_sheets2_items a_sheets3_items f_stale f_finding f_sheets0_form f_sheets0_size f_sheets0_items f_sheets1_form f_sheets1_size f_sheets1_items f_sheets2_form f_sheets2_size f_sheets2_items f_sheets3_form f_sheets3_size f_sheets3_items) sz)) 0 0 (va_A (w_ND_sheet ct a_this a_texts a_names a_pieces a_song a_fitting a_deal a_guesses a_wise a_spy a_sheets a_sheets0 a_sheets1 a_sheets2 a_sheets3 a_sheets0_items a_sheets1_items a_sheets2_items a_sheets3_items f_stale f_finding f_sheets0_form f_sheets0_size f_sheets0_items f_sheets1_form f_sheets1_size f_sheets1_items f_sheets2_form f_sheets2_size f_sheets2_items f_sheets3_form f_sheets3_size f_sheets3_items) sz) := by
  refine kMetM yn_yX10_sheet rfl (Nat.le_of_ble_eq_true rfl) ?_
  intro p e s m args below meth c A C hA hP hD ls hl
  have hl : lv_has ls 4 [(0, .ref a_this), (1, .int x1), (2, .int x2), (3, .int x3)] := hl
  have hS : va_S A s.heap s.heap [] := va_S.rf
  obtain ⟨hx, hb, hr, hml, hown, hts, hlk, hK, hN⟩ := id C
  unfold ND_sheet at hf
  refine lv_iload_n hx hb dX10_sheet_0 rfl (lv_at hl 1 rfl) ?_
  obtain ⟨v1, hc1, hf⟩ := cb1_some hf
  refine kcRS (As := [.int x1]) (rest := []) (st1 := [.int v1]) C (c_ND_isSheet l D ct x1 v1 hc1) ⟨rfl, rfl⟩ yn_yX10_isSheet tw_549 tw_548 ⟨Nat.le_of_ble_eq_true rfl, Nat.le_of_ble_eq_true rfl⟩ ⟨Nat.zero_le _, Nat.zero_le _⟩ hP [] rfl hl.1 rfl rfl (Nat.le_of_ble_eq_true rfl) dX10_sheet_1 rfl ?_
  refine lv_if_eq (tgt := 20) hx hb dX10_sheet_4 (by decide) (fun hc => ?_) (fun hc => ?_)
  · have hf := kpos hc hf
    refine lv_bipush (v := (-2)) hx hb dX10_sheet_20 (by decide) ?_
    obtain ⟨e1, e2, e3, e4, e5, e6, e7, e8, e9, e10, e11, e12, e13, e14⟩ := ti14 hf
    subst e1; subst e2; subst e3; subst e4; subst e5; subst e6; subst e7; subst e8; subst e9; subst e10; subst e11; subst e12; subst e13; subst e14
    exact kretM C hP hD hS dX10_sheet_22
  · have hf := kneg hc hf
    refine lv_iload_n hx hb dX10_sheet_7 rfl (lv_at hl 2 rfl) ?_
    obtain ⟨v8, hc8, hf⟩ := cb1_some hf
    refine kcRS (As := [.int x2]) (rest := []) (st1 := [.int v8]) C (c_ND_isForm l D ct x2 v8 hc8) ⟨rfl, rfl⟩ yn_yX10_isForm tw_826 tw_825 ⟨Nat.le_of_ble_eq_true rfl, Nat.le_of_ble_eq_true rfl⟩ ⟨Nat.zero_le _, Nat.zero_le _⟩ hP [] rfl hl.1 rfl rfl (Nat.le_of_ble_eq_true rfl) dX10_sheet_8 rfl ?_
    refine lv_if_eq (tgt := 20) hx hb dX10_sheet_11 (by decide) (fun hc => ?_) (fun hc => ?_)
    · have hf := kpos hc hf
      refine lv_bipush (v := (-2)) hx hb dX10_sheet_20 (by decide) ?_
      obtain ⟨e1, e2, e3, e4, e5, e6, e7, e8, e9, e10, e11, e12, e13, e14⟩ := ti14 hf
      subst e1; subst e2; subst e3; subst e4; subst e5; subst e6; subst e7; subst e8; subst e9; subst e10; subst e11; subst e12; subst e13; subst e14
      exact kretM C hP hD hS dX10_sheet_22
    · have hf := kneg hc hf
      refine lv_iload_n hx hb dX10_sheet_14 rfl (lv_at hl 3 rfl) ?_
      refine lv_bipush (v := 60) hx hb dX10_sheet_15 (by decide) ?_
      refine lv_icmp_le (tgt := 23) hx hb dX10_sheet_17 (by decide) (fun hc => ?_) (fun hc => ?_)
      · have hf := kpos hc hf
        refine lv_iload_n hx hb dX10_sheet_23 rfl (lv_at hl 3 rfl) ?_
        refine lv_if_ge (tgt := 33) hx hb dX10_sheet_24 (by decide) (fun hc => ?_) (fun hc => ?_)
        · have hf := kpos hc hf
          refine lv_aload_n hx hb dX10_sheet_33 rfl (lv_at hl 0 rfl) ?_
          refine va_get (ci := 10) (v := .ref a_sheets) (C := RX10) (T := TX10) (N := 12) hx hb hts inX10 hown hK hP 0 rfl rfl 9 (by decide) (hts _ tw_291) (fun _ h9 => h9) rfl dX10_sheet_34 ?_
          refine lv_iload_n hx hb dX10_sheet_37 rfl (lv_at hl 1 rfl) ?_
          by_cases hs_1 : x1 = 0
          · have hf := kpos hs_1 hf
            refine kaald hx hb hK hP 1 4 rfl rfl (k := 0) (by rw [hs_1]; rfl) rfl (by decide) dX10_sheet_38 ?_
            refine lv_iload_n hx hb dX10_sheet_39 rfl (lv_at hl 2 rfl) ?_
            refine lv_iload_n hx hb dX10_sheet_40 rfl (lv_at hl 3 rfl) ?_
            obtain ⟨f_sheets0_form_41, f_sheets0_size_41, f_sheets0_items_41, hc41, hf⟩ := cb3_some hf
            refine kcMV (q0 := 2) (ci := 5) (As := [.int x2, .int x3]) (rest := []) (st1 := []) (wf := (w_ND_sheet ct a_this a_texts a_names a_pieces a_song a_fitting a_deal a_guesses a_wise a_spy a_sheets a_sheets0 a_sheets1 a_sheets2 a_sheets3 a_sheets0_items a_sheets1_items a_sheets2_items a_sheets3_items f_stale f_finding f_sheets0_form_41 f_sheets0_size_41 f_sheets0_items_41 f_sheets1_form f_sheets1_size f_sheets1_items f_sheets2_form f_sheets2_size f_sheets2_items f_sheets3_form f_sheets3_size f_sheets3_items)) C (c_Sh_begin l D ct a_sheets0 a_sheets0_items F f_sheets0_form f_sheets0_size f_sheets0_items x2 x3 f_sheets0_form_41 f_sheets0_size_41 f_sheets0_items_41 _ hc41) ⟨rfl, rfl⟩ yn_yX5_begin tw_829 tw_830 tw_828 ⟨Nat.le_of_ble_eq_true rfl, Nat.le_of_ble_eq_true rfl⟩ ⟨Nat.zero_le _, Nat.zero_le _⟩ hP hD hS hA [2, 3] [0, 1, 4, 5, 6, 7, 8, 9] [0, 1, 8, 9, 2, 3, 4, 5, 6, 7] rfl rfl rfl rfl rfl (by decide) rfl rfl rfl rfl rfl rfl hl.1 rfl rfl (Nat.le_of_ble_eq_true rfl) dX10_sheet_41 rfl (fun H locs hP hD hS => ?_)
            refine lv_iload_n hx hb dX10_sheet_44 rfl (lv_at hl 3 rfl) ?_
            obtain ⟨e1, e2, e3, e4, e5, e6, e7, e8, e9, e10, e11, e12, e13, e14⟩ := ti14 hf
            subst e1; subst e2; subst e3; subst e4; subst e5; subst e6; subst e7; subst e8; subst e9; subst e10; subst e11; subst e12; subst e13; subst e14
            exact kretM C hP hD hS dX10_sheet_45
          · have hf := kneg hs_1 hf
            by_cases hs_1 : x1 = 1
            · have hf := kpos hs_1 hf
              refine kaald hx hb hK hP 1 4 rfl rfl (k := 1) (by rw [hs_1]; rfl) rfl (by decide) dX10_sheet_38 ?_
              refine lv_iload_n hx hb dX10_sheet_39 rfl (lv_at hl 2 rfl) ?_
              refine lv_iload_n hx hb dX10_sheet_40 rfl (lv_at hl 3 rfl) ?_
              obtain ⟨f_sheets1_form_41, f_sheets1_size_41, f_sheets1_items_41, hc41, hf⟩ := cb3_some hf
              refine kcMV (q0 := 4) (ci := 5) (As := [.int x2, .int x3]) (rest := []) (st1 := []) (wf := (w_ND_sheet ct a_this a_texts a_names a_pieces a_song a_fitting a_deal a_guesses a_wise a_spy a_sheets a_sheets0 a_sheets1 a_sheets2 a_sheets3 a_sheets0_items a_sheets1_items a_sheets2_items a_sheets3_items f_stale f_finding f_sheets0_form f_sheets0_size f_sheets0_items f_sheets1_form_41 f_sheets1_size_41 f_sheets1_items_41 f_sheets2_form f_sheets2_size f_sheets2_items f_sheets3_form f_sheets3_size f_sheets3_items)) C (c_Sh_begin l D ct a_sheets1 a_sheets1_items F f_sheets1_form f_sheets1_size f_sheets1_items x2 x3 f_sheets1_form_41 f_sheets1_size_41 f_sheets1_items_41 _ hc41) ⟨rfl, rfl⟩ yn_yX5_begin tw_829 tw_830 tw_828 ⟨Nat.le_of_ble_eq_true rfl, Nat.le_of_ble_eq_true rfl⟩ ⟨Nat.zero_le _, Nat.zero_le _⟩ hP hD hS hA [4, 5] [0, 1, 2, 3, 6, 7, 8, 9] [0, 1, 2, 3, 8, 9, 4, 5, 6, 7] rfl rfl rfl rfl rfl (by decide) rfl rfl rfl rfl rfl rfl hl.1 rfl rfl (Nat.le_of_ble_eq_true rfl) dX10_sheet_41 rfl (fun H locs hP hD hS => ?_)
              refine lv_iload_n hx hb dX10_sheet_44 rfl (lv_at hl 3 rfl) ?_
              obtain ⟨e1, e2, e3, e4, e5, e6, e7, e8, e9, e10, e11, e12, e13, e14⟩ := ti14 hf
              subst e1; subst e2; subst e3; subst e4; subst e5; subst e6; subst e7; subst e8; subst e9; subst e10; subst e11; subst e12; subst e13; subst e14
              exact kretM C hP hD hS dX10_sheet_45
            · have hf := kneg hs_1 hf
              by_cases hs_1 : x1 = 2
              · have hf := kpos hs_1 hf
                refine kaald hx hb hK hP 1 4 rfl rfl (k := 2) (by rw [hs_1]; rfl) rfl (by decide) dX10_sheet_38 ?_
                refine lv_iload_n hx hb dX10_sheet_39 rfl (lv_at hl 2 rfl) ?_
                refine lv_iload_n hx hb dX10_sheet_40 rfl (lv_at hl 3 rfl) ?_
                obtain ⟨f_sheets2_form_41, f_sheets2_size_41, f_sheets2_items_41, hc41, hf⟩ := cb3_some hf
                refine kcMV (q0 := 6) (ci := 5) (As := [.int x2, .int x3]) (rest := []) (st1 := []) (wf := (w_ND_sheet ct a_this a_texts a_names a_pieces a_song a_fitting a_deal a_guesses a_wise a_spy a_sheets a_sheets0 a_sheets1 a_sheets2 a_sheets3 a_sheets0_items a_sheets1_items a_sheets2_items a_sheets3_items f_stale f_finding f_sheets0_form f_sheets0_size f_sheets0_items f_sheets1_form f_sheets1_size f_sheets1_items f_sheets2_form_41 f_sheets2_size_41 f_sheets2_items_41 f_sheets3_form f_sheets3_size f_sheets3_items)) C (c_Sh_begin l D ct a_sheets2 a_sheets2_items F f_sheets2_form f_sheets2_size f_sheets2_items x2 x3 f_sheets2_form_41 f_sheets2_size_41 f_sheets2_items_41 _ hc41) ⟨rfl, rfl⟩ yn_yX5_begin tw_829 tw_830 tw_828 ⟨Nat.le_of_ble_eq_true rfl, Nat.le_of_ble_eq_true rfl⟩ ⟨Nat.zero_le _, Nat.zero_le _⟩ hP hD hS hA [6, 7] [0, 1, 2, 3, 4, 5, 8, 9] [0, 1, 2, 3, 4, 5, 8, 9, 6, 7] rfl rfl rfl rfl rfl (by decide) rfl rfl rfl rfl rfl rfl hl.1 rfl rfl (Nat.le_of_ble_eq_true rfl) dX10_sheet_41 rfl (fun H locs hP hD hS => ?_)
                refine lv_iload_n hx hb dX10_sheet_44 rfl (lv_at hl 3 rfl) ?_
                obtain ⟨e1, e2, e3, e4, e5, e6, e7, e8, e9, e10, e11, e12, e13, e14⟩ := ti14 hf
                subst e1; subst e2; subst e3; subst e4; subst e5; subst e6; subst e7; subst e8; subst e9; subst e10; subst e11; subst e12; subst e13; subst e14
                exact kretM C hP hD hS dX10_sheet_45
              · have hf := kneg hs_1 hf
                by_cases hs_1 : x1 = 3
                · have hf := kpos hs_1 hf
                  refine kaald hx hb hK hP 1 4 rfl rfl (k := 3) (by rw [hs_1]; rfl) rfl (by decide) dX10_sheet_38 ?_
                  refine lv_iload_n hx hb dX10_sheet_39 rfl (lv_at hl 2 rfl) ?_
                  refine lv_iload_n hx hb dX10_sheet_40 rfl (lv_at hl 3 rfl) ?_
                  obtain ⟨f_sheets3_form_41, f_sheets3_size_41, f_sheets3_items_41, hc41, hf⟩ := cb3_some hf
                  refine kcMV (q0 := 8) (ci := 5) (As := [.int x2, .int x3]) (rest := []) (st1 := []) (wf := (w_ND_sheet ct a_this a_texts a_names a_pieces a_song a_fitting a_deal a_guesses a_wise a_spy a_sheets a_sheets0 a_sheets1 a_sheets2 a_sheets3 a_sheets0_items a_sheets1_items a_sheets2_items a_sheets3_items f_stale f_finding f_sheets0_form f_sheets0_size f_sheets0_items f_sheets1_form f_sheets1_size f_sheets1_items f_sheets2_form f_sheets2_size f_sheets2_items f_sheets3_form_41 f_sheets3_size_41 f_sheets3_items_41)) C (c_Sh_begin l D ct a_sheets3 a_sheets3_items F f_sheets3_form f_sheets3_size f_sheets3_items x2 x3 f_sheets3_form_41 f_sheets3_size_41 f_sheets3_items_41 _ hc41) ⟨rfl, rfl⟩ yn_yX5_begin tw_829 tw_830 tw_828 ⟨Nat.le_of_ble_eq_true rfl, Nat.le_of_ble_eq_true rfl⟩ ⟨Nat.zero_le _, Nat.zero_le _⟩ hP hD hS hA [8, 9] [0, 1, 2, 3, 4, 5, 6, 7] [0, 1, 2, 3, 4, 5, 6, 7, 8, 9] rfl rfl rfl rfl rfl (by decide) rfl rfl rfl rfl rfl rfl hl.1 rfl rfl (Nat.le_of_ble_eq_true rfl) dX10_sheet_41 rfl (fun H locs hP hD hS => ?_)
                  refine lv_iload_n hx hb dX10_sheet_44 rfl (lv_at hl 3 rfl) ?_
                  obtain ⟨e1, e2, e3, e4, e5, e6, e7, e8, e9, e10, e11, e12, e13, e14⟩ := ti14 hf
                  subst e1; subst e2; subst e3; subst e4; subst e5; subst e6; subst e7; subst e8; subst e9; subst e10; subst e11; subst e12; subst e13; subst e14
                  exact kretM C hP hD hS dX10_sheet_45
                · have hf := kneg hs_1 hf
                  cases hf
        · have hf := kneg hc hf
          refine lv_aload_n hx hb dX10_sheet_27 rfl (lv_at hl 0 rfl) ?_
          refine lv_iconst (v := 5) hx hb dX10_sheet_28 (by decide) ?_
          obtain ⟨v29, f_finding_29, hc29, hf⟩ := cb2_some hf
          refine kcMV (q0 := 0) (ci := 10) (As := [.int 5]) (rest := []) (st1 := [.int v29]) (wf := (w_ND_sheet ct a_this a_texts a_names a_pieces a_song a_fitting a_deal a_guesses a_wise a_spy a_sheets a_sheets0 a_sheets1 a_sheets2 a_sheets3 a_sheets0_items a_sheets1_items a_sheets2_items a_sheets3_items f_stale f_finding_29 f_sheets0_form f_sheets0_size f_sheets0_items f_sheets1_form f_sheets1_size f_sheets1_items f_sheets2_form f_sheets2_size f_sheets2_items f_sheets3_form f_sheets3_size f_sheets3_items)) C (c_ND_found l D ct a_this a_texts a_names a_pieces a_song a_fitting a_deal a_guesses a_wise a_spy a_sheets f_stale f_finding 5 v29 f_finding_29 _ hc29) ⟨rfl, rfl⟩ yn_yX10_found tw_557 tw_10 tw_555 ⟨Nat.le_of_ble_eq_true rfl, Nat.le_of_ble_eq_true rfl⟩ ⟨Nat.zero_le _, Nat.zero_le _⟩ hP hD hS hA [0] [1, 2, 3, 4, 5, 6, 7, 8, 9] [9, 0, 1, 2, 3, 4, 5, 6, 7, 8] rfl rfl rfl rfl rfl (by decide) rfl rfl rfl rfl rfl rfl hl.1 rfl rfl (Nat.le_of_ble_eq_true rfl) dX10_sheet_29 rfl (fun H locs hP hD hS => ?_)
          obtain ⟨e1, e2, e3, e4, e5, e6, e7, e8, e9, e10, e11, e12, e13, e14⟩ := ti14 hf
          subst e1; subst e2; subst e3; subst e4; subst e5; subst e6; subst e7; subst e8; subst e9; subst e10; subst e11; subst e12; subst e13; subst e14
          exact kretM C hP hD hS dX10_sheet_32
      · have hf := kneg hc hf
        refine lv_bipush (v := (-2)) hx hb dX10_sheet_20 (by decide) ?_
        obtain ⟨e1, e2, e3, e4, e5, e6, e7, e8, e9, e10, e11, e12, e13, e14⟩ := ti14 hf
        subst e1; subst e2; subst e3; subst e4; subst e5; subst e6; subst e7; subst e8; subst e9; subst e10; subst e11; subst e12; subst e13; subst e14
        exact kretM C hP hD hS dX10_sheet_22
def RM_ND_lose : Room := { frames := 1, cells := 0, slots := 0, locals := 21 }
set_option maxHeartbeats 4000000 in
set_option maxRecDepth 100000 in
theorem c_ND_lose (l : Launch) (D : va_G) (ct : Nat → ClassId) (a_this a_texts a_names a_pieces a_song a_fitting a_deal a_guesses a_wise a_spy a_sheets a_sheets0 a_sheets1 a_sheets2 a_sheets3 a_sheets0_items a_sheets1_items a_sheets2_items a_sheets3_items : Nat) (f_stale : Int32) (f_sheets0_form : Int32) (f_sheets1_form : Int32) (f_sheets2_form : Int32) (f_sheets3_form : Int32) (f_finding : Int32) (f_sheets0_size : Int32) (f_sheets1_size : Int32) (f_sheets2_size : Int32) (f_sheets3_size : Int32) (x1 : Int32) (r : Int32) (r_finding : Int32) (r_sheets0_size : Int32) (r_sheets1_size : Int32) (r_sheets2_size : Int32) (r_sheets3_size : Int32) (sz : Nat) (hf : ND_lose f_finding f_sheets0_size f_sheets1_size f_sheets2_size f_sheets3_size x1 = some (r, r_finding, r_sheets0_size, r_sheets1_size, r_sheets2_size, r_sheets3_size)) : Met l yX10_lose (WS yX10_lose cX10_lose 3 (some .int)) RM_ND_lose (va_Pc [.ref a_this, .int x1] (PM D ct sz (w_ND_lose ct a_this a_texts a_names a_pieces a_song a_fitting a_deal a_guesses a_wise a_spy a_sheets a_sheets0 a_sheets1 a_sheets2 a_sheets3 a_sheets0_items a_sheets1_items a_sheets2_items a_sheets3_items f_stale f_finding f_sheets0_form f_sheets0_size f_sheets1_form f_sheets1_size f_sheets2_form f_sheets2_size f_sheets3_form f_sheets3_size))) (QM D (some (.int r)) (w_ND_lose ct a_this a_texts a_names a_pieces a_song a_fitting a_deal a_guesses a_wise a_spy a_sheets a_sheets0 a_sheets1 a_sheets2 a_sheets3 a_sheets0_items a_sheets1_items a_sheets2_items a_sheets3_items f_stale r_finding f_sheets0_form r_sheets0_size f_sheets1_form r_sheets1_size f_sheets2_form r_sheets2_size f_sheets3_form r_sheets3_size) (va_A (w_ND_lose ct a_this a_texts a_names a_pieces a_song a_fitting a_deal a_guesses a_wise a_spy a_sheets a_sheets0 a_sheets1 a_sheets2 a_sheets3 a_sheets0_items a_sheets1_items a_sheets2_items a_sheets3_items f_stale f_finding f_sheets0_form f_sheets0_size f_sheets1_form f_sheets1_size f_sheets2_form f_sheets2_size f_sheets3_form f_sheets3_size) sz)) 0 0 (va_A (w_ND_lose ct a_this a_texts a_names a_pieces a_song a_fitting a_deal a_guesses a_wise a_spy a_sheets a_sheets0 a_sheets1 a_sheets2 a_sheets3 a_sheets0_items a_sheets1_items a_sheets2_items a_sheets3_items f_stale f_finding f_sheets0_form f_sheets0_size f_sheets1_form f_sheets1_size f_sheets2_form f_sheets2_size f_sheets3_form f_sheets3_size) sz) := by
  refine kMetM yn_yX10_lose rfl (Nat.le_of_ble_eq_true rfl) ?_
  intro p e s m args below meth c A C hA hP hD ls hl
  have hl : lv_has ls 3 [(0, .ref a_this), (1, .int x1)] := hl
  have hS : va_S A s.heap s.heap [] := va_S.rf
  obtain ⟨hx, hb, hr, hml, hown, hts, hlk, hK, hN⟩ := id C
  unfold ND_lose at hf
  refine lv_iload_n hx hb dX10_lose_0 rfl (lv_at hl 1 rfl) ?_
  obtain ⟨v1, hc1, hf⟩ := cb1_some hf
  refine kcRS (As := [.int x1]) (rest := []) (st1 := [.int v1]) C (c_ND_isSheet l D ct x1 v1 hc1) ⟨rfl, rfl⟩ yn_yX10_isSheet tw_549 tw_548 ⟨Nat.le_of_ble_eq_true rfl, Nat.le_of_ble_eq_true rfl⟩ ⟨Nat.zero_le _, Nat.zero_le _⟩ hP [] rfl hl.1 rfl rfl (Nat.le_of_ble_eq_true rfl) dX10_lose_1 rfl ?_
  refine lv_if_ne (tgt := 10) hx hb dX10_lose_4 (by decide) (fun hc => ?_) (fun hc => ?_)
  · have hf := kneg hc hf
    refine lv_aload_n hx hb dX10_lose_10 rfl (lv_at hl 0 rfl) ?_
    refine va_get (ci := 10) (v := .ref a_sheets) (C := RX10) (T := TX10) (N := 12) hx hb hts inX10 hown hK hP 0 rfl rfl 9 (by decide) (hts _ tw_291) (fun _ h9 => h9) rfl dX10_lose_11 ?_
    refine lv_iload_n hx hb dX10_lose_14 rfl (lv_at hl 1 rfl) ?_
    by_cases hs_1 : x1 = 0
    · have hf := kpos hs_1 hf
      refine kaald hx hb hK hP 1 4 rfl rfl (k := 0) (by rw [hs_1]; rfl) rfl (by decide) dX10_lose_15 ?_
      obtain ⟨v16, hc16, hf⟩ := cb1_some hf
      refine kcRV (q0 := 2) (ci := 5) (As := []) (rest := []) (st1 := [.int v16]) C (c_Sh_isLost l D ct a_sheets0 a_sheets0_items f_sheets0_form f_sheets0_size v16 hc16) ⟨rfl, rfl⟩ yn_yX5_isLost tw_552 tw_553 tw_551 ⟨Nat.le_of_ble_eq_true rfl, Nat.le_of_ble_eq_true rfl⟩ ⟨Nat.zero_le _, Nat.zero_le _⟩ hP [2] rfl rfl rfl rfl hl.1 rfl rfl (Nat.le_of_ble_eq_true rfl) dX10_lose_16 rfl ?_
      refine lv_if_eq (tgt := 28) hx hb dX10_lose_19 (by decide) (fun hc => ?_) (fun hc => ?_)
      · have hf := kpos hc hf
        refine lv_aload_n hx hb dX10_lose_28 rfl (lv_at hl 0 rfl) ?_
        refine va_get (ci := 10) (v := .ref a_sheets) (C := RX10) (T := TX10) (N := 12) hx hb hts inX10 hown hK hP 0 rfl rfl 9 (by decide) (hts _ tw_291) (fun _ h9 => h9) rfl dX10_lose_29 ?_
        refine lv_iload_n hx hb dX10_lose_32 rfl (lv_at hl 1 rfl) ?_
        refine kaald hx hb hK hP 1 4 rfl rfl (k := 0) (by rw [hs_1]; rfl) rfl (by decide) dX10_lose_33 ?_
        obtain ⟨v34, hc34, hf⟩ := cb1_some hf
        refine kcRV (q0 := 2) (ci := 5) (As := []) (rest := []) (st1 := [.int v34]) C (c_Sh_size l D ct a_sheets0 a_sheets0_items f_sheets0_form f_sheets0_size v34 hc34) ⟨rfl, rfl⟩ yn_yX5_size tw_564 tw_565 tw_563 ⟨Nat.le_of_ble_eq_true rfl, Nat.le_of_ble_eq_true rfl⟩ ⟨Nat.zero_le _, Nat.zero_le _⟩ hP [2] rfl rfl rfl rfl hl.1 rfl rfl (Nat.le_of_ble_eq_true rfl) dX10_lose_34 rfl ?_
        refine lv_istore_n (lv' := [(2, .int v34), (0, .ref a_this), (1, .int x1)]) hx hb dX10_lose_37 rfl hl (by decide) rfl (fun ls hl => ?_)
        refine lv_aload_n hx hb dX10_lose_38 rfl (lv_at hl 1 rfl) ?_
        refine va_get (ci := 10) (v := .ref a_sheets) (C := RX10) (T := TX10) (N := 12) hx hb hts inX10 hown hK hP 0 rfl rfl 9 (by decide) (hts _ tw_291) (fun _ h9 => h9) rfl dX10_lose_39 ?_
        refine lv_iload_n hx hb dX10_lose_42 rfl (lv_at hl 2 rfl) ?_
        refine kaald hx hb hK hP 1 4 rfl rfl (k := 0) (by rw [hs_1]; rfl) rfl (by decide) dX10_lose_43 ?_
        refine lv_iconst (v := (-1)) hx hb dX10_lose_44 (by decide) ?_
        obtain ⟨f_sheets0_size_45, hc45, hf⟩ := cb1_some hf
        refine kcMV (q0 := 2) (ci := 5) (As := [.int (-1)]) (rest := []) (st1 := []) (wf := (w_ND_lose ct a_this a_texts a_names a_pieces a_song a_fitting a_deal a_guesses a_wise a_spy a_sheets a_sheets0 a_sheets1 a_sheets2 a_sheets3 a_sheets0_items a_sheets1_items a_sheets2_items a_sheets3_items f_stale f_finding f_sheets0_form f_sheets0_size_45 f_sheets1_form f_sheets1_size f_sheets2_form f_sheets2_size f_sheets3_form f_sheets3_size)) C (c_Sh_become l D ct a_sheets0 a_sheets0_items f_sheets0_form f_sheets0_size (-1) f_sheets0_size_45 _ hc45) ⟨rfl, rfl⟩ yn_yX5_become tw_834 tw_835 tw_842 ⟨Nat.le_of_ble_eq_true rfl, Nat.le_of_ble_eq_true rfl⟩ ⟨Nat.zero_le _, Nat.zero_le _⟩ hP hD hS hA [2] [0, 1, 3, 4, 5] [0, 1, 5, 2, 3, 4] rfl rfl rfl rfl rfl (by decide) rfl rfl rfl rfl rfl rfl hl.1 rfl rfl (Nat.le_of_ble_eq_true rfl) dX10_lose_45 rfl (fun H locs hP hD hS => ?_)
        refine lv_iload_n hx hb dX10_lose_48 rfl (lv_at hl 0 rfl) ?_
        obtain ⟨e1, e2, e3, e4, e5, e6⟩ := ti6 hf
        subst e1; subst e2; subst e3; subst e4; subst e5; subst e6
        exact kretM C hP hD hS dX10_lose_49
      · have hf := kneg hc hf
        refine lv_aload_n hx hb dX10_lose_22 rfl (lv_at hl 0 rfl) ?_
        refine lv_iconst (v := 1) hx hb dX10_lose_23 (by decide) ?_
        obtain ⟨v24, f_finding_24, hc24, hf⟩ := cb2_some hf
        refine kcMV (q0 := 0) (ci := 10) (As := [.int 1]) (rest := []) (st1 := [.int v24]) (wf := (w_ND_lose ct a_this a_texts a_names a_pieces a_song a_fitting a_deal a_guesses a_wise a_spy a_sheets a_sheets0 a_sheets1 a_sheets2 a_sheets3 a_sheets0_items a_sheets1_items a_sheets2_items a_sheets3_items f_stale f_finding_24 f_sheets0_form f_sheets0_size f_sheets1_form f_sheets1_size f_sheets2_form f_sheets2_size f_sheets3_form f_sheets3_size)) C (c_ND_found l D ct a_this a_texts a_names a_pieces a_song a_fitting a_deal a_guesses a_wise a_spy a_sheets f_stale f_finding 1 v24 f_finding_24 _ hc24) ⟨rfl, rfl⟩ yn_yX10_found tw_557 tw_10 tw_555 ⟨Nat.le_of_ble_eq_true rfl, Nat.le_of_ble_eq_true rfl⟩ ⟨Nat.zero_le _, Nat.zero_le _⟩ hP hD hS hA [0] [1, 2, 3, 4, 5] [5, 0, 1, 2, 3, 4] rfl rfl rfl rfl rfl (by decide) rfl rfl rfl rfl rfl rfl hl.1 rfl rfl (Nat.le_of_ble_eq_true rfl) dX10_lose_24 rfl (fun H locs hP hD hS => ?_)
        obtain ⟨e1, e2, e3, e4, e5, e6⟩ := ti6 hf
        subst e1; subst e2; subst e3; subst e4; subst e5; subst e6
        exact kretM C hP hD hS dX10_lose_27
    · have hf := kneg hs_1 hf
      by_cases hs_1 : x1 = 1
      · have hf := kpos hs_1 hf
        refine kaald hx hb hK hP 1 4 rfl rfl (k := 1) (by rw [hs_1]; rfl) rfl (by decide) dX10_lose_15 ?_
        obtain ⟨v16, hc16, hf⟩ := cb1_some hf
        refine kcRV (q0 := 3) (ci := 5) (As := []) (rest := []) (st1 := [.int v16]) C (c_Sh_isLost l D ct a_sheets1 a_sheets1_items f_sheets1_form f_sheets1_size v16 hc16) ⟨rfl, rfl⟩ yn_yX5_isLost tw_552 tw_553 tw_551 ⟨Nat.le_of_ble_eq_true rfl, Nat.le_of_ble_eq_true rfl⟩ ⟨Nat.zero_le _, Nat.zero_le _⟩ hP [3] rfl rfl rfl rfl hl.1 rfl rfl (Nat.le_of_ble_eq_true rfl) dX10_lose_16 rfl ?_
        refine lv_if_eq (tgt := 28) hx hb dX10_lose_19 (by decide) (fun hc => ?_) (fun hc => ?_)
        · have hf := kpos hc hf
          refine lv_aload_n hx hb dX10_lose_28 rfl (lv_at hl 0 rfl) ?_
          refine va_get (ci := 10) (v := .ref a_sheets) (C := RX10) (T := TX10) (N := 12) hx hb hts inX10 hown hK hP 0 rfl rfl 9 (by decide) (hts _ tw_291) (fun _ h9 => h9) rfl dX10_lose_29 ?_
          refine lv_iload_n hx hb dX10_lose_32 rfl (lv_at hl 1 rfl) ?_
          refine kaald hx hb hK hP 1 4 rfl rfl (k := 1) (by rw [hs_1]; rfl) rfl (by decide) dX10_lose_33 ?_
          obtain ⟨v34, hc34, hf⟩ := cb1_some hf
          refine kcRV (q0 := 3) (ci := 5) (As := []) (rest := []) (st1 := [.int v34]) C (c_Sh_size l D ct a_sheets1 a_sheets1_items f_sheets1_form f_sheets1_size v34 hc34) ⟨rfl, rfl⟩ yn_yX5_size tw_564 tw_565 tw_563 ⟨Nat.le_of_ble_eq_true rfl, Nat.le_of_ble_eq_true rfl⟩ ⟨Nat.zero_le _, Nat.zero_le _⟩ hP [3] rfl rfl rfl rfl hl.1 rfl rfl (Nat.le_of_ble_eq_true rfl) dX10_lose_34 rfl ?_
          refine lv_istore_n (lv' := [(2, .int v34), (0, .ref a_this), (1, .int x1)]) hx hb dX10_lose_37 rfl hl (by decide) rfl (fun ls hl => ?_)
          refine lv_aload_n hx hb dX10_lose_38 rfl (lv_at hl 1 rfl) ?_
          refine va_get (ci := 10) (v := .ref a_sheets) (C := RX10) (T := TX10) (N := 12) hx hb hts inX10 hown hK hP 0 rfl rfl 9 (by decide) (hts _ tw_291) (fun _ h9 => h9) rfl dX10_lose_39 ?_
          refine lv_iload_n hx hb dX10_lose_42 rfl (lv_at hl 2 rfl) ?_
          refine kaald hx hb hK hP 1 4 rfl rfl (k := 1) (by rw [hs_1]; rfl) rfl (by decide) dX10_lose_43 ?_
          refine lv_iconst (v := (-1)) hx hb dX10_lose_44 (by decide) ?_
          obtain ⟨f_sheets1_size_45, hc45, hf⟩ := cb1_some hf
          refine kcMV (q0 := 3) (ci := 5) (As := [.int (-1)]) (rest := []) (st1 := []) (wf := (w_ND_lose ct a_this a_texts a_names a_pieces a_song a_fitting a_deal a_guesses a_wise a_spy a_sheets a_sheets0 a_sheets1 a_sheets2 a_sheets3 a_sheets0_items a_sheets1_items a_sheets2_items a_sheets3_items f_stale f_finding f_sheets0_form f_sheets0_size f_sheets1_form f_sheets1_size_45 f_sheets2_form f_sheets2_size f_sheets3_form f_sheets3_size)) C (c_Sh_become l D ct a_sheets1 a_sheets1_items f_sheets1_form f_sheets1_size (-1) f_sheets1_size_45 _ hc45) ⟨rfl, rfl⟩ yn_yX5_become tw_834 tw_835 tw_842 ⟨Nat.le_of_ble_eq_true rfl, Nat.le_of_ble_eq_true rfl⟩ ⟨Nat.zero_le _, Nat.zero_le _⟩ hP hD hS hA [3] [0, 1, 2, 4, 5] [0, 1, 2, 5, 3, 4] rfl rfl rfl rfl rfl (by decide) rfl rfl rfl rfl rfl rfl hl.1 rfl rfl (Nat.le_of_ble_eq_true rfl) dX10_lose_45 rfl (fun H locs hP hD hS => ?_)
          refine lv_iload_n hx hb dX10_lose_48 rfl (lv_at hl 0 rfl) ?_
          obtain ⟨e1, e2, e3, e4, e5, e6⟩ := ti6 hf
          subst e1; subst e2; subst e3; subst e4; subst e5; subst e6
          exact kretM C hP hD hS dX10_lose_49
        · have hf := kneg hc hf
          refine lv_aload_n hx hb dX10_lose_22 rfl (lv_at hl 0 rfl) ?_
          refine lv_iconst (v := 1) hx hb dX10_lose_23 (by decide) ?_
          obtain ⟨v24, f_finding_24, hc24, hf⟩ := cb2_some hf
          refine kcMV (q0 := 0) (ci := 10) (As := [.int 1]) (rest := []) (st1 := [.int v24]) (wf := (w_ND_lose ct a_this a_texts a_names a_pieces a_song a_fitting a_deal a_guesses a_wise a_spy a_sheets a_sheets0 a_sheets1 a_sheets2 a_sheets3 a_sheets0_items a_sheets1_items a_sheets2_items a_sheets3_items f_stale f_finding_24 f_sheets0_form f_sheets0_size f_sheets1_form f_sheets1_size f_sheets2_form f_sheets2_size f_sheets3_form f_sheets3_size)) C (c_ND_found l D ct a_this a_texts a_names a_pieces a_song a_fitting a_deal a_guesses a_wise a_spy a_sheets f_stale f_finding 1 v24 f_finding_24 _ hc24) ⟨rfl, rfl⟩ yn_yX10_found tw_557 tw_10 tw_555 ⟨Nat.le_of_ble_eq_true rfl, Nat.le_of_ble_eq_true rfl⟩ ⟨Nat.zero_le _, Nat.zero_le _⟩ hP hD hS hA [0] [1, 2, 3, 4, 5] [5, 0, 1, 2, 3, 4] rfl rfl rfl rfl rfl (by decide) rfl rfl rfl rfl rfl rfl hl.1 rfl rfl (Nat.le_of_ble_eq_true rfl) dX10_lose_24 rfl (fun H locs hP hD hS => ?_)
          obtain ⟨e1, e2, e3, e4, e5, e6⟩ := ti6 hf
          subst e1; subst e2; subst e3; subst e4; subst e5; subst e6
          exact kretM C hP hD hS dX10_lose_27
      · have hf := kneg hs_1 hf
        by_cases hs_1 : x1 = 2
        · have hf := kpos hs_1 hf
          refine kaald hx hb hK hP 1 4 rfl rfl (k := 2) (by rw [hs_1]; rfl) rfl (by decide) dX10_lose_15 ?_
          obtain ⟨v16, hc16, hf⟩ := cb1_some hf
          refine kcRV (q0 := 4) (ci := 5) (As := []) (rest := []) (st1 := [.int v16]) C (c_Sh_isLost l D ct a_sheets2 a_sheets2_items f_sheets2_form f_sheets2_size v16 hc16) ⟨rfl, rfl⟩ yn_yX5_isLost tw_552 tw_553 tw_551 ⟨Nat.le_of_ble_eq_true rfl, Nat.le_of_ble_eq_true rfl⟩ ⟨Nat.zero_le _, Nat.zero_le _⟩ hP [4] rfl rfl rfl rfl hl.1 rfl rfl (Nat.le_of_ble_eq_true rfl) dX10_lose_16 rfl ?_
          refine lv_if_eq (tgt := 28) hx hb dX10_lose_19 (by decide) (fun hc => ?_) (fun hc => ?_)
          · have hf := kpos hc hf
            refine lv_aload_n hx hb dX10_lose_28 rfl (lv_at hl 0 rfl) ?_
            refine va_get (ci := 10) (v := .ref a_sheets) (C := RX10) (T := TX10) (N := 12) hx hb hts inX10 hown hK hP 0 rfl rfl 9 (by decide) (hts _ tw_291) (fun _ h9 => h9) rfl dX10_lose_29 ?_
            refine lv_iload_n hx hb dX10_lose_32 rfl (lv_at hl 1 rfl) ?_
            refine kaald hx hb hK hP 1 4 rfl rfl (k := 2) (by rw [hs_1]; rfl) rfl (by decide) dX10_lose_33 ?_
            obtain ⟨v34, hc34, hf⟩ := cb1_some hf
            refine kcRV (q0 := 4) (ci := 5) (As := []) (rest := []) (st1 := [.int v34]) C (c_Sh_size l D ct a_sheets2 a_sheets2_items f_sheets2_form f_sheets2_size v34 hc34) ⟨rfl, rfl⟩ yn_yX5_size tw_564 tw_565 tw_563 ⟨Nat.le_of_ble_eq_true rfl, Nat.le_of_ble_eq_true rfl⟩ ⟨Nat.zero_le _, Nat.zero_le _⟩ hP [4] rfl rfl rfl rfl hl.1 rfl rfl (Nat.le_of_ble_eq_true rfl) dX10_lose_34 rfl ?_
            refine lv_istore_n (lv' := [(2, .int v34), (0, .ref a_this), (1, .int x1)]) hx hb dX10_lose_37 rfl hl (by decide) rfl (fun ls hl => ?_)
            refine lv_aload_n hx hb dX10_lose_38 rfl (lv_at hl 1 rfl) ?_
            refine va_get (ci := 10) (v := .ref a_sheets) (C := RX10) (T := TX10) (N := 12) hx hb hts inX10 hown hK hP 0 rfl rfl 9 (by decide) (hts _ tw_291) (fun _ h9 => h9) rfl dX10_lose_39 ?_
            refine lv_iload_n hx hb dX10_lose_42 rfl (lv_at hl 2 rfl) ?_
            refine kaald hx hb hK hP 1 4 rfl rfl (k := 2) (by rw [hs_1]; rfl) rfl (by decide) dX10_lose_43 ?_
            refine lv_iconst (v := (-1)) hx hb dX10_lose_44 (by decide) ?_
            obtain ⟨f_sheets2_size_45, hc45, hf⟩ := cb1_some hf
            refine kcMV (q0 := 4) (ci := 5) (As := [.int (-1)]) (rest := []) (st1 := []) (wf := (w_ND_lose ct a_this a_texts a_names a_pieces a_song a_fitting a_deal a_guesses a_wise a_spy a_sheets a_sheets0 a_sheets1 a_sheets2 a_sheets3 a_sheets0_items a_sheets1_items a_sheets2_items a_sheets3_items f_stale f_finding f_sheets0_form f_sheets0_size f_sheets1_form f_sheets1_size f_sheets2_form f_sheets2_size_45 f_sheets3_form f_sheets3_size)) C (c_Sh_become l D ct a_sheets2 a_sheets2_items f_sheets2_form f_sheets2_size (-1) f_sheets2_size_45 _ hc45) ⟨rfl, rfl⟩ yn_yX5_become tw_834 tw_835 tw_842 ⟨Nat.le_of_ble_eq_true rfl, Nat.le_of_ble_eq_true rfl⟩ ⟨Nat.zero_le _, Nat.zero_le _⟩ hP hD hS hA [4] [0, 1, 2, 3, 5] [0, 1, 2, 3, 5, 4] rfl rfl rfl rfl rfl (by decide) rfl rfl rfl rfl rfl rfl hl.1 rfl rfl (Nat.le_of_ble_eq_true rfl) dX10_lose_45 rfl (fun H locs hP hD hS => ?_)
            refine lv_iload_n hx hb dX10_lose_48 rfl (lv_at hl 0 rfl) ?_
            obtain ⟨e1, e2, e3, e4, e5, e6⟩ := ti6 hf
            subst e1; subst e2; subst e3; subst e4; subst e5; subst e6
            exact kretM C hP hD hS dX10_lose_49
          · have hf := kneg hc hf
            refine lv_aload_n hx hb dX10_lose_22 rfl (lv_at hl 0 rfl) ?_
            refine lv_iconst (v := 1) hx hb dX10_lose_23 (by decide) ?_
            obtain ⟨v24, f_finding_24, hc24, hf⟩ := cb2_some hf
            refine kcMV (q0 := 0) (ci := 10) (As := [.int 1]) (rest := []) (st1 := [.int v24]) (wf := (w_ND_lose ct a_this a_texts a_names a_pieces a_song a_fitting a_deal a_guesses a_wise a_spy a_sheets a_sheets0 a_sheets1 a_sheets2 a_sheets3 a_sheets0_items a_sheets1_items a_sheets2_items a_sheets3_items f_stale f_finding_24 f_sheets0_form f_sheets0_size f_sheets1_form f_sheets1_size f_sheets2_form f_sheets2_size f_sheets3_form f_sheets3_size)) C (c_ND_found l D ct a_this a_texts a_names a_pieces a_song a_fitting a_deal a_guesses a_wise a_spy a_sheets f_stale f_finding 1 v24 f_finding_24 _ hc24) ⟨rfl, rfl⟩ yn_yX10_found tw_557 tw_10 tw_555 ⟨Nat.le_of_ble_eq_true rfl, Nat.le_of_ble_eq_true rfl⟩ ⟨Nat.zero_le _, Nat.zero_le _⟩ hP hD hS hA [0] [1, 2, 3, 4, 5] [5, 0, 1, 2, 3, 4] rfl rfl rfl rfl rfl (by decide) rfl rfl rfl rfl rfl rfl hl.1 rfl rfl (Nat.le_of_ble_eq_true rfl) dX10_lose_24 rfl (fun H locs hP hD hS => ?_)
            obtain ⟨e1, e2, e3, e4, e5, e6⟩ := ti6 hf
            subst e1; subst e2; subst e3; subst e4; subst e5; subst e6
            exact kretM C hP hD hS dX10_lose_27
        · have hf := kneg hs_1 hf
          by_cases hs_1 : x1 = 3
          · have hf := kpos hs_1 hf
            refine kaald hx hb hK hP 1 4 rfl rfl (k := 3) (by rw [hs_1]; rfl) rfl (by decide) dX10_lose_15 ?_
            obtain ⟨v16, hc16, hf⟩ := cb1_some hf
            refine kcRV (q0 := 5) (ci := 5) (As := []) (rest := []) (st1 := [.int v16]) C (c_Sh_isLost l D ct a_sheets3 a_sheets3_items f_sheets3_form f_sheets3_size v16 hc16) ⟨rfl, rfl⟩ yn_yX5_isLost tw_552 tw_553 tw_551 ⟨Nat.le_of_ble_eq_true rfl, Nat.le_of_ble_eq_true rfl⟩ ⟨Nat.zero_le _, Nat.zero_le _⟩ hP [5] rfl rfl rfl rfl hl.1 rfl rfl (Nat.le_of_ble_eq_true rfl) dX10_lose_16 rfl ?_
            refine lv_if_eq (tgt := 28) hx hb dX10_lose_19 (by decide) (fun hc => ?_) (fun hc => ?_)
            · have hf := kpos hc hf
              refine lv_aload_n hx hb dX10_lose_28 rfl (lv_at hl 0 rfl) ?_
              refine va_get (ci := 10) (v := .ref a_sheets) (C := RX10) (T := TX10) (N := 12) hx hb hts inX10 hown hK hP 0 rfl rfl 9 (by decide) (hts _ tw_291) (fun _ h9 => h9) rfl dX10_lose_29 ?_
              refine lv_iload_n hx hb dX10_lose_32 rfl (lv_at hl 1 rfl) ?_
              refine kaald hx hb hK hP 1 4 rfl rfl (k := 3) (by rw [hs_1]; rfl) rfl (by decide) dX10_lose_33 ?_
              obtain ⟨v34, hc34, hf⟩ := cb1_some hf
              refine kcRV (q0 := 5) (ci := 5) (As := []) (rest := []) (st1 := [.int v34]) C (c_Sh_size l D ct a_sheets3 a_sheets3_items f_sheets3_form f_sheets3_size v34 hc34) ⟨rfl, rfl⟩ yn_yX5_size tw_564 tw_565 tw_563 ⟨Nat.le_of_ble_eq_true rfl, Nat.le_of_ble_eq_true rfl⟩ ⟨Nat.zero_le _, Nat.zero_le _⟩ hP [5] rfl rfl rfl rfl hl.1 rfl rfl (Nat.le_of_ble_eq_true rfl) dX10_lose_34 rfl ?_
              refine lv_istore_n (lv' := [(2, .int v34), (0, .ref a_this), (1, .int x1)]) hx hb dX10_lose_37 rfl hl (by decide) rfl (fun ls hl => ?_)
              refine lv_aload_n hx hb dX10_lose_38 rfl (lv_at hl 1 rfl) ?_
              refine va_get (ci := 10) (v := .ref a_sheets) (C := RX10) (T := TX10) (N := 12) hx hb hts inX10 hown hK hP 0 rfl rfl 9 (by decide) (hts _ tw_291) (fun _ h9 => h9) rfl dX10_lose_39 ?_
              refine lv_iload_n hx hb dX10_lose_42 rfl (lv_at hl 2 rfl) ?_
              refine kaald hx hb hK hP 1 4 rfl rfl (k := 3) (by rw [hs_1]; rfl) rfl (by decide) dX10_lose_43 ?_
              refine lv_iconst (v := (-1)) hx hb dX10_lose_44 (by decide) ?_
              obtain ⟨f_sheets3_size_45, hc45, hf⟩ := cb1_some hf
              refine kcMV (q0 := 5) (ci := 5) (As := [.int (-1)]) (rest := []) (st1 := []) (wf := (w_ND_lose ct a_this a_texts a_names a_pieces a_song a_fitting a_deal a_guesses a_wise a_spy a_sheets a_sheets0 a_sheets1 a_sheets2 a_sheets3 a_sheets0_items a_sheets1_items a_sheets2_items a_sheets3_items f_stale f_finding f_sheets0_form f_sheets0_size f_sheets1_form f_sheets1_size f_sheets2_form f_sheets2_size f_sheets3_form f_sheets3_size_45)) C (c_Sh_become l D ct a_sheets3 a_sheets3_items f_sheets3_form f_sheets3_size (-1) f_sheets3_size_45 _ hc45) ⟨rfl, rfl⟩ yn_yX5_become tw_834 tw_835 tw_842 ⟨Nat.le_of_ble_eq_true rfl, Nat.le_of_ble_eq_true rfl⟩ ⟨Nat.zero_le _, Nat.zero_le _⟩ hP hD hS hA [5] [0, 1, 2, 3, 4] [0, 1, 2, 3, 4, 5] rfl rfl rfl rfl rfl (by decide) rfl rfl rfl rfl rfl rfl hl.1 rfl rfl (Nat.le_of_ble_eq_true rfl) dX10_lose_45 rfl (fun H locs hP hD hS => ?_)
              refine lv_iload_n hx hb dX10_lose_48 rfl (lv_at hl 0 rfl) ?_
              obtain ⟨e1, e2, e3, e4, e5, e6⟩ := ti6 hf
              subst e1; subst e2; subst e3; subst e4; subst e5; subst e6
              exact kretM C hP hD hS dX10_lose_49
            · have hf := kneg hc hf
              refine lv_aload_n hx hb dX10_lose_22 rfl (lv_at hl 0 rfl) ?_
              refine lv_iconst (v := 1) hx hb dX10_lose_23 (by decide) ?_
              obtain ⟨v24, f_finding_24, hc24, hf⟩ := cb2_some hf
              refine kcMV (q0 := 0) (ci := 10) (As := [.int 1]) (rest := []) (st1 := [.int v24]) (wf := (w_ND_lose ct a_this a_texts a_names a_pieces a_song a_fitting a_deal a_guesses a_wise a_spy a_sheets a_sheets0 a_sheets1 a_sheets2 a_sheets3 a_sheets0_items a_sheets1_items a_sheets2_items a_sheets3_items f_stale f_finding_24 f_sheets0_form f_sheets0_size f_sheets1_form f_sheets1_size f_sheets2_form f_sheets2_size f_sheets3_form f_sheets3_size)) C (c_ND_found l D ct a_this a_texts a_names a_pieces a_song a_fitting a_deal a_guesses a_wise a_spy a_sheets f_stale f_finding 1 v24 f_finding_24 _ hc24) ⟨rfl, rfl⟩ yn_yX10_found tw_557 tw_10 tw_555 ⟨Nat.le_of_ble_eq_true rfl, Nat.le_of_ble_eq_true rfl⟩ ⟨Nat.zero_le _, Nat.zero_le _⟩ hP hD hS hA [0] [1, 2, 3, 4, 5] [5, 0, 1, 2, 3, 4] rfl rfl rfl rfl rfl (by decide) rfl rfl rfl rfl rfl rfl hl.1 rfl rfl (Nat.le_of_ble_eq_true rfl) dX10_lose_24 rfl (fun H locs hP hD hS => ?_)
              obtain ⟨e1, e2, e3, e4, e5, e6⟩ := ti6 hf
              subst e1; subst e2; subst e3; subst e4; subst e5; subst e6
              exact kretM C hP hD hS dX10_lose_27
          · have hf := kneg hs_1 hf
            cases hf
  · have hf := kpos hc hf
    refine lv_bipush (v := (-2)) hx hb dX10_lose_7 (by decide) ?_
    obtain ⟨e1, e2, e3, e4, e5, e6⟩ := ti6 hf
    subst e1; subst e2; subst e3; subst e4; subst e5; subst e6
    exact kretM C hP hD hS dX10_lose_9
