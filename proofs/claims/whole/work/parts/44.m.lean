def RM_Mo_tellsWisest : Room := { frames := 2, cells := 0, slots := 0, locals := 44 }
set_option maxHeartbeats 4000000 in
set_option maxRecDepth 100000 in
theorem c_Mo_tellsWisest (l : Launch) (D : va_G) (ct : Nat → ClassId) (a_this a_forms a_sizes a_items a_moved a_bytes a_typed a_chances a_longs a_letters a_isThere a_pieceLongs a_pieceLetters a_song a_settings a_guess a_row a_least a_nights : Nat) (f_latest : Int32) (f_at : Int32) (f_pieces : Int32) (f_songLong : Int32) (f_guesses : Int32) (F : Nat) (f_names : Int32) (f_todo : Int32) (f_chances : Nat → Int32) (f_least : Nat → Int64) (x1 : Int32) (x2 : Int32) (x3 : Int32) (r : Int64) (hf : Mo_tellsWisest F f_names f_todo f_chances f_least x1 x2 x3 = some r) : Met l yX11_tellsWisest (WS yX11_tellsWisest cX11_tellsWisest 4 (some .long)) RM_Mo_tellsWisest (va_Pc [.ref a_this, .int x1, .int x2, .int x3] (PR D ct (w_Mo_tellsWisest ct a_this a_forms a_sizes a_items a_moved a_bytes a_typed a_chances a_longs a_letters a_isThere a_pieceLongs a_pieceLetters a_song a_settings a_guess a_row a_least a_nights f_latest f_at f_names f_pieces f_songLong f_guesses f_todo f_chances f_least))) (QR (some (.long r))) 0 0 (fun _ => False) := by
  refine kMetR yn_yX11_tellsWisest rfl (Nat.le_of_ble_eq_true rfl) ?_
  intro p e s m args below meth c C hP ls hl
  have hl : lv_has ls 4 [(0, .ref a_this), (1, .int x1), (2, .int x2), (3, .int x3)] := hl
  obtain ⟨hx, hb, hr, hml, hown, hts, hlk, hK, hN⟩ := id C
  unfold Mo_tellsWisest at hf
  refine lv_iload_n hx hb dX11_tellsWisest_0 rfl (lv_at hl 3 rfl) ?_
  refine lv_iconst (v := 2) hx hb dX11_tellsWisest_1 (by decide) ?_
  refine lv_icmp_ne (tgt := 11) hx hb dX11_tellsWisest_2 (by decide) (fun hc => ?_) (fun hc => ?_)
  · have hf := kneg hc hf
    refine lv_iload_n hx hb dX11_tellsWisest_11 rfl (lv_at hl 2 rfl) ?_
    refine lv_if_ne (tgt := 20) hx hb dX11_tellsWisest_12 (by decide) (fun hc => ?_) (fun hc => ?_)
    · have hf := kneg hc hf
      refine lv_aload_n hx hb dX11_tellsWisest_20 rfl (lv_at hl 0 rfl) ?_
      refine va_get (ci := 11) (v := .ref a_least) (C := RX11) (T := TX11) (N := 25) hx hb hts inX11 hown hK hP 0 rfl rfl 22 (by decide) (hts _ tw_966) (fun _ h9 => h9) rfl dX11_tellsWisest_21 ?_
      refine lv_sipush (v := 1024) hx hb dX11_tellsWisest_24 (by decide) ?_
      refine lv_iload_n hx hb dX11_tellsWisest_27 rfl (lv_at hl 1 rfl) ?_
      refine lv_imul hx hb dX11_tellsWisest_28 ?_
      refine lv_iload_n hx hb dX11_tellsWisest_29 rfl (lv_at hl 2 rfl) ?_
      refine lv_iadd hx hb dX11_tellsWisest_30 ?_
      obtain ⟨hin, hf⟩ := rd_some hf
      generalize ev31 : f_least (Int32.toNatClampNeg ((1024 * x1) + x2)) = v31 at hf
      refine klald hx hb hK hP 2 2 rfl rfl hin ev31 dX11_tellsWisest_31 ?_
      refine lv_aload_n hx hb dX11_tellsWisest_32 rfl (lv_at hl 0 rfl) ?_
      refine lv_iload_n hx hb dX11_tellsWisest_33 rfl (lv_at hl 2 rfl) ?_
      obtain ⟨v34, hc34, hf⟩ := cb1_some hf
      refine kcRV (q0 := 0) (ci := 11) (As := [.int x2]) (rest := [.long v31]) (st1 := [.int v34, .long v31]) C (c_Mo_weight l D ct a_this a_forms a_sizes a_items a_moved a_bytes a_typed a_chances a_longs a_letters a_isThere a_pieceLongs a_pieceLetters a_song a_settings a_guess a_row a_least a_nights f_latest f_at f_pieces f_songLong f_guesses f_todo F f_names f_chances x2 v34 hc34) ⟨rfl, rfl⟩ yn_yX11_weight tw_1191 tw_42 tw_1189 ⟨Nat.le_of_ble_eq_true rfl, Nat.le_of_ble_eq_true rfl⟩ ⟨Nat.zero_le _, Nat.zero_le _⟩ hP [0, 1] rfl rfl rfl rfl hl.1 rfl rfl (Nat.le_of_ble_eq_true rfl) dX11_tellsWisest_34 rfl ?_
      refine lv_i2l (v := Int32.toInt64 v34) hx hb dX11_tellsWisest_37 rfl ?_
      refine lv_iload_n hx hb dX11_tellsWisest_38 rfl (lv_at hl 3 rfl) ?_
      obtain ⟨v39, hc39, hf⟩ := cb1_some hf
      refine kcRS (As := [.long v31, .long (Int32.toInt64 v34), .int x3]) (rest := []) (st1 := [.long v39]) C (c_Mo_part l D ct F v31 (Int32.toInt64 v34) x3 v39 hc39) ⟨rfl, rfl⟩ yn_yX11_part tw_1194 tw_1193 ⟨Nat.le_of_ble_eq_true rfl, Nat.le_of_ble_eq_true rfl⟩ ⟨Nat.zero_le _, Nat.zero_le _⟩ hP [] rfl hl.1 rfl rfl (Nat.le_of_ble_eq_true rfl) dX11_tellsWisest_39 rfl ?_
      have e1 := Option.some.inj hf
      subst e1
      exact kretRl C dX11_tellsWisest_42
    · have hf := kpos hc hf
      refine lv_iload_n hx hb dX11_tellsWisest_15 rfl (lv_at hl 3 rfl) ?_
      refine lv_i2l (v := Int32.toInt64 x3) hx hb dX11_tellsWisest_16 rfl ?_
      refine lv_goto (tgt := 42) hx hb dX11_tellsWisest_17 (by decide) ?_
      have e1 := Option.some.inj hf
      subst e1
      exact kretRl C dX11_tellsWisest_42
  · have hf := kpos hc hf
    refine lv_aload_n hx hb dX11_tellsWisest_5 rfl (lv_at hl 0 rfl) ?_
    refine va_get (ci := 11) (v := .int f_todo) (C := RX11) (T := TX11) (N := 25) hx hb hts inX11 hown hK hP 0 rfl rfl 23 (by decide) (hts _ tw_967) (fun _ h9 => h9) rfl dX11_tellsWisest_6 ?_
    refine lv_i2l (v := Int32.toInt64 f_todo) hx hb dX11_tellsWisest_9 rfl ?_
    have e1 := Option.some.inj hf
    subst e1
    exact kretRl C dX11_tellsWisest_10
def RM_Mo_wisestOf : Room := { frames := 5, cells := 0, slots := 0, locals := 124 }
set_option maxHeartbeats 4000000 in
set_option maxRecDepth 100000 in
theorem c_Mo_wisestOf (l : Launch) (D : va_G) (ct : Nat → ClassId) (a_this a_forms a_sizes a_items a_moved a_bytes a_typed a_chances a_longs a_letters a_isThere a_pieceLongs a_pieceLetters a_song a_settings a_guess a_row a_least a_nights : Nat) (f_latest : Int32) (f_at : Int32) (f_pieces : Int32) (f_songLong : Int32) (f_guesses : Int32) (F : Nat) (f_names : Int32) (f_chances : Nat → Int32) (f_longs : Nat → Int32) (f_letters : Nat → Int32) (f_settings : Nat → Int32) (f_todo : Int32) (f_least : Nat → Int64) (x1 : Int32) (x2 : Int32) (x3 : Int32) (r : Int64) (r_todo : Int32) (r_least : Nat → Int64) (sz : Nat) (hf : Mo_wisestOf F f_names f_chances f_longs f_letters f_settings f_todo f_least x1 x2 x3 = some (r, r_todo, r_least)) : Met l yX11_wisestOf (WS yX11_wisestOf cX11_wisestOf 5 (some .long)) RM_Mo_wisestOf (va_Pc [.ref a_this, .int x1, .int x2, .int x3] (PM D ct sz (w_Mo_wisestOf ct a_this a_forms a_sizes a_items a_moved a_bytes a_typed a_chances a_longs a_letters a_isThere a_pieceLongs a_pieceLetters a_song a_settings a_guess a_row a_least a_nights f_latest f_at f_names f_pieces f_songLong f_guesses f_todo f_chances f_longs f_letters f_settings f_least))) (QM D (some (.long r)) (w_Mo_wisestOf ct a_this a_forms a_sizes a_items a_moved a_bytes a_typed a_chances a_longs a_letters a_isThere a_pieceLongs a_pieceLetters a_song a_settings a_guess a_row a_least a_nights f_latest f_at f_names f_pieces f_songLong f_guesses r_todo f_chances f_longs f_letters f_settings r_least) (va_A (w_Mo_wisestOf ct a_this a_forms a_sizes a_items a_moved a_bytes a_typed a_chances a_longs a_letters a_isThere a_pieceLongs a_pieceLetters a_song a_settings a_guess a_row a_least a_nights f_latest f_at f_names f_pieces f_songLong f_guesses f_todo f_chances f_longs f_letters f_settings f_least) sz)) 0 0 (va_A (w_Mo_wisestOf ct a_this a_forms a_sizes a_items a_moved a_bytes a_typed a_chances a_longs a_letters a_isThere a_pieceLongs a_pieceLetters a_song a_settings a_guess a_row a_least a_nights f_latest f_at f_names f_pieces f_songLong f_guesses f_todo f_chances f_longs f_letters f_settings f_least) sz) := by
  refine kMetM yn_yX11_wisestOf rfl (Nat.le_of_ble_eq_true rfl) ?_
  intro p e s m args below meth c A C hA hP hD ls hl
  have hl : lv_has ls 5 [(0, .ref a_this), (1, .int x1), (2, .int x2), (3, .int x3)] := hl
  have hS : va_S A s.heap s.heap [] := va_S.rf
  obtain ⟨hx, hb, hr, hml, hown, hts, hlk, hK, hN⟩ := id C
  unfold Mo_wisestOf at hf
  refine lv_iload_n hx hb dX11_wisestOf_0 rfl (lv_at hl 2 rfl) ?_
  refine lv_iconst (v := 1) hx hb dX11_wisestOf_1 (by decide) ?_
  refine lv_aload_n hx hb dX11_wisestOf_2 rfl (lv_at hl 0 rfl) ?_
  refine va_get (ci := 11) (v := .int f_names) (C := RX11) (T := TX11) (N := 25) hx hb hts inX11 hown hK hP 0 rfl rfl 8 (by decide) (hts _ tw_952) (fun _ h9 => h9) rfl dX11_wisestOf_3 ?_
  refine lv_ishl hx hb dX11_wisestOf_6 ?_
  refine lv_iconst (v := 1) hx hb dX11_wisestOf_7 (by decide) ?_
  refine lv_isub hx hb dX11_wisestOf_8 ?_
  refine lv_iand hx hb dX11_wisestOf_9 ?_
  refine lv_istore (lv' := [(4, .int (x2 &&& (((1 : Int32) <<< (f_names &&& 31)) - 1))), (0, .ref a_this), (1, .int x1), (2, .int x2), (3, .int x3)]) hx hb dX11_wisestOf_10 hl (by decide) rfl (fun ls hl => ?_)
  refine lv_aload_n hx hb dX11_wisestOf_12 rfl (lv_at hl 1 rfl) ?_
  refine lv_iload_n hx hb dX11_wisestOf_13 rfl (lv_at hl 2 rfl) ?_
  refine lv_iload hx hb dX11_wisestOf_14 (lv_at hl 0 rfl) ?_
  obtain ⟨f_todo_16, f_least_16, hc16, hf⟩ := cb2_some hf
  refine kcMV (q0 := 0) (ci := 11) (As := [.int x1, .int (x2 &&& (((1 : Int32) <<< (f_names &&& 31)) - 1))]) (rest := []) (st1 := []) (wf := (w_Mo_wisestOf ct a_this a_forms a_sizes a_items a_moved a_bytes a_typed a_chances a_longs a_letters a_isThere a_pieceLongs a_pieceLetters a_song a_settings a_guess a_row a_least a_nights f_latest f_at f_names f_pieces f_songLong f_guesses f_todo_16 f_chances f_longs f_letters f_settings f_least_16)) C (c_Mo_findWisest l D ct a_this a_forms a_sizes a_items a_moved a_bytes a_typed a_chances a_longs a_letters a_isThere a_pieceLongs a_pieceLetters a_song a_settings a_guess a_row a_least a_nights f_latest f_at f_pieces f_songLong f_guesses F f_names f_chances f_longs f_letters f_settings f_todo f_least x1 (x2 &&& (((1 : Int32) <<< (f_names &&& 31)) - 1)) f_todo_16 f_least_16 _ hc16) ⟨rfl, rfl⟩ yn_yX11_findWisest tw_1259 tw_52 tw_1257 ⟨Nat.le_of_ble_eq_true rfl, Nat.le_of_ble_eq_true rfl⟩ ⟨Nat.zero_le _, Nat.zero_le _⟩ hP hD hS hA [0, 1, 2, 3, 4, 5] [] [0, 1, 2, 3, 4, 5] rfl rfl rfl rfl rfl (by decide) rfl rfl rfl rfl rfl rfl hl.1 rfl rfl (Nat.le_of_ble_eq_true rfl) dX11_wisestOf_16 rfl (fun H locs hP hD hS => ?_)
  refine lv_aload_n hx hb dX11_wisestOf_19 rfl (lv_at hl 1 rfl) ?_
  refine lv_iload_n hx hb dX11_wisestOf_20 rfl (lv_at hl 2 rfl) ?_
  refine lv_iload hx hb dX11_wisestOf_21 (lv_at hl 0 rfl) ?_
  refine lv_iload_n hx hb dX11_wisestOf_23 rfl (lv_at hl 4 rfl) ?_
  obtain ⟨v24, hc24, hf⟩ := cb1_some hf
  refine kcRV (q0 := 0) (ci := 11) (As := [.int x1, .int (x2 &&& (((1 : Int32) <<< (f_names &&& 31)) - 1)), .int x3]) (rest := []) (st1 := [.long v24]) C (c_Mo_tellsWisest l D ct a_this a_forms a_sizes a_items a_moved a_bytes a_typed a_chances a_longs a_letters a_isThere a_pieceLongs a_pieceLetters a_song a_settings a_guess a_row a_least a_nights f_latest f_at f_pieces f_songLong f_guesses F f_names f_todo_16 f_chances f_least_16 x1 (x2 &&& (((1 : Int32) <<< (f_names &&& 31)) - 1)) x3 v24 hc24) ⟨rfl, rfl⟩ yn_yX11_tellsWisest tw_1284 tw_58 tw_1282 ⟨Nat.le_of_ble_eq_true rfl, Nat.le_of_ble_eq_true rfl⟩ ⟨Nat.zero_le _, Nat.zero_le _⟩ hP [0, 1, 5] rfl rfl rfl rfl hl.1 rfl rfl (Nat.le_of_ble_eq_true rfl) dX11_wisestOf_24 rfl ?_
  obtain ⟨e1, e2, e3⟩ := ti3 hf
  subst e1; subst e2; subst e3
  exact kretMl C hP hD hS dX11_wisestOf_27
def RM_Mo_wisest : Room := { frames := 6, cells := 0, slots := 0, locals := 148 }
set_option maxHeartbeats 4000000 in
set_option maxRecDepth 100000 in
theorem t_Mo_wisest_b54 {p : Program} {l : Launch} {e : Env} {s : State} {m : MethodId} {args : Array Value} {below : List Frame} {meth : Method} {c : Code} {D : va_G} {ct : Nat → ClassId} (C : CX p s m args meth c RX11 cX11_wisest 4 (some .long) D ct) {A : Nat → Prop} (hA : ∀ q : Nat, s.heap.size ≤ q → A q) (a_this a_forms a_sizes a_items a_moved a_bytes a_typed a_chances a_longs a_letters a_isThere a_pieceLongs a_pieceLetters a_song a_settings a_guess a_row a_least a_nights : Nat) (f_latest : Int32) (f_guesses : Int32) (F : Nat) (f_bytes : Nat → Int32) (f_typed : Nat → Int32) (f_settings : Nat → Int32) (x1 : Int32) (x2 : Int32) (x3 : Int32) (r : Int64) (r_at : Int32) (r_names : Int32) (r_pieces : Int32) (r_songLong : Int32) (r_todo : Int32) (r_chances : Nat → Int32) (r_longs : Nat → Int32) (r_letters : Nat → Int32) (r_isThere : Nat → Int32) (r_pieceLongs : Nat → Int32) (r_pieceLetters : Nat → Int32) (r_song : Nat → Int32) (r_least : Nat → Int64) : ∀ (f_at : Int32) (f_names : Int32) (f_pieces : Int32) (f_songLong : Int32) (f_todo : Int32) (f_chances : Nat → Int32) (f_longs : Nat → Int32) (f_letters : Nat → Int32) (f_isThere : Nat → Int32) (f_pieceLongs : Nat → Int32) (f_pieceLetters : Nat → Int32) (f_song : Nat → Int32) (f_least : Nat → Int64), Mo_wisest_b54 F f_bytes f_typed f_settings x1 x2 x3 f_at f_names f_pieces f_songLong f_todo f_chances f_longs f_letters f_isThere f_pieceLongs f_pieceLetters f_song f_least = some (r, r_at, r_names, r_pieces, r_songLong, r_todo, r_chances, r_longs, r_letters, r_isThere, r_pieceLongs, r_pieceLetters, r_song, r_least) → ∀ (H : Heap) (locs : List Loc), va_P D vwCl (w_Mo_wisest ct a_this a_forms a_sizes a_items a_moved a_bytes a_typed a_chances a_longs a_letters a_isThere a_pieceLongs a_pieceLetters a_song a_settings a_guess a_row a_least a_nights f_latest f_at f_names f_pieces f_songLong f_guesses f_todo f_bytes f_typed f_chances f_longs f_letters f_isThere f_pieceLongs f_pieceLetters f_song f_settings f_least) H → va_D A (w_Mo_wisest ct a_this a_forms a_sizes a_items a_moved a_bytes a_typed a_chances a_longs a_letters a_isThere a_pieceLongs a_pieceLetters a_song a_settings a_guess a_row a_least a_nights f_latest f_at f_names f_pieces f_songLong f_guesses f_todo f_bytes f_typed f_chances f_longs f_letters f_isThere f_pieceLongs f_pieceLetters f_song f_settings f_least) → va_S A s.heap H locs → ∀ ls : Array Slot, lv_has ls 4 [] → W p l e RM_Mo_wisest s m args below meth c H locs 0 0 (MQ below (QM D (some (.long r)) (w_Mo_wisest ct a_this a_forms a_sizes a_items a_moved a_bytes a_typed a_chances a_longs a_letters a_isThere a_pieceLongs a_pieceLetters a_song a_settings a_guess a_row a_least a_nights f_latest r_at r_names r_pieces r_songLong f_guesses r_todo f_bytes f_typed r_chances r_longs r_letters r_isThere r_pieceLongs r_pieceLetters r_song f_settings r_least) A) args s 0 0 A) (F0 m 54 ls []) := by
  obtain ⟨hx, hb, hr, hml, hown, hts, hlk, hK, hN⟩ := id C
  intro f_at f_names f_pieces f_songLong f_todo f_chances f_longs f_letters f_isThere f_pieceLongs f_pieceLetters f_song f_least hf H locs hP hD hS ls hl
  unfold Mo_wisest_b54 at hf
  refine lv_bipush (v := (-2)) hx hb dX11_wisest_54 (by decide) ?_
  obtain ⟨v56, hc56, hf⟩ := cb1_some hf
  refine kcRS (As := [.int (-2)]) (rest := []) (st1 := [.long v56]) C (c_Mo_no l D ct (-2) v56 hc56) ⟨rfl, rfl⟩ yn_yX11_no tw_1186 tw_1185 ⟨Nat.le_of_ble_eq_true rfl, Nat.le_of_ble_eq_true rfl⟩ ⟨Nat.zero_le _, Nat.zero_le _⟩ hP [] rfl hl.1 rfl rfl (Nat.le_of_ble_eq_true rfl) dX11_wisest_56 rfl ?_
  obtain ⟨e1, e2, e3, e4, e5, e6, e7, e8, e9, e10, e11, e12, e13, e14⟩ := ti14 hf
  subst e1; subst e2; subst e3; subst e4; subst e5; subst e6; subst e7; subst e8; subst e9; subst e10; subst e11; subst e12; subst e13; subst e14
  exact kretMl C hP hD hS dX11_wisest_59
set_option maxHeartbeats 4000000 in
set_option maxRecDepth 100000 in
theorem c_Mo_wisest (l : Launch) (D : va_G) (ct : Nat → ClassId) (a_this a_forms a_sizes a_items a_moved a_bytes a_typed a_chances a_longs a_letters a_isThere a_pieceLongs a_pieceLetters a_song a_settings a_guess a_row a_least a_nights : Nat) (f_latest : Int32) (f_guesses : Int32) (F : Nat) (f_bytes : Nat → Int32) (f_typed : Nat → Int32) (f_settings : Nat → Int32) (f_at : Int32) (f_names : Int32) (f_pieces : Int32) (f_songLong : Int32) (f_todo : Int32) (f_chances : Nat → Int32) (f_longs : Nat → Int32) (f_letters : Nat → Int32) (f_isThere : Nat → Int32) (f_pieceLongs : Nat → Int32) (f_pieceLetters : Nat → Int32) (f_song : Nat → Int32) (f_least : Nat → Int64) (x1 : Int32) (x2 : Int32) (x3 : Int32) (r : Int64) (r_at : Int32) (r_names : Int32) (r_pieces : Int32) (r_songLong : Int32) (r_todo : Int32) (r_chances : Nat → Int32) (r_longs : Nat → Int32) (r_letters : Nat → Int32) (r_isThere : Nat → Int32) (r_pieceLongs : Nat → Int32) (r_pieceLetters : Nat → Int32) (r_song : Nat → Int32) (r_least : Nat → Int64) (sz : Nat) (hf : Mo_wisest F f_bytes f_typed f_settings f_at f_names f_pieces f_songLong f_todo f_chances f_longs f_letters f_isThere f_pieceLongs f_pieceLetters f_song f_least x1 x2 x3 = some (r, r_at, r_names, r_pieces, r_songLong, r_todo, r_chances, r_longs, r_letters, r_isThere, r_pieceLongs, r_pieceLetters, r_song, r_least)) : Met l yX11_wisest (WS yX11_wisest cX11_wisest 4 (some .long)) RM_Mo_wisest (va_Pc [.ref a_this, .int x1, .int x2, .int x3] (PM D ct sz (w_Mo_wisest ct a_this a_forms a_sizes a_items a_moved a_bytes a_typed a_chances a_longs a_letters a_isThere a_pieceLongs a_pieceLetters a_song a_settings a_guess a_row a_least a_nights f_latest f_at f_names f_pieces f_songLong f_guesses f_todo f_bytes f_typed f_chances f_longs f_letters f_isThere f_pieceLongs f_pieceLetters f_song f_settings f_least))) (QM D (some (.long r)) (w_Mo_wisest ct a_this a_forms a_sizes a_items a_moved a_bytes a_typed a_chances a_longs a_letters a_isThere a_pieceLongs a_pieceLetters a_song a_settings a_guess a_row a_least a_nights f_latest r_at r_names r_pieces r_songLong f_guesses r_todo f_bytes f_typed r_chances r_longs r_letters r_isThere r_pieceLongs r_pieceLetters r_song f_settings r_least) (va_A (w_Mo_wisest ct a_this a_forms a_sizes a_items a_moved a_bytes a_typed a_chances a_longs a_letters a_isThere a_pieceLongs a_pieceLetters a_song a_settings a_guess a_row a_least a_nights f_latest f_at f_names f_pieces f_songLong f_guesses f_todo f_bytes f_typed f_chances f_longs f_letters f_isThere f_pieceLongs f_pieceLetters f_song f_settings f_least) sz)) 0 0 (va_A (w_Mo_wisest ct a_this a_forms a_sizes a_items a_moved a_bytes a_typed a_chances a_longs a_letters a_isThere a_pieceLongs a_pieceLetters a_song a_settings a_guess a_row a_least a_nights f_latest f_at f_names f_pieces f_songLong f_guesses f_todo f_bytes f_typed f_chances f_longs f_letters f_isThere f_pieceLongs f_pieceLetters f_song f_settings f_least) sz) := by
  refine kMetM yn_yX11_wisest rfl (Nat.le_of_ble_eq_true rfl) ?_
  intro p e s m args below meth c A C hA hP hD ls hl
  have hl : lv_has ls 4 [(0, .ref a_this), (1, .int x1), (2, .int x2), (3, .int x3)] := hl
  have hS : va_S A s.heap s.heap [] := va_S.rf
  obtain ⟨hx, hb, hr, hml, hown, hts, hlk, hK, hN⟩ := id C
  unfold Mo_wisest at hf
  refine lv_aload_n hx hb dX11_wisest_0 rfl (lv_at hl 0 rfl) ?_
  obtain ⟨f_at_1, f_names_1, f_pieces_1, f_songLong_1, f_chances_1, f_longs_1, f_letters_1, f_isThere_1, f_pieceLongs_1, f_pieceLetters_1, f_song_1, hc1, hf⟩ := cb11_some hf
  refine kcMV (q0 := 0) (ci := 11) (As := []) (rest := []) (st1 := []) (wf := (w_Mo_wisest ct a_this a_forms a_sizes a_items a_moved a_bytes a_typed a_chances a_longs a_letters a_isThere a_pieceLongs a_pieceLetters a_song a_settings a_guess a_row a_least a_nights f_latest f_at_1 f_names_1 f_pieces_1 f_songLong_1 f_guesses f_todo f_bytes f_typed f_chances_1 f_longs_1 f_letters_1 f_isThere_1 f_pieceLongs_1 f_pieceLetters_1 f_song_1 f_settings f_least)) C (c_Mo_reads l D ct a_this a_forms a_sizes a_items a_moved a_bytes a_typed a_chances a_longs a_letters a_isThere a_pieceLongs a_pieceLetters a_song a_settings a_guess a_row a_least a_nights f_latest f_guesses f_todo F f_bytes f_typed f_at f_names f_pieces f_songLong f_chances f_longs f_letters f_isThere f_pieceLongs f_pieceLetters f_song f_at_1 f_names_1 f_pieces_1 f_songLong_1 f_chances_1 f_longs_1 f_letters_1 f_isThere_1 f_pieceLongs_1 f_pieceLetters_1 f_song_1 _ hc1) ⟨rfl, rfl⟩ yn_yX11_reads tw_1120 tw_34 tw_1118 ⟨Nat.le_of_ble_eq_true rfl, Nat.le_of_ble_eq_true rfl⟩ ⟨Nat.zero_le _, Nat.zero_le _⟩ hP hD hS hA [0, 1, 2, 3, 4, 5, 6, 7, 8, 9] [10, 11] [2, 3, 4, 5, 6, 7, 8, 9, 10, 11, 0, 1] rfl rfl rfl rfl rfl (by decide) rfl rfl rfl rfl rfl rfl hl.1 rfl rfl (Nat.le_of_ble_eq_true rfl) dX11_wisest_1 rfl (fun H locs hP hD hS => ?_)
  refine lv_iload_n hx hb dX11_wisest_4 rfl (lv_at hl 1 rfl) ?_
  refine lv_i2l (v := Int32.toInt64 x1) hx hb dX11_wisest_5 rfl ?_
  refine lv_lconst (v := 0) hx hb dX11_wisest_6 (by decide) ?_
  refine lv_aload_n hx hb dX11_wisest_7 rfl (lv_at hl 0 rfl) ?_
  refine va_get (ci := 11) (v := .ref a_settings) (C := RX11) (T := TX11) (N := 25) hx hb hts inX11 hown hK hP 0 rfl rfl 18 (by decide) (hts _ tw_962) (fun _ h9 => h9) rfl dX11_wisest_8 ?_
  refine lv_iconst (v := 2) hx hb dX11_wisest_11 (by decide) ?_
  obtain ⟨hin, hf⟩ := rd_some hf
  generalize ev12 : f_settings (Int32.toNatClampNeg 2) = v12 at hf
  refine kiald hx hb hK hP 10 0 rfl rfl hin ev12 dX11_wisest_12 ?_
  refine lv_i2l (v := Int32.toInt64 v12) hx hb dX11_wisest_13 rfl ?_
  obtain ⟨v14, hc14, hf⟩ := cb1_some hf
  refine kcRS (As := [.long (Int32.toInt64 x1), .long 0, .long (Int32.toInt64 v12)]) (rest := []) (st1 := [.int v14]) C (c_Mo_in l D ct (Int32.toInt64 x1) 0 (Int32.toInt64 v12) v14 hc14) ⟨rfl, rfl⟩ yn_yX11_in tw_1030 tw_1029 ⟨Nat.le_of_ble_eq_true rfl, Nat.le_of_ble_eq_true rfl⟩ ⟨Nat.zero_le _, Nat.zero_le _⟩ hP [] rfl hl.1 rfl rfl (Nat.le_of_ble_eq_true rfl) dX11_wisest_14 rfl ?_
  refine lv_if_eq (tgt := 54) hx hb dX11_wisest_17 (by decide) (fun hc => ?_) (fun hc => ?_)
  · have hf := kpos hc hf
    exact t_Mo_wisest_b54 C hA a_this a_forms a_sizes a_items a_moved a_bytes a_typed a_chances a_longs a_letters a_isThere a_pieceLongs a_pieceLetters a_song a_settings a_guess a_row a_least a_nights f_latest f_guesses F f_bytes f_typed f_settings x1 x2 x3 r r_at r_names r_pieces r_songLong r_todo r_chances r_longs r_letters r_isThere r_pieceLongs r_pieceLetters r_song r_least f_at_1 f_names_1 f_pieces_1 f_songLong_1 f_todo f_chances_1 f_longs_1 f_letters_1 f_isThere_1 f_pieceLongs_1 f_pieceLetters_1 f_song_1 f_least hf _ _ hP hD hS _ (lv_sub hl [] rfl)
  · have hf := kneg hc hf
    refine lv_iload_n hx hb dX11_wisest_20 rfl (lv_at hl 2 rfl) ?_
    refine lv_i2l (v := Int32.toInt64 x2) hx hb dX11_wisest_21 rfl ?_
    refine lv_lconst (v := 0) hx hb dX11_wisest_22 (by decide) ?_
    refine lv_ldc2 (v := 1023) hx hb hown (hts _ tw_1252) dX11_wisest_23 ?_
    obtain ⟨v26, hc26, hf⟩ := cb1_some hf
    refine kcRS (As := [.long (Int32.toInt64 x2), .long 0, .long 1023]) (rest := []) (st1 := [.int v26]) C (c_Mo_in l D ct (Int32.toInt64 x2) 0 1023 v26 hc26) ⟨rfl, rfl⟩ yn_yX11_in tw_1030 tw_1029 ⟨Nat.le_of_ble_eq_true rfl, Nat.le_of_ble_eq_true rfl⟩ ⟨Nat.zero_le _, Nat.zero_le _⟩ hP [] rfl hl.1 rfl rfl (Nat.le_of_ble_eq_true rfl) dX11_wisest_26 rfl ?_
    refine lv_if_eq (tgt := 54) hx hb dX11_wisest_29 (by decide) (fun hc => ?_) (fun hc => ?_)
    · have hf := kpos hc hf
      exact t_Mo_wisest_b54 C hA a_this a_forms a_sizes a_items a_moved a_bytes a_typed a_chances a_longs a_letters a_isThere a_pieceLongs a_pieceLetters a_song a_settings a_guess a_row a_least a_nights f_latest f_guesses F f_bytes f_typed f_settings x1 x2 x3 r r_at r_names r_pieces r_songLong r_todo r_chances r_longs r_letters r_isThere r_pieceLongs r_pieceLetters r_song r_least f_at_1 f_names_1 f_pieces_1 f_songLong_1 f_todo f_chances_1 f_longs_1 f_letters_1 f_isThere_1 f_pieceLongs_1 f_pieceLetters_1 f_song_1 f_least hf _ _ hP hD hS _ (lv_sub hl [] rfl)
    · have hf := kneg hc hf
      refine lv_iload_n hx hb dX11_wisest_32 rfl (lv_at hl 3 rfl) ?_
      refine lv_i2l (v := Int32.toInt64 x3) hx hb dX11_wisest_33 rfl ?_
      refine lv_lconst (v := 0) hx hb dX11_wisest_34 (by decide) ?_
      refine lv_ldc2 (v := 2) hx hb hown (hts _ tw_1032) dX11_wisest_35 ?_
      obtain ⟨v38, hc38, hf⟩ := cb1_some hf
      refine kcRS (As := [.long (Int32.toInt64 x3), .long 0, .long 2]) (rest := []) (st1 := [.int v38]) C (c_Mo_in l D ct (Int32.toInt64 x3) 0 2 v38 hc38) ⟨rfl, rfl⟩ yn_yX11_in tw_1030 tw_1029 ⟨Nat.le_of_ble_eq_true rfl, Nat.le_of_ble_eq_true rfl⟩ ⟨Nat.zero_le _, Nat.zero_le _⟩ hP [] rfl hl.1 rfl rfl (Nat.le_of_ble_eq_true rfl) dX11_wisest_38 rfl ?_
      refine lv_if_eq (tgt := 54) hx hb dX11_wisest_41 (by decide) (fun hc => ?_) (fun hc => ?_)
      · have hf := kpos hc hf
        exact t_Mo_wisest_b54 C hA a_this a_forms a_sizes a_items a_moved a_bytes a_typed a_chances a_longs a_letters a_isThere a_pieceLongs a_pieceLetters a_song a_settings a_guess a_row a_least a_nights f_latest f_guesses F f_bytes f_typed f_settings x1 x2 x3 r r_at r_names r_pieces r_songLong r_todo r_chances r_longs r_letters r_isThere r_pieceLongs r_pieceLetters r_song r_least f_at_1 f_names_1 f_pieces_1 f_songLong_1 f_todo f_chances_1 f_longs_1 f_letters_1 f_isThere_1 f_pieceLongs_1 f_pieceLetters_1 f_song_1 f_least hf _ _ hP hD hS _ (lv_sub hl [] rfl)
      · have hf := kneg hc hf
        refine lv_aload_n hx hb dX11_wisest_44 rfl (lv_at hl 0 rfl) ?_
        refine lv_iload_n hx hb dX11_wisest_45 rfl (lv_at hl 1 rfl) ?_
        refine lv_iload_n hx hb dX11_wisest_46 rfl (lv_at hl 2 rfl) ?_
        refine lv_iload_n hx hb dX11_wisest_47 rfl (lv_at hl 3 rfl) ?_
        obtain ⟨v48, f_todo_48, f_least_48, hc48, hf⟩ := cb3_some hf
        refine kcMV (q0 := 0) (ci := 11) (As := [.int x1, .int x2, .int x3]) (rest := []) (st1 := [.long v48]) (wf := (w_Mo_wisest ct a_this a_forms a_sizes a_items a_moved a_bytes a_typed a_chances a_longs a_letters a_isThere a_pieceLongs a_pieceLetters a_song a_settings a_guess a_row a_least a_nights f_latest f_at_1 f_names_1 f_pieces_1 f_songLong_1 f_guesses f_todo_48 f_bytes f_typed f_chances_1 f_longs_1 f_letters_1 f_isThere_1 f_pieceLongs_1 f_pieceLetters_1 f_song_1 f_settings f_least_48)) C (c_Mo_wisestOf l D ct a_this a_forms a_sizes a_items a_moved a_bytes a_typed a_chances a_longs a_letters a_isThere a_pieceLongs a_pieceLetters a_song a_settings a_guess a_row a_least a_nights f_latest f_at_1 f_pieces_1 f_songLong_1 f_guesses F f_names_1 f_chances_1 f_longs_1 f_letters_1 f_settings f_todo f_least x1 x2 x3 v48 f_todo_48 f_least_48 _ hc48) ⟨rfl, rfl⟩ yn_yX11_wisestOf tw_1255 tw_51 tw_1253 ⟨Nat.le_of_ble_eq_true rfl, Nat.le_of_ble_eq_true rfl⟩ ⟨Nat.zero_le _, Nat.zero_le _⟩ hP hD hS hA [0, 3, 4, 5, 10, 11] [1, 2, 6, 7, 8, 9] [6, 0, 1, 7, 8, 9, 2, 3, 4, 5, 10, 11] rfl rfl rfl rfl rfl (by decide) rfl rfl rfl rfl rfl rfl hl.1 rfl rfl (Nat.le_of_ble_eq_true rfl) dX11_wisest_48 rfl (fun H locs hP hD hS => ?_)
        refine lv_goto (tgt := 59) hx hb dX11_wisest_51 (by decide) ?_
        obtain ⟨e1, e2, e3, e4, e5, e6, e7, e8, e9, e10, e11, e12, e13, e14⟩ := ti14 hf
        subst e1; subst e2; subst e3; subst e4; subst e5; subst e6; subst e7; subst e8; subst e9; subst e10; subst e11; subst e12; subst e13; subst e14
        exact kretMl C hP hD hS dX11_wisest_59
def RM_Mo_worstAt : Room := { frames := 2, cells := 0, slots := 0, locals := 47 }
set_option maxHeartbeats 4000000 in
set_option maxRecDepth 100000 in
theorem t_Mo_worstAt_b37 {p : Program} {l : Launch} {e : Env} {s : State} {m : MethodId} {args : Array Value} {below : List Frame} {meth : Method} {c : Code} {D : va_G} {ct : Nat → ClassId} (C : CX p s m args meth c RX11 cX11_worstAt 6 (some .int) D ct) (a_this a_forms a_sizes a_items a_moved a_bytes a_typed a_chances a_longs a_letters a_isThere a_pieceLongs a_pieceLetters a_song a_settings a_guess a_row a_least a_nights : Nat) (f_latest : Int32) (f_at : Int32) (f_pieces : Int32) (f_songLong : Int32) (f_guesses : Int32) (f_todo : Int32) (F : Nat) (f_names : Int32) (f_longs : Nat → Int32) (f_letters : Nat → Int32) (x1 : Int32) (x2 : Int32) (r : Int32) (rec5 : Int32 → Int32 → Option Int32) (hr5 : ∀ (x3 : Int32) (x4 : Int32), rec5 x3 x4 = some r → va_P D vwCl (w_Mo_worstAt ct a_this a_forms a_sizes a_items a_moved a_bytes a_typed a_chances a_longs a_letters a_isThere a_pieceLongs a_pieceLetters a_song a_settings a_guess a_row a_least a_nights f_latest f_at f_names f_pieces f_songLong f_guesses f_todo f_longs f_letters) s.heap → ∀ ls : Array Slot, lv_has ls 6 [(0, .ref a_this), (1, .int x1), (2, .int x2), (3, .int x3), (4, .int x4)] → W p l e RM_Mo_worstAt s m args below meth c s.heap [] 0 0 (MQ below (QR (some (.int r))) args s 0 0 (fun _ => False)) (F0 m 5 ls [])) : ∀ (x4 : Int32) (k0 : Int32), Mo_worstAt_b37 F f_names f_longs f_letters x1 x2 rec5 x4 k0 = some r → va_P D vwCl (w_Mo_worstAt ct a_this a_forms a_sizes a_items a_moved a_bytes a_typed a_chances a_longs a_letters a_isThere a_pieceLongs a_pieceLetters a_song a_settings a_guess a_row a_least a_nights f_latest f_at f_names f_pieces f_songLong f_guesses f_todo f_longs f_letters) s.heap → ∀ ls : Array Slot, lv_has ls 6 [(0, .ref a_this), (1, .int x1), (2, .int x2), (4, .int x4)] → W p l e RM_Mo_worstAt s m args below meth c s.heap [] 0 0 (MQ below (QR (some (.int r))) args s 0 0 (fun _ => False)) (F0 m 37 ls [.int k0]) := by
  obtain ⟨hx, hb, hr, hml, hown, hts, hlk, hK, hN⟩ := id C
  intro x4 k0 hf hP ls hl
  unfold Mo_worstAt_b37 at hf
  refine lv_istore_n (lv' := [(3, .int k0), (0, .ref a_this), (1, .int x1), (2, .int x2), (4, .int x4)]) hx hb dX11_worstAt_37 rfl hl (by decide) rfl (fun ls hl => ?_)
  refine lv_iinc (v := x4 + 1) (lv' := [(4, .int (x4 + 1)), (3, .int k0), (0, .ref a_this), (1, .int x1), (2, .int x2)]) hx hb dX11_worstAt_38 hl (k := 4) rfl rfl (by decide) rfl (fun ls hl => ?_)
  refine lv_goto (tgt := 5) hx hb dX11_worstAt_41 (by decide) ?_
  exact hr5 k0 (x4 + 1) hf hP _ (lv_sub hl [2, 3, 4, 1, 0] rfl)
set_option maxHeartbeats 4000000 in
set_option maxRecDepth 100000 in
theorem t_Mo_worstAt_b5 {p : Program} {l : Launch} {e : Env} {s : State} {m : MethodId} {args : Array Value} {below : List Frame} {meth : Method} {c : Code} {D : va_G} {ct : Nat → ClassId} (C : CX p s m args meth c RX11 cX11_worstAt 6 (some .int) D ct) (a_this a_forms a_sizes a_items a_moved a_bytes a_typed a_chances a_longs a_letters a_isThere a_pieceLongs a_pieceLetters a_song a_settings a_guess a_row a_least a_nights : Nat) (f_latest : Int32) (f_at : Int32) (f_pieces : Int32) (f_songLong : Int32) (f_guesses : Int32) (f_todo : Int32) (F : Nat) (f_names : Int32) (f_longs : Nat → Int32) (f_letters : Nat → Int32) (x1 : Int32) (x2 : Int32) (r : Int32) (rec5 : Int32 → Int32 → Option Int32) (hr5 : ∀ (x3 : Int32) (x4 : Int32), rec5 x3 x4 = some r → va_P D vwCl (w_Mo_worstAt ct a_this a_forms a_sizes a_items a_moved a_bytes a_typed a_chances a_longs a_letters a_isThere a_pieceLongs a_pieceLetters a_song a_settings a_guess a_row a_least a_nights f_latest f_at f_names f_pieces f_songLong f_guesses f_todo f_longs f_letters) s.heap → ∀ ls : Array Slot, lv_has ls 6 [(0, .ref a_this), (1, .int x1), (2, .int x2), (3, .int x3), (4, .int x4)] → W p l e RM_Mo_worstAt s m args below meth c s.heap [] 0 0 (MQ below (QR (some (.int r))) args s 0 0 (fun _ => False)) (F0 m 5 ls [])) : ∀ (x3 : Int32) (x4 : Int32), Mo_worstAt_b5 F f_names f_longs f_letters x1 x2 rec5 x3 x4 = some r → va_P D vwCl (w_Mo_worstAt ct a_this a_forms a_sizes a_items a_moved a_bytes a_typed a_chances a_longs a_letters a_isThere a_pieceLongs a_pieceLetters a_song a_settings a_guess a_row a_least a_nights f_latest f_at f_names f_pieces f_songLong f_guesses f_todo f_longs f_letters) s.heap → ∀ ls : Array Slot, lv_has ls 6 [(0, .ref a_this), (1, .int x1), (2, .int x2), (3, .int x3), (4, .int x4)] → W p l e RM_Mo_worstAt s m args below meth c s.heap [] 0 0 (MQ below (QR (some (.int r))) args s 0 0 (fun _ => False)) (F0 m 5 ls []) := by
  obtain ⟨hx, hb, hr, hml, hown, hts, hlk, hK, hN⟩ := id C
  intro x3 x4 hf hP ls hl
  unfold Mo_worstAt_b5 at hf
  refine lv_iload hx hb dX11_worstAt_5 (lv_at hl 4 rfl) ?_
  refine lv_bipush (v := 7) hx hb dX11_worstAt_7 (by decide) ?_
  refine lv_icmp_ge (tgt := 44) hx hb dX11_worstAt_9 (by decide) (fun hc => ?_) (fun hc => ?_)
  · have hf := kpos hc hf
    refine lv_iload_n hx hb dX11_worstAt_44 rfl (lv_at hl 3 rfl) ?_
    have e1 := Option.some.inj hf
    subst e1
    exact kretR C dX11_worstAt_45
  · have hf := kneg hc hf
    refine lv_aload_n hx hb dX11_worstAt_12 rfl (lv_at hl 0 rfl) ?_
    refine lv_iload_n hx hb dX11_worstAt_13 rfl (lv_at hl 1 rfl) ?_
    refine lv_iload_n hx hb dX11_worstAt_14 rfl (lv_at hl 2 rfl) ?_
    refine lv_iload hx hb dX11_worstAt_15 (lv_at hl 4 rfl) ?_
    obtain ⟨v17, hc17, hf⟩ := cb1_some hf
    refine kcRV (q0 := 0) (ci := 11) (As := [.int x1, .int x2, .int x4]) (rest := []) (st1 := [.int v17]) C (c_Mo_withLetter l D ct a_this a_forms a_sizes a_items a_moved a_bytes a_typed a_chances a_longs a_letters a_isThere a_pieceLongs a_pieceLetters a_song a_settings a_guess a_row a_least a_nights f_latest f_at f_pieces f_songLong f_guesses f_todo F f_names f_longs f_letters x1 x2 x4 v17 hc17) ⟨rfl, rfl⟩ yn_yX11_withLetter tw_1276 tw_56 tw_1274 ⟨Nat.le_of_ble_eq_true rfl, Nat.le_of_ble_eq_true rfl⟩ ⟨Nat.zero_le _, Nat.zero_le _⟩ hP [0, 1, 2] rfl rfl rfl rfl hl.1 rfl rfl (Nat.le_of_ble_eq_true rfl) dX11_worstAt_17 rfl ?_
    obtain ⟨v20, hc20, hf⟩ := cb1_some hf
    refine kcRS (As := [.int v17]) (rest := []) (st1 := [.int v20]) C (c_Mo_ones l D ct F v17 v20 hc20) ⟨rfl, rfl⟩ yn_yX11_ones tw_1299 tw_1298 ⟨Nat.le_of_ble_eq_true rfl, Nat.le_of_ble_eq_true rfl⟩ ⟨Nat.zero_le _, Nat.zero_le _⟩ hP [] rfl hl.1 rfl rfl (Nat.le_of_ble_eq_true rfl) dX11_worstAt_20 rfl ?_
    refine lv_istore (lv' := [(5, .int v20), (0, .ref a_this), (1, .int x1), (2, .int x2), (3, .int x3), (4, .int x4)]) hx hb dX11_worstAt_23 hl (by decide) rfl (fun ls hl => ?_)
    refine lv_iload hx hb dX11_worstAt_25 (lv_at hl 0 rfl) ?_
    refine lv_iload_n hx hb dX11_worstAt_27 rfl (lv_at hl 4 rfl) ?_
    refine lv_icmp_le (tgt := 36) hx hb dX11_worstAt_28 (by decide) (fun hc => ?_) (fun hc => ?_)
    · have hf := kpos hc hf
      refine lv_iload_n hx hb dX11_worstAt_36 rfl (lv_at hl 4 rfl) ?_
      exact t_Mo_worstAt_b37 C a_this a_forms a_sizes a_items a_moved a_bytes a_typed a_chances a_longs a_letters a_isThere a_pieceLongs a_pieceLetters a_song a_settings a_guess a_row a_least a_nights f_latest f_at f_pieces f_songLong f_guesses f_todo F f_names f_longs f_letters x1 x2 r rec5 hr5 x4 x3 hf hP _ (lv_sub hl [1, 2, 3, 5] rfl)
    · have hf := kneg hc hf
      refine lv_iload hx hb dX11_worstAt_31 (lv_at hl 0 rfl) ?_
      refine lv_goto (tgt := 37) hx hb dX11_worstAt_33 (by decide) ?_
      exact t_Mo_worstAt_b37 C a_this a_forms a_sizes a_items a_moved a_bytes a_typed a_chances a_longs a_letters a_isThere a_pieceLongs a_pieceLetters a_song a_settings a_guess a_row a_least a_nights f_latest f_at f_pieces f_songLong f_guesses f_todo F f_names f_longs f_letters x1 x2 r rec5 hr5 x4 v20 hf hP _ (lv_sub hl [1, 2, 3, 5] rfl)
set_option maxHeartbeats 4000000 in
set_option maxRecDepth 100000 in
theorem t_Mo_worstAt_l5 {p : Program} {l : Launch} {e : Env} {s : State} {m : MethodId} {args : Array Value} {below : List Frame} {meth : Method} {c : Code} {D : va_G} {ct : Nat → ClassId} (C : CX p s m args meth c RX11 cX11_worstAt 6 (some .int) D ct) (a_this a_forms a_sizes a_items a_moved a_bytes a_typed a_chances a_longs a_letters a_isThere a_pieceLongs a_pieceLetters a_song a_settings a_guess a_row a_least a_nights : Nat) (f_latest : Int32) (f_at : Int32) (f_pieces : Int32) (f_songLong : Int32) (f_guesses : Int32) (f_todo : Int32) (F : Nat) (f_names : Int32) (f_longs : Nat → Int32) (f_letters : Nat → Int32) (x1 : Int32) (x2 : Int32) (r : Int32) : ∀ (n : Nat) (x3 : Int32) (x4 : Int32), Mo_worstAt_l5 F f_names f_longs f_letters x1 x2 n x3 x4 = some r → va_P D vwCl (w_Mo_worstAt ct a_this a_forms a_sizes a_items a_moved a_bytes a_typed a_chances a_longs a_letters a_isThere a_pieceLongs a_pieceLetters a_song a_settings a_guess a_row a_least a_nights f_latest f_at f_names f_pieces f_songLong f_guesses f_todo f_longs f_letters) s.heap → ∀ ls : Array Slot, lv_has ls 6 [(0, .ref a_this), (1, .int x1), (2, .int x2), (3, .int x3), (4, .int x4)] → W p l e RM_Mo_worstAt s m args below meth c s.heap [] 0 0 (MQ below (QR (some (.int r))) args s 0 0 (fun _ => False)) (F0 m 5 ls []) := by
  intro n
  induction n with
  | zero =>
    intro x3 x4 hf
    exact absurd hf (by simp [Mo_worstAt_l5])
  | succ n ih =>
    intro x3 x4 hf
    exact t_Mo_worstAt_b5 C a_this a_forms a_sizes a_items a_moved a_bytes a_typed a_chances a_longs a_letters a_isThere a_pieceLongs a_pieceLetters a_song a_settings a_guess a_row a_least a_nights f_latest f_at f_pieces f_songLong f_guesses f_todo F f_names f_longs f_letters x1 x2 r (Mo_worstAt_l5 F f_names f_longs f_letters x1 x2 n) ih x3 x4 hf
set_option maxHeartbeats 4000000 in
set_option maxRecDepth 100000 in
theorem c_Mo_worstAt (l : Launch) (D : va_G) (ct : Nat → ClassId) (a_this a_forms a_sizes a_items a_moved a_bytes a_typed a_chances a_longs a_letters a_isThere a_pieceLongs a_pieceLetters a_song a_settings a_guess a_row a_least a_nights : Nat) (f_latest : Int32) (f_at : Int32) (f_pieces : Int32) (f_songLong : Int32) (f_guesses : Int32) (f_todo : Int32) (F : Nat) (f_names : Int32) (f_longs : Nat → Int32) (f_letters : Nat → Int32) (x1 : Int32) (x2 : Int32) (r : Int32) (hf : Mo_worstAt F f_names f_longs f_letters x1 x2 = some r) : Met l yX11_worstAt (WS yX11_worstAt cX11_worstAt 6 (some .int)) RM_Mo_worstAt (va_Pc [.ref a_this, .int x1, .int x2] (PR D ct (w_Mo_worstAt ct a_this a_forms a_sizes a_items a_moved a_bytes a_typed a_chances a_longs a_letters a_isThere a_pieceLongs a_pieceLetters a_song a_settings a_guess a_row a_least a_nights f_latest f_at f_names f_pieces f_songLong f_guesses f_todo f_longs f_letters))) (QR (some (.int r))) 0 0 (fun _ => False) := by
  refine kMetR yn_yX11_worstAt rfl (Nat.le_of_ble_eq_true rfl) ?_
  intro p e s m args below meth c C hP ls hl
  have hl : lv_has ls 6 [(0, .ref a_this), (1, .int x1), (2, .int x2)] := hl
  obtain ⟨hx, hb, hr, hml, hown, hts, hlk, hK, hN⟩ := id C
  unfold Mo_worstAt at hf
  refine lv_iconst (v := 0) hx hb dX11_worstAt_0 (by decide) ?_
  refine lv_istore_n (lv' := [(3, .int 0), (0, .ref a_this), (1, .int x1), (2, .int x2)]) hx hb dX11_worstAt_1 rfl hl (by decide) rfl (fun ls hl => ?_)
  refine lv_iconst (v := 0) hx hb dX11_worstAt_2 (by decide) ?_
  refine lv_istore (lv' := [(4, .int 0), (3, .int 0), (0, .ref a_this), (1, .int x1), (2, .int x2)]) hx hb dX11_worstAt_3 hl (by decide) rfl (fun ls hl => ?_)
  exact t_Mo_worstAt_l5 C a_this a_forms a_sizes a_items a_moved a_bytes a_typed a_chances a_longs a_letters a_isThere a_pieceLongs a_pieceLetters a_song a_settings a_guess a_row a_least a_nights f_latest f_at f_pieces f_songLong f_guesses f_todo F f_names f_longs f_letters x1 x2 r F 0 0 hf hP _ (lv_sub hl [2, 3, 4, 1, 0] rfl)
def RM_Mo_listenOf : Room := { frames := 3, cells := 0, slots := 0, locals := 72 }
set_option maxHeartbeats 4000000 in
set_option maxRecDepth 100000 in
theorem t_Mo_listenOf_b53 {p : Program} {l : Launch} {e : Env} {s : State} {m : MethodId} {args : Array Value} {below : List Frame} {meth : Method} {c : Code} {D : va_G} {ct : Nat → ClassId} (C : CX p s m args meth c RX11 cX11_listenOf 5 (some .int) D ct) (a_this a_forms a_sizes a_items a_moved a_bytes a_typed a_chances a_longs a_letters a_isThere a_pieceLongs a_pieceLetters a_song a_settings a_guess a_row a_least a_nights : Nat) (f_latest : Int32) (f_at : Int32) (f_guesses : Int32) (f_todo : Int32) (F : Nat) (f_names : Int32) (f_pieces : Int32) (f_songLong : Int32) (f_longs : Nat → Int32) (f_letters : Nat → Int32) (f_isThere : Nat → Int32) (f_pieceLongs : Nat → Int32) (f_pieceLetters : Nat → Int32) (f_song : Nat → Int32) (x1 : Int32) (r : Int32) : ∀ (x2 : Int32) (x3 : Int32), Mo_listenOf_b53 F f_names f_pieces f_songLong f_longs f_letters f_isThere f_pieceLongs f_pieceLetters f_song x1 x2 x3 = some r → va_P D vwCl (w_Mo_listenOf ct a_this a_forms a_sizes a_items a_moved a_bytes a_typed a_chances a_longs a_letters a_isThere a_pieceLongs a_pieceLetters a_song a_settings a_guess a_row a_least a_nights f_latest f_at f_names f_pieces f_songLong f_guesses f_todo f_longs f_letters f_isThere f_pieceLongs f_pieceLetters f_song) s.heap → ∀ ls : Array Slot, lv_has ls 5 [(0, .ref a_this), (1, .int x1), (2, .int x2), (3, .int x3)] → W p l e RM_Mo_listenOf s m args below meth c s.heap [] 0 0 (MQ below (QR (some (.int r))) args s 0 0 (fun _ => False)) (F0 m 53 ls []) := by
  obtain ⟨hx, hb, hr, hml, hown, hts, hlk, hK, hN⟩ := id C
  intro x2 x3 hf hP ls hl
  unfold Mo_listenOf_b53 at hf
  refine lv_iload_n hx hb dX11_listenOf_53 rfl (lv_at hl 1 rfl) ?_
  refine lv_if_ne (tgt := 61) hx hb dX11_listenOf_54 (by decide) (fun hc => ?_) (fun hc => ?_)
  · have hf := kneg hc hf
    refine lv_aload_n hx hb dX11_listenOf_61 rfl (lv_at hl 0 rfl) ?_
    refine lv_iload_n hx hb dX11_listenOf_62 rfl (lv_at hl 2 rfl) ?_
    refine lv_iload_n hx hb dX11_listenOf_63 rfl (lv_at hl 3 rfl) ?_
    obtain ⟨v64, hc64, hf⟩ := cb1_some hf
    refine kcRV (q0 := 0) (ci := 11) (As := [.int x2, .int x3]) (rest := []) (st1 := [.int v64]) C (c_Mo_worstAt l D ct a_this a_forms a_sizes a_items a_moved a_bytes a_typed a_chances a_longs a_letters a_isThere a_pieceLongs a_pieceLetters a_song a_settings a_guess a_row a_least a_nights f_latest f_at f_pieces f_songLong f_guesses f_todo F f_names f_longs f_letters x2 x3 v64 hc64) ⟨rfl, rfl⟩ yn_yX11_worstAt tw_1296 tw_60 tw_1294 ⟨Nat.le_of_ble_eq_true rfl, Nat.le_of_ble_eq_true rfl⟩ ⟨Nat.zero_le _, Nat.zero_le _⟩ hP [0, 1, 2] rfl rfl rfl rfl hl.1 rfl rfl (Nat.le_of_ble_eq_true rfl) dX11_listenOf_64 rfl ?_
    have e1 := Option.some.inj hf
    subst e1
    exact kretR C dX11_listenOf_67
  · have hf := kpos hc hf
    refine lv_iload_n hx hb dX11_listenOf_57 rfl (lv_at hl 3 rfl) ?_
    refine lv_goto (tgt := 67) hx hb dX11_listenOf_58 (by decide) ?_
    have e1 := Option.some.inj hf
    subst e1
    exact kretR C dX11_listenOf_67
set_option maxHeartbeats 4000000 in
set_option maxRecDepth 100000 in
theorem t_Mo_listenOf_b46 {p : Program} {l : Launch} {e : Env} {s : State} {m : MethodId} {args : Array Value} {below : List Frame} {meth : Method} {c : Code} {D : va_G} {ct : Nat → ClassId} (C : CX p s m args meth c RX11 cX11_listenOf 5 (some .int) D ct) (a_this a_forms a_sizes a_items a_moved a_bytes a_typed a_chances a_longs a_letters a_isThere a_pieceLongs a_pieceLetters a_song a_settings a_guess a_row a_least a_nights : Nat) (f_latest : Int32) (f_at : Int32) (f_guesses : Int32) (f_todo : Int32) (F : Nat) (f_names : Int32) (f_pieces : Int32) (f_songLong : Int32) (f_longs : Nat → Int32) (f_letters : Nat → Int32) (f_isThere : Nat → Int32) (f_pieceLongs : Nat → Int32) (f_pieceLetters : Nat → Int32) (f_song : Nat → Int32) (x1 : Int32) (r : Int32) (rec17 : Int32 → Int32 → Int32 → Option Int32) (hr17 : ∀ (x2 : Int32) (x3 : Int32) (x4 : Int32), rec17 x2 x3 x4 = some r → va_P D vwCl (w_Mo_listenOf ct a_this a_forms a_sizes a_items a_moved a_bytes a_typed a_chances a_longs a_letters a_isThere a_pieceLongs a_pieceLetters a_song a_settings a_guess a_row a_least a_nights f_latest f_at f_names f_pieces f_songLong f_guesses f_todo f_longs f_letters f_isThere f_pieceLongs f_pieceLetters f_song) s.heap → ∀ ls : Array Slot, lv_has ls 5 [(0, .ref a_this), (1, .int x1), (2, .int x2), (3, .int x3), (4, .int x4)] → W p l e RM_Mo_listenOf s m args below meth c s.heap [] 0 0 (MQ below (QR (some (.int r))) args s 0 0 (fun _ => False)) (F0 m 17 ls [])) : ∀ (x2 : Int32) (x4 : Int32) (k0 : Int32), Mo_listenOf_b46 F f_names f_pieces f_songLong f_longs f_letters f_isThere f_pieceLongs f_pieceLetters f_song x1 rec17 x2 x4 k0 = some r → va_P D vwCl (w_Mo_listenOf ct a_this a_forms a_sizes a_items a_moved a_bytes a_typed a_chances a_longs a_letters a_isThere a_pieceLongs a_pieceLetters a_song a_settings a_guess a_row a_least a_nights f_latest f_at f_names f_pieces f_songLong f_guesses f_todo f_longs f_letters f_isThere f_pieceLongs f_pieceLetters f_song) s.heap → ∀ ls : Array Slot, lv_has ls 5 [(0, .ref a_this), (1, .int x1), (2, .int x2), (4, .int x4)] → W p l e RM_Mo_listenOf s m args below meth c s.heap [] 0 0 (MQ below (QR (some (.int r))) args s 0 0 (fun _ => False)) (F0 m 46 ls [.int k0]) := by
  obtain ⟨hx, hb, hr, hml, hown, hts, hlk, hK, hN⟩ := id C
  intro x2 x4 k0 hf hP ls hl
  unfold Mo_listenOf_b46 at hf
  refine lv_istore_n (lv' := [(3, .int k0), (0, .ref a_this), (1, .int x1), (2, .int x2), (4, .int x4)]) hx hb dX11_listenOf_46 rfl hl (by decide) rfl (fun ls hl => ?_)
  refine lv_iinc (v := x4 + 1) (lv' := [(4, .int (x4 + 1)), (3, .int k0), (0, .ref a_this), (1, .int x1), (2, .int x2)]) hx hb dX11_listenOf_47 hl (k := 4) rfl rfl (by decide) rfl (fun ls hl => ?_)
  refine lv_goto (tgt := 17) hx hb dX11_listenOf_50 (by decide) ?_
  exact hr17 x2 k0 (x4 + 1) hf hP _ (lv_sub hl [2, 3, 4, 1, 0] rfl)
set_option maxHeartbeats 4000000 in
set_option maxRecDepth 100000 in
theorem t_Mo_listenOf_b17 {p : Program} {l : Launch} {e : Env} {s : State} {m : MethodId} {args : Array Value} {below : List Frame} {meth : Method} {c : Code} {D : va_G} {ct : Nat → ClassId} (C : CX p s m args meth c RX11 cX11_listenOf 5 (some .int) D ct) (a_this a_forms a_sizes a_items a_moved a_bytes a_typed a_chances a_longs a_letters a_isThere a_pieceLongs a_pieceLetters a_song a_settings a_guess a_row a_least a_nights : Nat) (f_latest : Int32) (f_at : Int32) (f_guesses : Int32) (f_todo : Int32) (F : Nat) (f_names : Int32) (f_pieces : Int32) (f_songLong : Int32) (f_longs : Nat → Int32) (f_letters : Nat → Int32) (f_isThere : Nat → Int32) (f_pieceLongs : Nat → Int32) (f_pieceLetters : Nat → Int32) (f_song : Nat → Int32) (x1 : Int32) (r : Int32) (rec17 : Int32 → Int32 → Int32 → Option Int32) (hr17 : ∀ (x2 : Int32) (x3 : Int32) (x4 : Int32), rec17 x2 x3 x4 = some r → va_P D vwCl (w_Mo_listenOf ct a_this a_forms a_sizes a_items a_moved a_bytes a_typed a_chances a_longs a_letters a_isThere a_pieceLongs a_pieceLetters a_song a_settings a_guess a_row a_least a_nights f_latest f_at f_names f_pieces f_songLong f_guesses f_todo f_longs f_letters f_isThere f_pieceLongs f_pieceLetters f_song) s.heap → ∀ ls : Array Slot, lv_has ls 5 [(0, .ref a_this), (1, .int x1), (2, .int x2), (3, .int x3), (4, .int x4)] → W p l e RM_Mo_listenOf s m args below meth c s.heap [] 0 0 (MQ below (QR (some (.int r))) args s 0 0 (fun _ => False)) (F0 m 17 ls [])) : ∀ (x2 : Int32) (x3 : Int32) (x4 : Int32), Mo_listenOf_b17 F f_names f_pieces f_songLong f_longs f_letters f_isThere f_pieceLongs f_pieceLetters f_song x1 rec17 x2 x3 x4 = some r → va_P D vwCl (w_Mo_listenOf ct a_this a_forms a_sizes a_items a_moved a_bytes a_typed a_chances a_longs a_letters a_isThere a_pieceLongs a_pieceLetters a_song a_settings a_guess a_row a_least a_nights f_latest f_at f_names f_pieces f_songLong f_guesses f_todo f_longs f_letters f_isThere f_pieceLongs f_pieceLetters f_song) s.heap → ∀ ls : Array Slot, lv_has ls 5 [(0, .ref a_this), (1, .int x1), (2, .int x2), (3, .int x3), (4, .int x4)] → W p l e RM_Mo_listenOf s m args below meth c s.heap [] 0 0 (MQ below (QR (some (.int r))) args s 0 0 (fun _ => False)) (F0 m 17 ls []) := by
  obtain ⟨hx, hb, hr, hml, hown, hts, hlk, hK, hN⟩ := id C
  intro x2 x3 x4 hf hP ls hl
  unfold Mo_listenOf_b17 at hf
  refine lv_iload hx hb dX11_listenOf_17 (lv_at hl 4 rfl) ?_
  refine lv_bipush (v := 6) hx hb dX11_listenOf_19 (by decide) ?_
  refine lv_icmp_ge (tgt := 53) hx hb dX11_listenOf_21 (by decide) (fun hc => ?_) (fun hc => ?_)
  · have hf := kpos hc hf
    exact t_Mo_listenOf_b53 C a_this a_forms a_sizes a_items a_moved a_bytes a_typed a_chances a_longs a_letters a_isThere a_pieceLongs a_pieceLetters a_song a_settings a_guess a_row a_least a_nights f_latest f_at f_guesses f_todo F f_names f_pieces f_songLong f_longs f_letters f_isThere f_pieceLongs f_pieceLetters f_song x1 r x2 x3 hf hP _ (lv_sub hl [0, 1, 2, 3] rfl)
  · have hf := kneg hc hf
    refine lv_aload_n hx hb dX11_listenOf_24 rfl (lv_at hl 0 rfl) ?_
    refine lv_iload_n hx hb dX11_listenOf_25 rfl (lv_at hl 2 rfl) ?_
    refine lv_iload hx hb dX11_listenOf_26 (lv_at hl 4 rfl) ?_
    obtain ⟨v28, hc28, hf⟩ := cb1_some hf
    refine kcRV (q0 := 0) (ci := 11) (As := [.int x2, .int x4]) (rest := []) (st1 := [.int v28]) C (c_Mo_worstAt l D ct a_this a_forms a_sizes a_items a_moved a_bytes a_typed a_chances a_longs a_letters a_isThere a_pieceLongs a_pieceLetters a_song a_settings a_guess a_row a_least a_nights f_latest f_at f_pieces f_songLong f_guesses f_todo F f_names f_longs f_letters x2 x4 v28 hc28) ⟨rfl, rfl⟩ yn_yX11_worstAt tw_1296 tw_60 tw_1294 ⟨Nat.le_of_ble_eq_true rfl, Nat.le_of_ble_eq_true rfl⟩ ⟨Nat.zero_le _, Nat.zero_le _⟩ hP [0, 1, 2] rfl rfl rfl rfl hl.1 rfl rfl (Nat.le_of_ble_eq_true rfl) dX11_listenOf_28 rfl ?_
    refine lv_aload_n hx hb dX11_listenOf_31 rfl (lv_at hl 0 rfl) ?_
    refine lv_iload_n hx hb dX11_listenOf_32 rfl (lv_at hl 2 rfl) ?_
    refine lv_iload_n hx hb dX11_listenOf_33 rfl (lv_at hl 3 rfl) ?_
    obtain ⟨v34, hc34, hf⟩ := cb1_some hf
    refine kcRV (q0 := 0) (ci := 11) (As := [.int x2, .int x3]) (rest := [.int v28]) (st1 := [.int v34, .int v28]) C (c_Mo_worstAt l D ct a_this a_forms a_sizes a_items a_moved a_bytes a_typed a_chances a_longs a_letters a_isThere a_pieceLongs a_pieceLetters a_song a_settings a_guess a_row a_least a_nights f_latest f_at f_pieces f_songLong f_guesses f_todo F f_names f_longs f_letters x2 x3 v34 hc34) ⟨rfl, rfl⟩ yn_yX11_worstAt tw_1296 tw_60 tw_1294 ⟨Nat.le_of_ble_eq_true rfl, Nat.le_of_ble_eq_true rfl⟩ ⟨Nat.zero_le _, Nat.zero_le _⟩ hP [0, 1, 2] rfl rfl rfl rfl hl.1 rfl rfl (Nat.le_of_ble_eq_true rfl) dX11_listenOf_34 rfl ?_
    refine lv_icmp_ge (tgt := 45) hx hb dX11_listenOf_37 (by decide) (fun hc => ?_) (fun hc => ?_)
    · have hf := kpos hc hf
      refine lv_iload_n hx hb dX11_listenOf_45 rfl (lv_at hl 3 rfl) ?_
      exact t_Mo_listenOf_b46 C a_this a_forms a_sizes a_items a_moved a_bytes a_typed a_chances a_longs a_letters a_isThere a_pieceLongs a_pieceLetters a_song a_settings a_guess a_row a_least a_nights f_latest f_at f_guesses f_todo F f_names f_pieces f_songLong f_longs f_letters f_isThere f_pieceLongs f_pieceLetters f_song x1 r rec17 hr17 x2 x4 x3 hf hP _ (lv_sub hl [0, 1, 2, 4] rfl)
    · have hf := kneg hc hf
      refine lv_iload hx hb dX11_listenOf_40 (lv_at hl 4 rfl) ?_
      refine lv_goto (tgt := 46) hx hb dX11_listenOf_42 (by decide) ?_
      exact t_Mo_listenOf_b46 C a_this a_forms a_sizes a_items a_moved a_bytes a_typed a_chances a_longs a_letters a_isThere a_pieceLongs a_pieceLetters a_song a_settings a_guess a_row a_least a_nights f_latest f_at f_guesses f_todo F f_names f_pieces f_songLong f_longs f_letters f_isThere f_pieceLongs f_pieceLetters f_song x1 r rec17 hr17 x2 x4 x4 hf hP _ (lv_sub hl [0, 1, 2, 4] rfl)
set_option maxHeartbeats 4000000 in
set_option maxRecDepth 100000 in
theorem t_Mo_listenOf_l17 {p : Program} {l : Launch} {e : Env} {s : State} {m : MethodId} {args : Array Value} {below : List Frame} {meth : Method} {c : Code} {D : va_G} {ct : Nat → ClassId} (C : CX p s m args meth c RX11 cX11_listenOf 5 (some .int) D ct) (a_this a_forms a_sizes a_items a_moved a_bytes a_typed a_chances a_longs a_letters a_isThere a_pieceLongs a_pieceLetters a_song a_settings a_guess a_row a_least a_nights : Nat) (f_latest : Int32) (f_at : Int32) (f_guesses : Int32) (f_todo : Int32) (F : Nat) (f_names : Int32) (f_pieces : Int32) (f_songLong : Int32) (f_longs : Nat → Int32) (f_letters : Nat → Int32) (f_isThere : Nat → Int32) (f_pieceLongs : Nat → Int32) (f_pieceLetters : Nat → Int32) (f_song : Nat → Int32) (x1 : Int32) (r : Int32) : ∀ (n : Nat) (x2 : Int32) (x3 : Int32) (x4 : Int32), Mo_listenOf_l17 F f_names f_pieces f_songLong f_longs f_letters f_isThere f_pieceLongs f_pieceLetters f_song x1 n x2 x3 x4 = some r → va_P D vwCl (w_Mo_listenOf ct a_this a_forms a_sizes a_items a_moved a_bytes a_typed a_chances a_longs a_letters a_isThere a_pieceLongs a_pieceLetters a_song a_settings a_guess a_row a_least a_nights f_latest f_at f_names f_pieces f_songLong f_guesses f_todo f_longs f_letters f_isThere f_pieceLongs f_pieceLetters f_song) s.heap → ∀ ls : Array Slot, lv_has ls 5 [(0, .ref a_this), (1, .int x1), (2, .int x2), (3, .int x3), (4, .int x4)] → W p l e RM_Mo_listenOf s m args below meth c s.heap [] 0 0 (MQ below (QR (some (.int r))) args s 0 0 (fun _ => False)) (F0 m 17 ls []) := by
  intro n
  induction n with
  | zero =>
    intro x2 x3 x4 hf
    exact absurd hf (by simp [Mo_listenOf_l17])
  | succ n ih =>
    intro x2 x3 x4 hf
    exact t_Mo_listenOf_b17 C a_this a_forms a_sizes a_items a_moved a_bytes a_typed a_chances a_longs a_letters a_isThere a_pieceLongs a_pieceLetters a_song a_settings a_guess a_row a_least a_nights f_latest f_at f_guesses f_todo F f_names f_pieces f_songLong f_longs f_letters f_isThere f_pieceLongs f_pieceLetters f_song x1 r (Mo_listenOf_l17 F f_names f_pieces f_songLong f_longs f_letters f_isThere f_pieceLongs f_pieceLetters f_song x1 n) ih x2 x3 x4 hf
set_option maxHeartbeats 4000000 in
set_option maxRecDepth 100000 in
theorem c_Mo_listenOf (l : Launch) (D : va_G) (ct : Nat → ClassId) (a_this a_forms a_sizes a_items a_moved a_bytes a_typed a_chances a_longs a_letters a_isThere a_pieceLongs a_pieceLetters a_song a_settings a_guess a_row a_least a_nights : Nat) (f_latest : Int32) (f_at : Int32) (f_guesses : Int32) (f_todo : Int32) (F : Nat) (f_names : Int32) (f_pieces : Int32) (f_songLong : Int32) (f_longs : Nat → Int32) (f_letters : Nat → Int32) (f_isThere : Nat → Int32) (f_pieceLongs : Nat → Int32) (f_pieceLetters : Nat → Int32) (f_song : Nat → Int32) (x1 : Int32) (r : Int32) (hf : Mo_listenOf F f_names f_pieces f_songLong f_longs f_letters f_isThere f_pieceLongs f_pieceLetters f_song x1 = some r) : Met l yX11_listenOf (WS yX11_listenOf cX11_listenOf 5 (some .int)) RM_Mo_listenOf (va_Pc [.ref a_this, .int x1] (PR D ct (w_Mo_listenOf ct a_this a_forms a_sizes a_items a_moved a_bytes a_typed a_chances a_longs a_letters a_isThere a_pieceLongs a_pieceLetters a_song a_settings a_guess a_row a_least a_nights f_latest f_at f_names f_pieces f_songLong f_guesses f_todo f_longs f_letters f_isThere f_pieceLongs f_pieceLetters f_song))) (QR (some (.int r))) 0 0 (fun _ => False) := by
  refine kMetR yn_yX11_listenOf rfl (Nat.le_of_ble_eq_true rfl) ?_
  intro p e s m args below meth c C hP ls hl
  have hl : lv_has ls 5 [(0, .ref a_this), (1, .int x1)] := hl
  obtain ⟨hx, hb, hr, hml, hown, hts, hlk, hK, hN⟩ := id C
  unfold Mo_listenOf at hf
  refine lv_aload_n hx hb dX11_listenOf_0 rfl (lv_at hl 0 rfl) ?_
  obtain ⟨v1, hc1, hf⟩ := cb1_some hf
  refine kcRV (q0 := 0) (ci := 11) (As := []) (rest := []) (st1 := [.int v1]) C (c_Mo_fitsNow l D ct a_this a_forms a_sizes a_items a_moved a_bytes a_typed a_chances a_longs a_letters a_isThere a_pieceLongs a_pieceLetters a_song a_settings a_guess a_row a_least a_nights f_latest f_at f_guesses f_todo F f_names f_pieces f_songLong f_longs f_letters f_isThere f_pieceLongs f_pieceLetters f_song v1 hc1) ⟨rfl, rfl⟩ yn_yX11_fitsNow tw_1157 tw_37 tw_1155 ⟨Nat.le_of_ble_eq_true rfl, Nat.le_of_ble_eq_true rfl⟩ ⟨Nat.zero_le _, Nat.zero_le _⟩ hP [0, 1, 2, 3, 4, 5, 6] rfl rfl rfl rfl hl.1 rfl rfl (Nat.le_of_ble_eq_true rfl) dX11_listenOf_1 rfl ?_
  refine lv_istore_n (lv' := [(2, .int v1), (0, .ref a_this), (1, .int x1)]) hx hb dX11_listenOf_4 rfl hl (by decide) rfl (fun ls hl => ?_)
  refine lv_iload_n hx hb dX11_listenOf_5 rfl (lv_at hl 0 rfl) ?_
  refine lv_if_ne (tgt := 12) hx hb dX11_listenOf_6 (by decide) (fun hc => ?_) (fun hc => ?_)
  · have hf := kneg hc hf
    refine lv_iconst (v := 0) hx hb dX11_listenOf_12 (by decide) ?_
    refine lv_istore_n (lv' := [(3, .int 0), (2, .int v1), (0, .ref a_this), (1, .int x1)]) hx hb dX11_listenOf_13 rfl hl (by decide) rfl (fun ls hl => ?_)
    refine lv_iconst (v := 1) hx hb dX11_listenOf_14 (by decide) ?_
    refine lv_istore (lv' := [(4, .int 1), (3, .int 0), (2, .int v1), (0, .ref a_this), (1, .int x1)]) hx hb dX11_listenOf_15 hl (by decide) rfl (fun ls hl => ?_)
    exact t_Mo_listenOf_l17 C a_this a_forms a_sizes a_items a_moved a_bytes a_typed a_chances a_longs a_letters a_isThere a_pieceLongs a_pieceLetters a_song a_settings a_guess a_row a_least a_nights f_latest f_at f_guesses f_todo F f_names f_pieces f_songLong f_longs f_letters f_isThere f_pieceLongs f_pieceLetters f_song x1 r F v1 0 1 hf hP _ (lv_sub hl [3, 4, 2, 1, 0] rfl)
  · have hf := kpos hc hf
    refine lv_bipush (v := (-3)) hx hb dX11_listenOf_9 (by decide) ?_
    have e1 := Option.some.inj hf
    subst e1
    exact kretR C dX11_listenOf_11
def RM_Mo_listen : Room := { frames := 5, cells := 0, slots := 0, locals := 111 }
set_option maxHeartbeats 4000000 in
set_option maxRecDepth 100000 in
theorem c_Mo_listen (l : Launch) (D : va_G) (ct : Nat → ClassId) (a_this a_forms a_sizes a_items a_moved a_bytes a_typed a_chances a_longs a_letters a_isThere a_pieceLongs a_pieceLetters a_song a_settings a_guess a_row a_least a_nights : Nat) (f_latest : Int32) (f_guesses : Int32) (f_todo : Int32) (F : Nat) (f_bytes : Nat → Int32) (f_typed : Nat → Int32) (f_at : Int32) (f_names : Int32) (f_pieces : Int32) (f_songLong : Int32) (f_chances : Nat → Int32) (f_longs : Nat → Int32) (f_letters : Nat → Int32) (f_isThere : Nat → Int32) (f_pieceLongs : Nat → Int32) (f_pieceLetters : Nat → Int32) (f_song : Nat → Int32) (x1 : Int32) (r : Int32) (r_at : Int32) (r_names : Int32) (r_pieces : Int32) (r_songLong : Int32) (r_chances : Nat → Int32) (r_longs : Nat → Int32) (r_letters : Nat → Int32) (r_isThere : Nat → Int32) (r_pieceLongs : Nat → Int32) (r_pieceLetters : Nat → Int32) (r_song : Nat → Int32) (sz : Nat) (hf : Mo_listen F f_bytes f_typed f_at f_names f_pieces f_songLong f_chances f_longs f_letters f_isThere f_pieceLongs f_pieceLetters f_song x1 = some (r, r_at, r_names, r_pieces, r_songLong, r_chances, r_longs, r_letters, r_isThere, r_pieceLongs, r_pieceLetters, r_song)) : Met l yX11_listen (WS yX11_listen cX11_listen 2 (some .int)) RM_Mo_listen (va_Pc [.ref a_this, .int x1] (PM D ct sz (w_Mo_listen ct a_this a_forms a_sizes a_items a_moved a_bytes a_typed a_chances a_longs a_letters a_isThere a_pieceLongs a_pieceLetters a_song a_settings a_guess a_row a_least a_nights f_latest f_at f_names f_pieces f_songLong f_guesses f_todo f_bytes f_typed f_chances f_longs f_letters f_isThere f_pieceLongs f_pieceLetters f_song))) (QM D (some (.int r)) (w_Mo_listen ct a_this a_forms a_sizes a_items a_moved a_bytes a_typed a_chances a_longs a_letters a_isThere a_pieceLongs a_pieceLetters a_song a_settings a_guess a_row a_least a_nights f_latest r_at r_names r_pieces r_songLong f_guesses f_todo f_bytes f_typed r_chances r_longs r_letters r_isThere r_pieceLongs r_pieceLetters r_song) (va_A (w_Mo_listen ct a_this a_forms a_sizes a_items a_moved a_bytes a_typed a_chances a_longs a_letters a_isThere a_pieceLongs a_pieceLetters a_song a_settings a_guess a_row a_least a_nights f_latest f_at f_names f_pieces f_songLong f_guesses f_todo f_bytes f_typed f_chances f_longs f_letters f_isThere f_pieceLongs f_pieceLetters f_song) sz)) 0 0 (va_A (w_Mo_listen ct a_this a_forms a_sizes a_items a_moved a_bytes a_typed a_chances a_longs a_letters a_isThere a_pieceLongs a_pieceLetters a_song a_settings a_guess a_row a_least a_nights f_latest f_at f_names f_pieces f_songLong f_guesses f_todo f_bytes f_typed f_chances f_longs f_letters f_isThere f_pieceLongs f_pieceLetters f_song) sz) := by
  refine kMetM yn_yX11_listen rfl (Nat.le_of_ble_eq_true rfl) ?_
  intro p e s m args below meth c A C hA hP hD ls hl
  have hl : lv_has ls 2 [(0, .ref a_this), (1, .int x1)] := hl
  have hS : va_S A s.heap s.heap [] := va_S.rf
  obtain ⟨hx, hb, hr, hml, hown, hts, hlk, hK, hN⟩ := id C
  unfold Mo_listen at hf
  refine lv_aload_n hx hb dX11_listen_0 rfl (lv_at hl 0 rfl) ?_
  obtain ⟨f_at_1, f_names_1, f_pieces_1, f_songLong_1, f_chances_1, f_longs_1, f_letters_1, f_isThere_1, f_pieceLongs_1, f_pieceLetters_1, f_song_1, hc1, hf⟩ := cb11_some hf
  refine kcMV (q0 := 0) (ci := 11) (As := []) (rest := []) (st1 := []) (wf := (w_Mo_listen ct a_this a_forms a_sizes a_items a_moved a_bytes a_typed a_chances a_longs a_letters a_isThere a_pieceLongs a_pieceLetters a_song a_settings a_guess a_row a_least a_nights f_latest f_at_1 f_names_1 f_pieces_1 f_songLong_1 f_guesses f_todo f_bytes f_typed f_chances_1 f_longs_1 f_letters_1 f_isThere_1 f_pieceLongs_1 f_pieceLetters_1 f_song_1)) C (c_Mo_reads l D ct a_this a_forms a_sizes a_items a_moved a_bytes a_typed a_chances a_longs a_letters a_isThere a_pieceLongs a_pieceLetters a_song a_settings a_guess a_row a_least a_nights f_latest f_guesses f_todo F f_bytes f_typed f_at f_names f_pieces f_songLong f_chances f_longs f_letters f_isThere f_pieceLongs f_pieceLetters f_song f_at_1 f_names_1 f_pieces_1 f_songLong_1 f_chances_1 f_longs_1 f_letters_1 f_isThere_1 f_pieceLongs_1 f_pieceLetters_1 f_song_1 _ hc1) ⟨rfl, rfl⟩ yn_yX11_reads tw_1120 tw_34 tw_1118 ⟨Nat.le_of_ble_eq_true rfl, Nat.le_of_ble_eq_true rfl⟩ ⟨Nat.zero_le _, Nat.zero_le _⟩ hP hD hS hA [0, 1, 2, 3, 4, 5, 6, 7, 8, 9] [] [0, 1, 2, 3, 4, 5, 6, 7, 8, 9] rfl rfl rfl rfl rfl (by decide) rfl rfl rfl rfl rfl rfl hl.1 rfl rfl (Nat.le_of_ble_eq_true rfl) dX11_listen_1 rfl (fun H locs hP hD hS => ?_)
  refine lv_iload_n hx hb dX11_listen_4 rfl (lv_at hl 1 rfl) ?_
  obtain ⟨v5, hc5, hf⟩ := cb1_some hf
  refine kcRS (As := [.int x1]) (rest := []) (st1 := [.int v5]) C (c_Mo_isTwo l D ct x1 v5 hc5) ⟨rfl, rfl⟩ yn_yX11_isTwo tw_1179 tw_1178 ⟨Nat.le_of_ble_eq_true rfl, Nat.le_of_ble_eq_true rfl⟩ ⟨Nat.zero_le _, Nat.zero_le _⟩ hP [] rfl hl.1 rfl rfl (Nat.le_of_ble_eq_true rfl) dX11_listen_5 rfl ?_
  refine lv_if_eq (tgt := 19) hx hb dX11_listen_8 (by decide) (fun hc => ?_) (fun hc => ?_)
  · have hf := kpos hc hf
    refine lv_bipush (v := (-2)) hx hb dX11_listen_19 (by decide) ?_
    obtain ⟨e1, e2, e3, e4, e5, e6, e7, e8, e9, e10, e11, e12⟩ := ti12 hf
    subst e1; subst e2; subst e3; subst e4; subst e5; subst e6; subst e7; subst e8; subst e9; subst e10; subst e11; subst e12
    exact kretM C hP hD hS dX11_listen_21
  · have hf := kneg hc hf
    refine lv_aload_n hx hb dX11_listen_11 rfl (lv_at hl 0 rfl) ?_
    refine lv_iload_n hx hb dX11_listen_12 rfl (lv_at hl 1 rfl) ?_
    obtain ⟨v13, hc13, hf⟩ := cb1_some hf
    refine kcRV (q0 := 0) (ci := 11) (As := [.int x1]) (rest := []) (st1 := [.int v13]) C (c_Mo_listenOf l D ct a_this a_forms a_sizes a_items a_moved a_bytes a_typed a_chances a_longs a_letters a_isThere a_pieceLongs a_pieceLetters a_song a_settings a_guess a_row a_least a_nights f_latest f_at_1 f_guesses f_todo F f_names_1 f_pieces_1 f_songLong_1 f_longs_1 f_letters_1 f_isThere_1 f_pieceLongs_1 f_pieceLetters_1 f_song_1 x1 v13 hc13) ⟨rfl, rfl⟩ yn_yX11_listenOf tw_1292 tw_59 tw_1290 ⟨Nat.le_of_ble_eq_true rfl, Nat.le_of_ble_eq_true rfl⟩ ⟨Nat.zero_le _, Nat.zero_le _⟩ hP [0, 4, 5, 6, 7, 8, 9] rfl rfl rfl rfl hl.1 rfl rfl (Nat.le_of_ble_eq_true rfl) dX11_listen_13 rfl ?_
    refine lv_goto (tgt := 21) hx hb dX11_listen_16 (by decide) ?_
    obtain ⟨e1, e2, e3, e4, e5, e6, e7, e8, e9, e10, e11, e12⟩ := ti12 hf
    subst e1; subst e2; subst e3; subst e4; subst e5; subst e6; subst e7; subst e8; subst e9; subst e10; subst e11; subst e12
    exact kretM C hP hD hS dX11_listen_21
def RM_Mo_sureOf : Room := { frames := 2, cells := 0, slots := 0, locals := 47 }
set_option maxHeartbeats 4000000 in
set_option maxRecDepth 100000 in
theorem t_Mo_sureOf_b145 {p : Program} {l : Launch} {e : Env} {s : State} {m : MethodId} {args : Array Value} {below : List Frame} {meth : Method} {c : Code} {D : va_G} {ct : Nat → ClassId} (C : CX p s m args meth c RX11 cX11_sureOf 8 (some .int) D ct) (a_this a_forms a_sizes a_items a_moved a_bytes a_typed a_chances a_longs a_letters a_isThere a_pieceLongs a_pieceLetters a_song a_settings a_guess a_row a_least a_nights : Nat) (f_latest : Int32) (f_at : Int32) (f_pieces : Int32) (f_songLong : Int32) (f_guesses : Int32) (f_todo : Int32) (F : Nat) (f_names : Int32) (f_longs : Nat → Int32) (f_letters : Nat → Int32) (f_nights : Nat → Int32) (x1 : Int32) (r : Int32) (rec58 : Int32 → Int32 → Option Int32) (hr58 : ∀ (x2 : Int32) (x3 : Int32), rec58 x2 x3 = some r → va_P D vwCl (w_Mo_sureOf ct a_this a_forms a_sizes a_items a_moved a_bytes a_typed a_chances a_longs a_letters a_isThere a_pieceLongs a_pieceLetters a_song a_settings a_guess a_row a_least a_nights f_latest f_at f_names f_pieces f_songLong f_guesses f_todo f_longs f_letters f_nights) s.heap → ∀ ls : Array Slot, lv_has ls 8 [(0, .ref a_this), (1, .int x1), (2, .int x2), (3, .int x3)] → W p l e RM_Mo_sureOf s m args below meth c s.heap [] 0 0 (MQ below (QR (some (.int r))) args s 0 0 (fun _ => False)) (F0 m 58 ls [])) : ∀ (x3 : Int32) (k0 : Int32), Mo_sureOf_b145 F f_names f_longs f_letters f_nights x1 rec58 x3 k0 = some r → va_P D vwCl (w_Mo_sureOf ct a_this a_forms a_sizes a_items a_moved a_bytes a_typed a_chances a_longs a_letters a_isThere a_pieceLongs a_pieceLetters a_song a_settings a_guess a_row a_least a_nights f_latest f_at f_names f_pieces f_songLong f_guesses f_todo f_longs f_letters f_nights) s.heap → ∀ ls : Array Slot, lv_has ls 8 [(0, .ref a_this), (1, .int x1), (3, .int x3)] → W p l e RM_Mo_sureOf s m args below meth c s.heap [] 0 0 (MQ below (QR (some (.int r))) args s 0 0 (fun _ => False)) (F0 m 145 ls [.int k0]) := by
  obtain ⟨hx, hb, hr, hml, hown, hts, hlk, hK, hN⟩ := id C
  intro x3 k0 hf hP ls hl
  unfold Mo_sureOf_b145 at hf
  refine lv_istore_n (lv' := [(2, .int k0), (0, .ref a_this), (1, .int x1), (3, .int x3)]) hx hb dX11_sureOf_145 rfl hl (by decide) rfl (fun ls hl => ?_)
  refine lv_iinc (v := x3 + 1) (lv' := [(3, .int (x3 + 1)), (2, .int k0), (0, .ref a_this), (1, .int x1)]) hx hb dX11_sureOf_146 hl (k := 3) rfl rfl (by decide) rfl (fun ls hl => ?_)
  refine lv_goto (tgt := 58) hx hb dX11_sureOf_149 (by decide) ?_
  exact hr58 k0 (x3 + 1) hf hP _ (lv_sub hl [2, 3, 1, 0] rfl)
set_option maxHeartbeats 4000000 in
set_option maxRecDepth 100000 in
theorem t_Mo_sureOf_b129 {p : Program} {l : Launch} {e : Env} {s : State} {m : MethodId} {args : Array Value} {below : List Frame} {meth : Method} {c : Code} {D : va_G} {ct : Nat → ClassId} (C : CX p s m args meth c RX11 cX11_sureOf 8 (some .int) D ct) (a_this a_forms a_sizes a_items a_moved a_bytes a_typed a_chances a_longs a_letters a_isThere a_pieceLongs a_pieceLetters a_song a_settings a_guess a_row a_least a_nights : Nat) (f_latest : Int32) (f_at : Int32) (f_pieces : Int32) (f_songLong : Int32) (f_guesses : Int32) (f_todo : Int32) (F : Nat) (f_names : Int32) (f_longs : Nat → Int32) (f_letters : Nat → Int32) (f_nights : Nat → Int32) (x1 : Int32) (r : Int32) (rec58 : Int32 → Int32 → Option Int32) (hr58 : ∀ (x2 : Int32) (x3 : Int32), rec58 x2 x3 = some r → va_P D vwCl (w_Mo_sureOf ct a_this a_forms a_sizes a_items a_moved a_bytes a_typed a_chances a_longs a_letters a_isThere a_pieceLongs a_pieceLetters a_song a_settings a_guess a_row a_least a_nights f_latest f_at f_names f_pieces f_songLong f_guesses f_todo f_longs f_letters f_nights) s.heap → ∀ ls : Array Slot, lv_has ls 8 [(0, .ref a_this), (1, .int x1), (2, .int x2), (3, .int x3)] → W p l e RM_Mo_sureOf s m args below meth c s.heap [] 0 0 (MQ below (QR (some (.int r))) args s 0 0 (fun _ => False)) (F0 m 58 ls [])) : ∀ (x2 : Int32) (x3 : Int32) (x4 : Int32), Mo_sureOf_b129 F f_names f_longs f_letters f_nights x1 rec58 x2 x3 x4 = some r → va_P D vwCl (w_Mo_sureOf ct a_this a_forms a_sizes a_items a_moved a_bytes a_typed a_chances a_longs a_letters a_isThere a_pieceLongs a_pieceLetters a_song a_settings a_guess a_row a_least a_nights f_latest f_at f_names f_pieces f_songLong f_guesses f_todo f_longs f_letters f_nights) s.heap → ∀ ls : Array Slot, lv_has ls 8 [(0, .ref a_this), (1, .int x1), (2, .int x2), (3, .int x3), (4, .int x4)] → W p l e RM_Mo_sureOf s m args below meth c s.heap [] 0 0 (MQ below (QR (some (.int r))) args s 0 0 (fun _ => False)) (F0 m 129 ls []) := by
  obtain ⟨hx, hb, hr, hml, hown, hts, hlk, hK, hN⟩ := id C
  intro x2 x3 x4 hf hP ls hl
  unfold Mo_sureOf_b129 at hf
  refine lv_iconst (v := 1) hx hb dX11_sureOf_129 (by decide) ?_
  refine lv_iload hx hb dX11_sureOf_130 (lv_at hl 4 rfl) ?_
  refine lv_iadd hx hb dX11_sureOf_132 ?_
  refine lv_iload_n hx hb dX11_sureOf_133 rfl (lv_at hl 2 rfl) ?_
  refine lv_icmp_ge (tgt := 144) hx hb dX11_sureOf_134 (by decide) (fun hc => ?_) (fun hc => ?_)
  · have hf := kpos hc hf
    refine lv_iload_n hx hb dX11_sureOf_144 rfl (lv_at hl 2 rfl) ?_
    exact t_Mo_sureOf_b145 C a_this a_forms a_sizes a_items a_moved a_bytes a_typed a_chances a_longs a_letters a_isThere a_pieceLongs a_pieceLetters a_song a_settings a_guess a_row a_least a_nights f_latest f_at f_pieces f_songLong f_guesses f_todo F f_names f_longs f_letters f_nights x1 r rec58 hr58 x3 x2 hf hP _ (lv_sub hl [0, 1, 3] rfl)
  · have hf := kneg hc hf
    refine lv_iconst (v := 1) hx hb dX11_sureOf_137 (by decide) ?_
    refine lv_iload hx hb dX11_sureOf_138 (lv_at hl 4 rfl) ?_
    refine lv_iadd hx hb dX11_sureOf_140 ?_
    refine lv_goto (tgt := 145) hx hb dX11_sureOf_141 (by decide) ?_
    exact t_Mo_sureOf_b145 C a_this a_forms a_sizes a_items a_moved a_bytes a_typed a_chances a_longs a_letters a_isThere a_pieceLongs a_pieceLetters a_song a_settings a_guess a_row a_least a_nights f_latest f_at f_pieces f_songLong f_guesses f_todo F f_names f_longs f_letters f_nights x1 r rec58 hr58 x3 (1 + x4) hf hP _ (lv_sub hl [0, 1, 3] rfl)
set_option maxHeartbeats 4000000 in
set_option maxRecDepth 100000 in
theorem t_Mo_sureOf_b121 {p : Program} {l : Launch} {e : Env} {s : State} {m : MethodId} {args : Array Value} {below : List Frame} {meth : Method} {c : Code} {D : va_G} {ct : Nat → ClassId} (C : CX p s m args meth c RX11 cX11_sureOf 8 (some .int) D ct) (a_this a_forms a_sizes a_items a_moved a_bytes a_typed a_chances a_longs a_letters a_isThere a_pieceLongs a_pieceLetters a_song a_settings a_guess a_row a_least a_nights : Nat) (f_latest : Int32) (f_at : Int32) (f_pieces : Int32) (f_songLong : Int32) (f_guesses : Int32) (f_todo : Int32) (F : Nat) (f_names : Int32) (f_longs : Nat → Int32) (f_letters : Nat → Int32) (f_nights : Nat → Int32) (x1 : Int32) (r : Int32) (rec58 : Int32 → Int32 → Option Int32) (rec70 : Int32 → Int32 → Int32 → Int32 → Option Int32) (hr58 : ∀ (x2 : Int32) (x3 : Int32), rec58 x2 x3 = some r → va_P D vwCl (w_Mo_sureOf ct a_this a_forms a_sizes a_items a_moved a_bytes a_typed a_chances a_longs a_letters a_isThere a_pieceLongs a_pieceLetters a_song a_settings a_guess a_row a_least a_nights f_latest f_at f_names f_pieces f_songLong f_guesses f_todo f_longs f_letters f_nights) s.heap → ∀ ls : Array Slot, lv_has ls 8 [(0, .ref a_this), (1, .int x1), (2, .int x2), (3, .int x3)] → W p l e RM_Mo_sureOf s m args below meth c s.heap [] 0 0 (MQ below (QR (some (.int r))) args s 0 0 (fun _ => False)) (F0 m 58 ls [])) (hr70 : ∀ (x2 : Int32) (x3 : Int32) (x4 : Int32) (x5 : Int32), rec70 x2 x3 x4 x5 = some r → va_P D vwCl (w_Mo_sureOf ct a_this a_forms a_sizes a_items a_moved a_bytes a_typed a_chances a_longs a_letters a_isThere a_pieceLongs a_pieceLetters a_song a_settings a_guess a_row a_least a_nights f_latest f_at f_names f_pieces f_songLong f_guesses f_todo f_longs f_letters f_nights) s.heap → ∀ ls : Array Slot, lv_has ls 8 [(0, .ref a_this), (1, .int x1), (2, .int x2), (3, .int x3), (4, .int x4), (5, .int x5)] → W p l e RM_Mo_sureOf s m args below meth c s.heap [] 0 0 (MQ below (QR (some (.int r))) args s 0 0 (fun _ => False)) (F0 m 70 ls [])) : ∀ (x2 : Int32) (x3 : Int32) (x5 : Int32) (k0 : Int32), Mo_sureOf_b121 F f_names f_longs f_letters f_nights x1 rec58 rec70 x2 x3 x5 k0 = some r → va_P D vwCl (w_Mo_sureOf ct a_this a_forms a_sizes a_items a_moved a_bytes a_typed a_chances a_longs a_letters a_isThere a_pieceLongs a_pieceLetters a_song a_settings a_guess a_row a_least a_nights f_latest f_at f_names f_pieces f_songLong f_guesses f_todo f_longs f_letters f_nights) s.heap → ∀ ls : Array Slot, lv_has ls 8 [(0, .ref a_this), (1, .int x1), (2, .int x2), (3, .int x3), (5, .int x5)] → W p l e RM_Mo_sureOf s m args below meth c s.heap [] 0 0 (MQ below (QR (some (.int r))) args s 0 0 (fun _ => False)) (F0 m 121 ls [.int k0]) := by
  obtain ⟨hx, hb, hr, hml, hown, hts, hlk, hK, hN⟩ := id C
  intro x2 x3 x5 k0 hf hP ls hl
  unfold Mo_sureOf_b121 at hf
  refine lv_istore (lv' := [(4, .int k0), (0, .ref a_this), (1, .int x1), (2, .int x2), (3, .int x3), (5, .int x5)]) hx hb dX11_sureOf_121 hl (by decide) rfl (fun ls hl => ?_)
  refine lv_iinc (v := x5 + 1) (lv' := [(5, .int (x5 + 1)), (4, .int k0), (0, .ref a_this), (1, .int x1), (2, .int x2), (3, .int x3)]) hx hb dX11_sureOf_123 hl (k := 5) rfl rfl (by decide) rfl (fun ls hl => ?_)
  refine lv_goto (tgt := 70) hx hb dX11_sureOf_126 (by decide) ?_
  exact hr70 x2 x3 k0 (x5 + 1) hf hP _ (lv_sub hl [2, 3, 4, 5, 1, 0] rfl)
set_option maxHeartbeats 4000000 in
set_option maxRecDepth 100000 in
theorem t_Mo_sureOf_b105 {p : Program} {l : Launch} {e : Env} {s : State} {m : MethodId} {args : Array Value} {below : List Frame} {meth : Method} {c : Code} {D : va_G} {ct : Nat → ClassId} (C : CX p s m args meth c RX11 cX11_sureOf 8 (some .int) D ct) (a_this a_forms a_sizes a_items a_moved a_bytes a_typed a_chances a_longs a_letters a_isThere a_pieceLongs a_pieceLetters a_song a_settings a_guess a_row a_least a_nights : Nat) (f_latest : Int32) (f_at : Int32) (f_pieces : Int32) (f_songLong : Int32) (f_guesses : Int32) (f_todo : Int32) (F : Nat) (f_names : Int32) (f_longs : Nat → Int32) (f_letters : Nat → Int32) (f_nights : Nat → Int32) (x1 : Int32) (r : Int32) (rec58 : Int32 → Int32 → Option Int32) (rec70 : Int32 → Int32 → Int32 → Int32 → Option Int32) (hr58 : ∀ (x2 : Int32) (x3 : Int32), rec58 x2 x3 = some r → va_P D vwCl (w_Mo_sureOf ct a_this a_forms a_sizes a_items a_moved a_bytes a_typed a_chances a_longs a_letters a_isThere a_pieceLongs a_pieceLetters a_song a_settings a_guess a_row a_least a_nights f_latest f_at f_names f_pieces f_songLong f_guesses f_todo f_longs f_letters f_nights) s.heap → ∀ ls : Array Slot, lv_has ls 8 [(0, .ref a_this), (1, .int x1), (2, .int x2), (3, .int x3)] → W p l e RM_Mo_sureOf s m args below meth c s.heap [] 0 0 (MQ below (QR (some (.int r))) args s 0 0 (fun _ => False)) (F0 m 58 ls [])) (hr70 : ∀ (x2 : Int32) (x3 : Int32) (x4 : Int32) (x5 : Int32), rec70 x2 x3 x4 x5 = some r → va_P D vwCl (w_Mo_sureOf ct a_this a_forms a_sizes a_items a_moved a_bytes a_typed a_chances a_longs a_letters a_isThere a_pieceLongs a_pieceLetters a_song a_settings a_guess a_row a_least a_nights f_latest f_at f_names f_pieces f_songLong f_guesses f_todo f_longs f_letters f_nights) s.heap → ∀ ls : Array Slot, lv_has ls 8 [(0, .ref a_this), (1, .int x1), (2, .int x2), (3, .int x3), (4, .int x4), (5, .int x5)] → W p l e RM_Mo_sureOf s m args below meth c s.heap [] 0 0 (MQ below (QR (some (.int r))) args s 0 0 (fun _ => False)) (F0 m 70 ls [])) : ∀ (x2 : Int32) (x3 : Int32) (x4 : Int32) (x5 : Int32) (k0 : Int32), Mo_sureOf_b105 F f_names f_longs f_letters f_nights x1 rec58 rec70 x2 x3 x4 x5 k0 = some r → va_P D vwCl (w_Mo_sureOf ct a_this a_forms a_sizes a_items a_moved a_bytes a_typed a_chances a_longs a_letters a_isThere a_pieceLongs a_pieceLetters a_song a_settings a_guess a_row a_least a_nights f_latest f_at f_names f_pieces f_songLong f_guesses f_todo f_longs f_letters f_nights) s.heap → ∀ ls : Array Slot, lv_has ls 8 [(0, .ref a_this), (1, .int x1), (2, .int x2), (3, .int x3), (4, .int x4), (5, .int x5)] → W p l e RM_Mo_sureOf s m args below meth c s.heap [] 0 0 (MQ below (QR (some (.int r))) args s 0 0 (fun _ => False)) (F0 m 105 ls [.int k0]) := by
  obtain ⟨hx, hb, hr, hml, hown, hts, hlk, hK, hN⟩ := id C
  intro x2 x3 x4 x5 k0 hf hP ls hl
  unfold Mo_sureOf_b105 at hf
  refine lv_istore (lv' := [(7, .int k0), (0, .ref a_this), (1, .int x1), (2, .int x2), (3, .int x3), (4, .int x4), (5, .int x5)]) hx hb dX11_sureOf_105 hl (by decide) rfl (fun ls hl => ?_)
  refine lv_iload hx hb dX11_sureOf_107 (lv_at hl 0 rfl) ?_
  refine lv_iload hx hb dX11_sureOf_109 (lv_at hl 5 rfl) ?_
  refine lv_icmp_le (tgt := 119) hx hb dX11_sureOf_111 (by decide) (fun hc => ?_) (fun hc => ?_)
  · have hf := kpos hc hf
    refine lv_iload hx hb dX11_sureOf_119 (lv_at hl 5 rfl) ?_
    exact t_Mo_sureOf_b121 C a_this a_forms a_sizes a_items a_moved a_bytes a_typed a_chances a_longs a_letters a_isThere a_pieceLongs a_pieceLetters a_song a_settings a_guess a_row a_least a_nights f_latest f_at f_pieces f_songLong f_guesses f_todo F f_names f_longs f_letters f_nights x1 r rec58 rec70 hr58 hr70 x2 x3 x5 x4 hf hP _ (lv_sub hl [1, 2, 3, 4, 6] rfl)
  · have hf := kneg hc hf
    refine lv_iload hx hb dX11_sureOf_114 (lv_at hl 0 rfl) ?_
    refine lv_goto (tgt := 121) hx hb dX11_sureOf_116 (by decide) ?_
    exact t_Mo_sureOf_b121 C a_this a_forms a_sizes a_items a_moved a_bytes a_typed a_chances a_longs a_letters a_isThere a_pieceLongs a_pieceLetters a_song a_settings a_guess a_row a_least a_nights f_latest f_at f_pieces f_songLong f_guesses f_todo F f_names f_longs f_letters f_nights x1 r rec58 rec70 hr58 hr70 x2 x3 x5 k0 hf hP _ (lv_sub hl [1, 2, 3, 4, 6] rfl)
set_option maxHeartbeats 4000000 in
set_option maxRecDepth 100000 in
theorem t_Mo_sureOf_b70 {p : Program} {l : Launch} {e : Env} {s : State} {m : MethodId} {args : Array Value} {below : List Frame} {meth : Method} {c : Code} {D : va_G} {ct : Nat → ClassId} (C : CX p s m args meth c RX11 cX11_sureOf 8 (some .int) D ct) (a_this a_forms a_sizes a_items a_moved a_bytes a_typed a_chances a_longs a_letters a_isThere a_pieceLongs a_pieceLetters a_song a_settings a_guess a_row a_least a_nights : Nat) (f_latest : Int32) (f_at : Int32) (f_pieces : Int32) (f_songLong : Int32) (f_guesses : Int32) (f_todo : Int32) (F : Nat) (f_names : Int32) (f_longs : Nat → Int32) (f_letters : Nat → Int32) (f_nights : Nat → Int32) (x1 : Int32) (r : Int32) (rec58 : Int32 → Int32 → Option Int32) (rec70 : Int32 → Int32 → Int32 → Int32 → Option Int32) (hr58 : ∀ (x2 : Int32) (x3 : Int32), rec58 x2 x3 = some r → va_P D vwCl (w_Mo_sureOf ct a_this a_forms a_sizes a_items a_moved a_bytes a_typed a_chances a_longs a_letters a_isThere a_pieceLongs a_pieceLetters a_song a_settings a_guess a_row a_least a_nights f_latest f_at f_names f_pieces f_songLong f_guesses f_todo f_longs f_letters f_nights) s.heap → ∀ ls : Array Slot, lv_has ls 8 [(0, .ref a_this), (1, .int x1), (2, .int x2), (3, .int x3)] → W p l e RM_Mo_sureOf s m args below meth c s.heap [] 0 0 (MQ below (QR (some (.int r))) args s 0 0 (fun _ => False)) (F0 m 58 ls [])) (hr70 : ∀ (x2 : Int32) (x3 : Int32) (x4 : Int32) (x5 : Int32), rec70 x2 x3 x4 x5 = some r → va_P D vwCl (w_Mo_sureOf ct a_this a_forms a_sizes a_items a_moved a_bytes a_typed a_chances a_longs a_letters a_isThere a_pieceLongs a_pieceLetters a_song a_settings a_guess a_row a_least a_nights f_latest f_at f_names f_pieces f_songLong f_guesses f_todo f_longs f_letters f_nights) s.heap → ∀ ls : Array Slot, lv_has ls 8 [(0, .ref a_this), (1, .int x1), (2, .int x2), (3, .int x3), (4, .int x4), (5, .int x5)] → W p l e RM_Mo_sureOf s m args below meth c s.heap [] 0 0 (MQ below (QR (some (.int r))) args s 0 0 (fun _ => False)) (F0 m 70 ls [])) : ∀ (x2 : Int32) (x3 : Int32) (x4 : Int32) (x5 : Int32), Mo_sureOf_b70 F f_names f_longs f_letters f_nights x1 rec58 rec70 x2 x3 x4 x5 = some r → va_P D vwCl (w_Mo_sureOf ct a_this a_forms a_sizes a_items a_moved a_bytes a_typed a_chances a_longs a_letters a_isThere a_pieceLongs a_pieceLetters a_song a_settings a_guess a_row a_least a_nights f_latest f_at f_names f_pieces f_songLong f_guesses f_todo f_longs f_letters f_nights) s.heap → ∀ ls : Array Slot, lv_has ls 8 [(0, .ref a_this), (1, .int x1), (2, .int x2), (3, .int x3), (4, .int x4), (5, .int x5)] → W p l e RM_Mo_sureOf s m args below meth c s.heap [] 0 0 (MQ below (QR (some (.int r))) args s 0 0 (fun _ => False)) (F0 m 70 ls []) := by
  obtain ⟨hx, hb, hr, hml, hown, hts, hlk, hK, hN⟩ := id C
  intro x2 x3 x4 x5 hf hP ls hl
  unfold Mo_sureOf_b70 at hf
  refine lv_iload hx hb dX11_sureOf_70 (lv_at hl 5 rfl) ?_
  refine lv_bipush (v := 7) hx hb dX11_sureOf_72 (by decide) ?_
  refine lv_icmp_ge (tgt := 129) hx hb dX11_sureOf_74 (by decide) (fun hc => ?_) (fun hc => ?_)
  · have hf := kpos hc hf
    exact t_Mo_sureOf_b129 C a_this a_forms a_sizes a_items a_moved a_bytes a_typed a_chances a_longs a_letters a_isThere a_pieceLongs a_pieceLetters a_song a_settings a_guess a_row a_least a_nights f_latest f_at f_pieces f_songLong f_guesses f_todo F f_names f_longs f_letters f_nights x1 r rec58 hr58 x2 x3 x4 hf hP _ (lv_sub hl [0, 1, 2, 3, 4] rfl)
  · have hf := kneg hc hf
    refine lv_aload_n hx hb dX11_sureOf_77 rfl (lv_at hl 0 rfl) ?_
    refine lv_iload_n hx hb dX11_sureOf_78 rfl (lv_at hl 1 rfl) ?_
    refine lv_iload_n hx hb dX11_sureOf_79 rfl (lv_at hl 3 rfl) ?_
    refine lv_iload hx hb dX11_sureOf_80 (lv_at hl 5 rfl) ?_
    obtain ⟨v82, hc82, hf⟩ := cb1_some hf
    refine kcRV (q0 := 0) (ci := 11) (As := [.int x1, .int x3, .int x5]) (rest := []) (st1 := [.int v82]) C (c_Mo_withLetter l D ct a_this a_forms a_sizes a_items a_moved a_bytes a_typed a_chances a_longs a_letters a_isThere a_pieceLongs a_pieceLetters a_song a_settings a_guess a_row a_least a_nights f_latest f_at f_pieces f_songLong f_guesses f_todo F f_names f_longs f_letters x1 x3 x5 v82 hc82) ⟨rfl, rfl⟩ yn_yX11_withLetter tw_1276 tw_56 tw_1274 ⟨Nat.le_of_ble_eq_true rfl, Nat.le_of_ble_eq_true rfl⟩ ⟨Nat.zero_le _, Nat.zero_le _⟩ hP [0, 1, 2] rfl rfl rfl rfl hl.1 rfl rfl (Nat.le_of_ble_eq_true rfl) dX11_sureOf_82 rfl ?_
    refine lv_istore (lv' := [(6, .int v82), (0, .ref a_this), (1, .int x1), (2, .int x2), (3, .int x3), (4, .int x4), (5, .int x5)]) hx hb dX11_sureOf_85 hl (by decide) rfl (fun ls hl => ?_)
    refine lv_iload hx hb dX11_sureOf_87 (lv_at hl 0 rfl) ?_
    refine lv_iload_n hx hb dX11_sureOf_89 rfl (lv_at hl 2 rfl) ?_
    refine lv_icmp_ne (tgt := 98) hx hb dX11_sureOf_90 (by decide) (fun hc => ?_) (fun hc => ?_)
    · have hf := kneg hc hf
      refine lv_aload_n hx hb dX11_sureOf_98 rfl (lv_at hl 1 rfl) ?_
      refine va_get (ci := 11) (v := .ref a_nights) (C := RX11) (T := TX11) (N := 25) hx hb hts inX11 hown hK hP 0 rfl rfl 24 (by decide) (hts _ tw_968) (fun _ h9 => h9) rfl dX11_sureOf_99 ?_
      refine lv_iload hx hb dX11_sureOf_102 (lv_at hl 0 rfl) ?_
      obtain ⟨hin, hf⟩ := rd_some hf
      generalize ev104 : f_nights (Int32.toNatClampNeg v82) = v104 at hf
      refine kiald hx hb hK hP 3 0 rfl rfl hin ev104 dX11_sureOf_104 ?_
      exact t_Mo_sureOf_b105 C a_this a_forms a_sizes a_items a_moved a_bytes a_typed a_chances a_longs a_letters a_isThere a_pieceLongs a_pieceLetters a_song a_settings a_guess a_row a_least a_nights f_latest f_at f_pieces f_songLong f_guesses f_todo F f_names f_longs f_letters f_nights x1 r rec58 rec70 hr58 hr70 x2 x3 x4 x5 v104 hf hP _ (lv_sub hl [1, 2, 3, 4, 5, 6] rfl)
    · have hf := kpos hc hf
      refine lv_bipush (v := 99) hx hb dX11_sureOf_93 (by decide) ?_
      refine lv_goto (tgt := 105) hx hb dX11_sureOf_95 (by decide) ?_
      exact t_Mo_sureOf_b105 C a_this a_forms a_sizes a_items a_moved a_bytes a_typed a_chances a_longs a_letters a_isThere a_pieceLongs a_pieceLetters a_song a_settings a_guess a_row a_least a_nights f_latest f_at f_pieces f_songLong f_guesses f_todo F f_names f_longs f_letters f_nights x1 r rec58 rec70 hr58 hr70 x2 x3 x4 x5 99 hf hP _ (lv_sub hl [1, 2, 3, 4, 5, 6] rfl)
set_option maxHeartbeats 4000000 in
set_option maxRecDepth 100000 in
theorem t_Mo_sureOf_l70 {p : Program} {l : Launch} {e : Env} {s : State} {m : MethodId} {args : Array Value} {below : List Frame} {meth : Method} {c : Code} {D : va_G} {ct : Nat → ClassId} (C : CX p s m args meth c RX11 cX11_sureOf 8 (some .int) D ct) (a_this a_forms a_sizes a_items a_moved a_bytes a_typed a_chances a_longs a_letters a_isThere a_pieceLongs a_pieceLetters a_song a_settings a_guess a_row a_least a_nights : Nat) (f_latest : Int32) (f_at : Int32) (f_pieces : Int32) (f_songLong : Int32) (f_guesses : Int32) (f_todo : Int32) (F : Nat) (f_names : Int32) (f_longs : Nat → Int32) (f_letters : Nat → Int32) (f_nights : Nat → Int32) (x1 : Int32) (r : Int32) (rec58 : Int32 → Int32 → Option Int32) (hr58 : ∀ (x2 : Int32) (x3 : Int32), rec58 x2 x3 = some r → va_P D vwCl (w_Mo_sureOf ct a_this a_forms a_sizes a_items a_moved a_bytes a_typed a_chances a_longs a_letters a_isThere a_pieceLongs a_pieceLetters a_song a_settings a_guess a_row a_least a_nights f_latest f_at f_names f_pieces f_songLong f_guesses f_todo f_longs f_letters f_nights) s.heap → ∀ ls : Array Slot, lv_has ls 8 [(0, .ref a_this), (1, .int x1), (2, .int x2), (3, .int x3)] → W p l e RM_Mo_sureOf s m args below meth c s.heap [] 0 0 (MQ below (QR (some (.int r))) args s 0 0 (fun _ => False)) (F0 m 58 ls [])) : ∀ (n : Nat) (x2 : Int32) (x3 : Int32) (x4 : Int32) (x5 : Int32), Mo_sureOf_l70 F f_names f_longs f_letters f_nights x1 rec58 n x2 x3 x4 x5 = some r → va_P D vwCl (w_Mo_sureOf ct a_this a_forms a_sizes a_items a_moved a_bytes a_typed a_chances a_longs a_letters a_isThere a_pieceLongs a_pieceLetters a_song a_settings a_guess a_row a_least a_nights f_latest f_at f_names f_pieces f_songLong f_guesses f_todo f_longs f_letters f_nights) s.heap → ∀ ls : Array Slot, lv_has ls 8 [(0, .ref a_this), (1, .int x1), (2, .int x2), (3, .int x3), (4, .int x4), (5, .int x5)] → W p l e RM_Mo_sureOf s m args below meth c s.heap [] 0 0 (MQ below (QR (some (.int r))) args s 0 0 (fun _ => False)) (F0 m 70 ls []) := by
  intro n
  induction n with
  | zero =>
    intro x2 x3 x4 x5 hf
    exact absurd hf (by simp [Mo_sureOf_l70])
  | succ n ih =>
    intro x2 x3 x4 x5 hf
    exact t_Mo_sureOf_b70 C a_this a_forms a_sizes a_items a_moved a_bytes a_typed a_chances a_longs a_letters a_isThere a_pieceLongs a_pieceLetters a_song a_settings a_guess a_row a_least a_nights f_latest f_at f_pieces f_songLong f_guesses f_todo F f_names f_longs f_letters f_nights x1 r rec58 (Mo_sureOf_l70 F f_names f_longs f_letters f_nights x1 rec58 n) hr58 ih x2 x3 x4 x5 hf
set_option maxHeartbeats 4000000 in
set_option maxRecDepth 100000 in
theorem t_Mo_sureOf_b58 {p : Program} {l : Launch} {e : Env} {s : State} {m : MethodId} {args : Array Value} {below : List Frame} {meth : Method} {c : Code} {D : va_G} {ct : Nat → ClassId} (C : CX p s m args meth c RX11 cX11_sureOf 8 (some .int) D ct) (a_this a_forms a_sizes a_items a_moved a_bytes a_typed a_chances a_longs a_letters a_isThere a_pieceLongs a_pieceLetters a_song a_settings a_guess a_row a_least a_nights : Nat) (f_latest : Int32) (f_at : Int32) (f_pieces : Int32) (f_songLong : Int32) (f_guesses : Int32) (f_todo : Int32) (F : Nat) (f_names : Int32) (f_longs : Nat → Int32) (f_letters : Nat → Int32) (f_nights : Nat → Int32) (x1 : Int32) (r : Int32) (rec58 : Int32 → Int32 → Option Int32) (hr58 : ∀ (x2 : Int32) (x3 : Int32), rec58 x2 x3 = some r → va_P D vwCl (w_Mo_sureOf ct a_this a_forms a_sizes a_items a_moved a_bytes a_typed a_chances a_longs a_letters a_isThere a_pieceLongs a_pieceLetters a_song a_settings a_guess a_row a_least a_nights f_latest f_at f_names f_pieces f_songLong f_guesses f_todo f_longs f_letters f_nights) s.heap → ∀ ls : Array Slot, lv_has ls 8 [(0, .ref a_this), (1, .int x1), (2, .int x2), (3, .int x3)] → W p l e RM_Mo_sureOf s m args below meth c s.heap [] 0 0 (MQ below (QR (some (.int r))) args s 0 0 (fun _ => False)) (F0 m 58 ls [])) : ∀ (x2 : Int32) (x3 : Int32), Mo_sureOf_b58 F f_names f_longs f_letters f_nights x1 rec58 x2 x3 = some r → va_P D vwCl (w_Mo_sureOf ct a_this a_forms a_sizes a_items a_moved a_bytes a_typed a_chances a_longs a_letters a_isThere a_pieceLongs a_pieceLetters a_song a_settings a_guess a_row a_least a_nights f_latest f_at f_names f_pieces f_songLong f_guesses f_todo f_longs f_letters f_nights) s.heap → ∀ ls : Array Slot, lv_has ls 8 [(0, .ref a_this), (1, .int x1), (2, .int x2), (3, .int x3)] → W p l e RM_Mo_sureOf s m args below meth c s.heap [] 0 0 (MQ below (QR (some (.int r))) args s 0 0 (fun _ => False)) (F0 m 58 ls []) := by
  obtain ⟨hx, hb, hr, hml, hown, hts, hlk, hK, hN⟩ := id C
  intro x2 x3 hf hP ls hl
  unfold Mo_sureOf_b58 at hf
  refine lv_iload_n hx hb dX11_sureOf_58 rfl (lv_at hl 3 rfl) ?_
  refine lv_bipush (v := 6) hx hb dX11_sureOf_59 (by decide) ?_
  refine lv_icmp_ge (tgt := 152) hx hb dX11_sureOf_61 (by decide) (fun hc => ?_) (fun hc => ?_)
  · have hf := kpos hc hf
    refine lv_iload_n hx hb dX11_sureOf_152 rfl (lv_at hl 2 rfl) ?_
    have e1 := Option.some.inj hf
    subst e1
    exact kretR C dX11_sureOf_153
  · have hf := kneg hc hf
    refine lv_iconst (v := 0) hx hb dX11_sureOf_64 (by decide) ?_
    refine lv_istore (lv' := [(4, .int 0), (0, .ref a_this), (1, .int x1), (2, .int x2), (3, .int x3)]) hx hb dX11_sureOf_65 hl (by decide) rfl (fun ls hl => ?_)
    refine lv_iconst (v := 0) hx hb dX11_sureOf_67 (by decide) ?_
    refine lv_istore (lv' := [(5, .int 0), (4, .int 0), (0, .ref a_this), (1, .int x1), (2, .int x2), (3, .int x3)]) hx hb dX11_sureOf_68 hl (by decide) rfl (fun ls hl => ?_)
    exact t_Mo_sureOf_l70 C a_this a_forms a_sizes a_items a_moved a_bytes a_typed a_chances a_longs a_letters a_isThere a_pieceLongs a_pieceLetters a_song a_settings a_guess a_row a_least a_nights f_latest f_at f_pieces f_songLong f_guesses f_todo F f_names f_longs f_letters f_nights x1 r rec58 hr58 F x2 x3 0 0 hf hP _ (lv_sub hl [2, 3, 4, 5, 1, 0] rfl)
set_option maxHeartbeats 4000000 in
set_option maxRecDepth 100000 in
theorem t_Mo_sureOf_l58 {p : Program} {l : Launch} {e : Env} {s : State} {m : MethodId} {args : Array Value} {below : List Frame} {meth : Method} {c : Code} {D : va_G} {ct : Nat → ClassId} (C : CX p s m args meth c RX11 cX11_sureOf 8 (some .int) D ct) (a_this a_forms a_sizes a_items a_moved a_bytes a_typed a_chances a_longs a_letters a_isThere a_pieceLongs a_pieceLetters a_song a_settings a_guess a_row a_least a_nights : Nat) (f_latest : Int32) (f_at : Int32) (f_pieces : Int32) (f_songLong : Int32) (f_guesses : Int32) (f_todo : Int32) (F : Nat) (f_names : Int32) (f_longs : Nat → Int32) (f_letters : Nat → Int32) (f_nights : Nat → Int32) (x1 : Int32) (r : Int32) : ∀ (n : Nat) (x2 : Int32) (x3 : Int32), Mo_sureOf_l58 F f_names f_longs f_letters f_nights x1 n x2 x3 = some r → va_P D vwCl (w_Mo_sureOf ct a_this a_forms a_sizes a_items a_moved a_bytes a_typed a_chances a_longs a_letters a_isThere a_pieceLongs a_pieceLetters a_song a_settings a_guess a_row a_least a_nights f_latest f_at f_names f_pieces f_songLong f_guesses f_todo f_longs f_letters f_nights) s.heap → ∀ ls : Array Slot, lv_has ls 8 [(0, .ref a_this), (1, .int x1), (2, .int x2), (3, .int x3)] → W p l e RM_Mo_sureOf s m args below meth c s.heap [] 0 0 (MQ below (QR (some (.int r))) args s 0 0 (fun _ => False)) (F0 m 58 ls []) := by
  intro n
  induction n with
  | zero =>
    intro x2 x3 hf
    exact absurd hf (by simp [Mo_sureOf_l58])
  | succ n ih =>
    intro x2 x3 hf
    exact t_Mo_sureOf_b58 C a_this a_forms a_sizes a_items a_moved a_bytes a_typed a_chances a_longs a_letters a_isThere a_pieceLongs a_pieceLetters a_song a_settings a_guess a_row a_least a_nights f_latest f_at f_pieces f_songLong f_guesses f_todo F f_names f_longs f_letters f_nights x1 r (Mo_sureOf_l58 F f_names f_longs f_letters f_nights x1 n) ih x2 x3 hf
set_option maxHeartbeats 4000000 in
set_option maxRecDepth 100000 in
theorem t_Mo_sureOf_b56 {p : Program} {l : Launch} {e : Env} {s : State} {m : MethodId} {args : Array Value} {below : List Frame} {meth : Method} {c : Code} {D : va_G} {ct : Nat → ClassId} (C : CX p s m args meth c RX11 cX11_sureOf 8 (some .int) D ct) (a_this a_forms a_sizes a_items a_moved a_bytes a_typed a_chances a_longs a_letters a_isThere a_pieceLongs a_pieceLetters a_song a_settings a_guess a_row a_least a_nights : Nat) (f_latest : Int32) (f_at : Int32) (f_pieces : Int32) (f_songLong : Int32) (f_guesses : Int32) (f_todo : Int32) (F : Nat) (f_names : Int32) (f_longs : Nat → Int32) (f_letters : Nat → Int32) (f_nights : Nat → Int32) (x1 : Int32) (r : Int32) : ∀ (x2 : Int32), Mo_sureOf_b56 F f_names f_longs f_letters f_nights x1 x2 = some r → va_P D vwCl (w_Mo_sureOf ct a_this a_forms a_sizes a_items a_moved a_bytes a_typed a_chances a_longs a_letters a_isThere a_pieceLongs a_pieceLetters a_song a_settings a_guess a_row a_least a_nights f_latest f_at f_names f_pieces f_songLong f_guesses f_todo f_longs f_letters f_nights) s.heap → ∀ ls : Array Slot, lv_has ls 8 [(0, .ref a_this), (1, .int x1), (2, .int x2)] → W p l e RM_Mo_sureOf s m args below meth c s.heap [] 0 0 (MQ below (QR (some (.int r))) args s 0 0 (fun _ => False)) (F0 m 56 ls []) := by
  obtain ⟨hx, hb, hr, hml, hown, hts, hlk, hK, hN⟩ := id C
  intro x2 hf hP ls hl
  unfold Mo_sureOf_b56 at hf
  refine lv_iconst (v := 0) hx hb dX11_sureOf_56 (by decide) ?_
  refine lv_istore_n (lv' := [(3, .int 0), (0, .ref a_this), (1, .int x1), (2, .int x2)]) hx hb dX11_sureOf_57 rfl hl (by decide) rfl (fun ls hl => ?_)
  exact t_Mo_sureOf_l58 C a_this a_forms a_sizes a_items a_moved a_bytes a_typed a_chances a_longs a_letters a_isThere a_pieceLongs a_pieceLetters a_song a_settings a_guess a_row a_least a_nights f_latest f_at f_pieces f_songLong f_guesses f_todo F f_names f_longs f_letters f_nights x1 r F x2 0 hf hP _ (lv_sub hl [1, 2, 3, 0] rfl)
set_option maxHeartbeats 4000000 in
set_option maxRecDepth 100000 in
theorem t_Mo_sureOf_b50 {p : Program} {l : Launch} {e : Env} {s : State} {m : MethodId} {args : Array Value} {below : List Frame} {meth : Method} {c : Code} {D : va_G} {ct : Nat → ClassId} (C : CX p s m args meth c RX11 cX11_sureOf 8 (some .int) D ct) (a_this a_forms a_sizes a_items a_moved a_bytes a_typed a_chances a_longs a_letters a_isThere a_pieceLongs a_pieceLetters a_song a_settings a_guess a_row a_least a_nights : Nat) (f_latest : Int32) (f_at : Int32) (f_pieces : Int32) (f_songLong : Int32) (f_guesses : Int32) (f_todo : Int32) (F : Nat) (f_names : Int32) (f_longs : Nat → Int32) (f_letters : Nat → Int32) (f_nights : Nat → Int32) (x1 : Int32) (r : Int32) (rec5 : Int32 → Int32 → Option Int32) (hr5 : ∀ (x2 : Int32) (x3 : Int32), rec5 x2 x3 = some r → va_P D vwCl (w_Mo_sureOf ct a_this a_forms a_sizes a_items a_moved a_bytes a_typed a_chances a_longs a_letters a_isThere a_pieceLongs a_pieceLetters a_song a_settings a_guess a_row a_least a_nights f_latest f_at f_names f_pieces f_songLong f_guesses f_todo f_longs f_letters f_nights) s.heap → ∀ ls : Array Slot, lv_has ls 8 [(0, .ref a_this), (1, .int x1), (2, .int x2), (3, .int x3)] → W p l e RM_Mo_sureOf s m args below meth c s.heap [] 0 0 (MQ below (QR (some (.int r))) args s 0 0 (fun _ => False)) (F0 m 5 ls [])) : ∀ (x2 : Int32) (x3 : Int32), Mo_sureOf_b50 F f_names f_longs f_letters f_nights x1 rec5 x2 x3 = some r → va_P D vwCl (w_Mo_sureOf ct a_this a_forms a_sizes a_items a_moved a_bytes a_typed a_chances a_longs a_letters a_isThere a_pieceLongs a_pieceLetters a_song a_settings a_guess a_row a_least a_nights f_latest f_at f_names f_pieces f_songLong f_guesses f_todo f_longs f_letters f_nights) s.heap → ∀ ls : Array Slot, lv_has ls 8 [(0, .ref a_this), (1, .int x1), (2, .int x2), (3, .int x3)] → W p l e RM_Mo_sureOf s m args below meth c s.heap [] 0 0 (MQ below (QR (some (.int r))) args s 0 0 (fun _ => False)) (F0 m 50 ls []) := by
  obtain ⟨hx, hb, hr, hml, hown, hts, hlk, hK, hN⟩ := id C
  intro x2 x3 hf hP ls hl
  unfold Mo_sureOf_b50 at hf
  refine lv_iinc (v := x3 + 1) (lv' := [(3, .int (x3 + 1)), (0, .ref a_this), (1, .int x1), (2, .int x2)]) hx hb dX11_sureOf_50 hl (k := 3) rfl rfl (by decide) rfl (fun ls hl => ?_)
  refine lv_goto (tgt := 5) hx hb dX11_sureOf_53 (by decide) ?_
  exact hr5 x2 (x3 + 1) hf hP _ (lv_sub hl [1, 2, 3, 0] rfl)
set_option maxHeartbeats 4000000 in
set_option maxRecDepth 100000 in
theorem t_Mo_sureOf_b49 {p : Program} {l : Launch} {e : Env} {s : State} {m : MethodId} {args : Array Value} {below : List Frame} {meth : Method} {c : Code} {D : va_G} {ct : Nat → ClassId} (C : CX p s m args meth c RX11 cX11_sureOf 8 (some .int) D ct) (a_this a_forms a_sizes a_items a_moved a_bytes a_typed a_chances a_longs a_letters a_isThere a_pieceLongs a_pieceLetters a_song a_settings a_guess a_row a_least a_nights : Nat) (f_latest : Int32) (f_at : Int32) (f_pieces : Int32) (f_songLong : Int32) (f_guesses : Int32) (f_todo : Int32) (F : Nat) (f_names : Int32) (f_longs : Nat → Int32) (f_letters : Nat → Int32) (f_nights : Nat → Int32) (x1 : Int32) (r : Int32) (rec5 : Int32 → Int32 → Option Int32) (hr5 : ∀ (x2 : Int32) (x3 : Int32), rec5 x2 x3 = some r → va_P D vwCl (w_Mo_sureOf ct a_this a_forms a_sizes a_items a_moved a_bytes a_typed a_chances a_longs a_letters a_isThere a_pieceLongs a_pieceLetters a_song a_settings a_guess a_row a_least a_nights f_latest f_at f_names f_pieces f_songLong f_guesses f_todo f_longs f_letters f_nights) s.heap → ∀ ls : Array Slot, lv_has ls 8 [(0, .ref a_this), (1, .int x1), (2, .int x2), (3, .int x3)] → W p l e RM_Mo_sureOf s m args below meth c s.heap [] 0 0 (MQ below (QR (some (.int r))) args s 0 0 (fun _ => False)) (F0 m 5 ls [])) : ∀ (x3 : Int32) (k0 : Int32), Mo_sureOf_b49 F f_names f_longs f_letters f_nights x1 rec5 x3 k0 = some r → va_P D vwCl (w_Mo_sureOf ct a_this a_forms a_sizes a_items a_moved a_bytes a_typed a_chances a_longs a_letters a_isThere a_pieceLongs a_pieceLetters a_song a_settings a_guess a_row a_least a_nights f_latest f_at f_names f_pieces f_songLong f_guesses f_todo f_longs f_letters f_nights) s.heap → ∀ ls : Array Slot, lv_has ls 8 [(0, .ref a_this), (1, .int x1), (3, .int x3)] → W p l e RM_Mo_sureOf s m args below meth c s.heap [] 0 0 (MQ below (QR (some (.int r))) args s 0 0 (fun _ => False)) (F0 m 49 ls [.int k0]) := by
  obtain ⟨hx, hb, hr, hml, hown, hts, hlk, hK, hN⟩ := id C
  intro x3 k0 hf hP ls hl
  unfold Mo_sureOf_b49 at hf
  refine lv_istore_n (lv' := [(2, .int k0), (0, .ref a_this), (1, .int x1), (3, .int x3)]) hx hb dX11_sureOf_49 rfl hl (by decide) rfl (fun ls hl => ?_)
  exact t_Mo_sureOf_b50 C a_this a_forms a_sizes a_items a_moved a_bytes a_typed a_chances a_longs a_letters a_isThere a_pieceLongs a_pieceLetters a_song a_settings a_guess a_row a_least a_nights f_latest f_at f_pieces f_songLong f_guesses f_todo F f_names f_longs f_letters f_nights x1 r rec5 hr5 k0 x3 hf hP _ (lv_sub hl [1, 2, 0, 3] rfl)
set_option maxHeartbeats 4000000 in
set_option maxRecDepth 100000 in
theorem t_Mo_sureOf_b5 {p : Program} {l : Launch} {e : Env} {s : State} {m : MethodId} {args : Array Value} {below : List Frame} {meth : Method} {c : Code} {D : va_G} {ct : Nat → ClassId} (C : CX p s m args meth c RX11 cX11_sureOf 8 (some .int) D ct) (a_this a_forms a_sizes a_items a_moved a_bytes a_typed a_chances a_longs a_letters a_isThere a_pieceLongs a_pieceLetters a_song a_settings a_guess a_row a_least a_nights : Nat) (f_latest : Int32) (f_at : Int32) (f_pieces : Int32) (f_songLong : Int32) (f_guesses : Int32) (f_todo : Int32) (F : Nat) (f_names : Int32) (f_longs : Nat → Int32) (f_letters : Nat → Int32) (f_nights : Nat → Int32) (x1 : Int32) (r : Int32) (rec5 : Int32 → Int32 → Option Int32) (hr5 : ∀ (x2 : Int32) (x3 : Int32), rec5 x2 x3 = some r → va_P D vwCl (w_Mo_sureOf ct a_this a_forms a_sizes a_items a_moved a_bytes a_typed a_chances a_longs a_letters a_isThere a_pieceLongs a_pieceLetters a_song a_settings a_guess a_row a_least a_nights f_latest f_at f_names f_pieces f_songLong f_guesses f_todo f_longs f_letters f_nights) s.heap → ∀ ls : Array Slot, lv_has ls 8 [(0, .ref a_this), (1, .int x1), (2, .int x2), (3, .int x3)] → W p l e RM_Mo_sureOf s m args below meth c s.heap [] 0 0 (MQ below (QR (some (.int r))) args s 0 0 (fun _ => False)) (F0 m 5 ls [])) : ∀ (x2 : Int32) (x3 : Int32), Mo_sureOf_b5 F f_names f_longs f_letters f_nights x1 rec5 x2 x3 = some r → va_P D vwCl (w_Mo_sureOf ct a_this a_forms a_sizes a_items a_moved a_bytes a_typed a_chances a_longs a_letters a_isThere a_pieceLongs a_pieceLetters a_song a_settings a_guess a_row a_least a_nights f_latest f_at f_names f_pieces f_songLong f_guesses f_todo f_longs f_letters f_nights) s.heap → ∀ ls : Array Slot, lv_has ls 8 [(0, .ref a_this), (1, .int x1), (2, .int x2), (3, .int x3)] → W p l e RM_Mo_sureOf s m args below meth c s.heap [] 0 0 (MQ below (QR (some (.int r))) args s 0 0 (fun _ => False)) (F0 m 5 ls []) := by
  obtain ⟨hx, hb, hr, hml, hown, hts, hlk, hK, hN⟩ := id C
  intro x2 x3 hf hP ls hl
  unfold Mo_sureOf_b5 at hf
  refine lv_iload_n hx hb dX11_sureOf_5 rfl (lv_at hl 3 rfl) ?_
  refine lv_aload_n hx hb dX11_sureOf_6 rfl (lv_at hl 0 rfl) ?_
  refine va_get (ci := 11) (v := .int f_names) (C := RX11) (T := TX11) (N := 25) hx hb hts inX11 hown hK hP 0 rfl rfl 8 (by decide) (hts _ tw_952) (fun _ h9 => h9) rfl dX11_sureOf_7 ?_
  refine lv_icmp_ge (tgt := 56) hx hb dX11_sureOf_10 (by decide) (fun hc => ?_) (fun hc => ?_)
  · have hf := kpos hc hf
    exact t_Mo_sureOf_b56 C a_this a_forms a_sizes a_items a_moved a_bytes a_typed a_chances a_longs a_letters a_isThere a_pieceLongs a_pieceLetters a_song a_settings a_guess a_row a_least a_nights f_latest f_at f_pieces f_songLong f_guesses f_todo F f_names f_longs f_letters f_nights x1 r x2 hf hP _ (lv_sub hl [0, 1, 2] rfl)
  · have hf := kneg hc hf
    refine lv_iload_n hx hb dX11_sureOf_13 rfl (lv_at hl 1 rfl) ?_
    refine lv_iload_n hx hb dX11_sureOf_14 rfl (lv_at hl 3 rfl) ?_
    obtain ⟨v15, hc15, hf⟩ := cb1_some hf
    refine kcRS (As := [.int x1, .int x3]) (rest := []) (st1 := [.int v15]) C (c_Mo_isIn l D ct x1 x3 v15 hc15) ⟨rfl, rfl⟩ yn_yX11_isIn tw_1168 tw_1167 ⟨Nat.le_of_ble_eq_true rfl, Nat.le_of_ble_eq_true rfl⟩ ⟨Nat.zero_le _, Nat.zero_le _⟩ hP [] rfl hl.1 rfl rfl (Nat.le_of_ble_eq_true rfl) dX11_sureOf_15 rfl ?_
    refine lv_if_eq (tgt := 50) hx hb dX11_sureOf_18 (by decide) (fun hc => ?_) (fun hc => ?_)
    · have hf := kpos hc hf
      exact t_Mo_sureOf_b50 C a_this a_forms a_sizes a_items a_moved a_bytes a_typed a_chances a_longs a_letters a_isThere a_pieceLongs a_pieceLetters a_song a_settings a_guess a_row a_least a_nights f_latest f_at f_pieces f_songLong f_guesses f_todo F f_names f_longs f_letters f_nights x1 r rec5 hr5 x2 x3 hf hP _ (lv_sub hl [0, 1, 2, 3] rfl)
    · have hf := kneg hc hf
      refine lv_iconst (v := 1) hx hb dX11_sureOf_21 (by decide) ?_
      refine lv_aload_n hx hb dX11_sureOf_22 rfl (lv_at hl 0 rfl) ?_
      refine va_get (ci := 11) (v := .ref a_nights) (C := RX11) (T := TX11) (N := 25) hx hb hts inX11 hown hK hP 0 rfl rfl 24 (by decide) (hts _ tw_968) (fun _ h9 => h9) rfl dX11_sureOf_23 ?_
      refine lv_iload_n hx hb dX11_sureOf_26 rfl (lv_at hl 1 rfl) ?_
      refine lv_iconst (v := 1) hx hb dX11_sureOf_27 (by decide) ?_
      refine lv_iload_n hx hb dX11_sureOf_28 rfl (lv_at hl 3 rfl) ?_
      refine lv_ishl hx hb dX11_sureOf_29 ?_
      refine lv_iconst (v := (-1)) hx hb dX11_sureOf_30 (by decide) ?_
      refine lv_ixor hx hb dX11_sureOf_31 ?_
      refine lv_iand hx hb dX11_sureOf_32 ?_
      obtain ⟨hin, hf⟩ := rd_some hf
      generalize ev33 : f_nights (Int32.toNatClampNeg (x1 &&& (((1 : Int32) <<< (x3 &&& 31)) ^^^ (-1)))) = v33 at hf
      refine kiald hx hb hK hP 3 0 rfl rfl hin ev33 dX11_sureOf_33 ?_
      refine lv_iadd hx hb dX11_sureOf_34 ?_
      refine lv_istore (lv' := [(4, .int (1 + v33)), (0, .ref a_this), (1, .int x1), (2, .int x2), (3, .int x3)]) hx hb dX11_sureOf_35 hl (by decide) rfl (fun ls hl => ?_)
      refine lv_iload hx hb dX11_sureOf_37 (lv_at hl 0 rfl) ?_
      refine lv_iload_n hx hb dX11_sureOf_39 rfl (lv_at hl 3 rfl) ?_
      refine lv_icmp_ge (tgt := 48) hx hb dX11_sureOf_40 (by decide) (fun hc => ?_) (fun hc => ?_)
      · have hf := kpos hc hf
        refine lv_iload_n hx hb dX11_sureOf_48 rfl (lv_at hl 3 rfl) ?_
        exact t_Mo_sureOf_b49 C a_this a_forms a_sizes a_items a_moved a_bytes a_typed a_chances a_longs a_letters a_isThere a_pieceLongs a_pieceLetters a_song a_settings a_guess a_row a_least a_nights f_latest f_at f_pieces f_songLong f_guesses f_todo F f_names f_longs f_letters f_nights x1 r rec5 hr5 x3 x2 hf hP _ (lv_sub hl [1, 2, 4] rfl)
      · have hf := kneg hc hf
        refine lv_iload hx hb dX11_sureOf_43 (lv_at hl 0 rfl) ?_
        refine lv_goto (tgt := 49) hx hb dX11_sureOf_45 (by decide) ?_
        exact t_Mo_sureOf_b49 C a_this a_forms a_sizes a_items a_moved a_bytes a_typed a_chances a_longs a_letters a_isThere a_pieceLongs a_pieceLetters a_song a_settings a_guess a_row a_least a_nights f_latest f_at f_pieces f_songLong f_guesses f_todo F f_names f_longs f_letters f_nights x1 r rec5 hr5 x3 (1 + v33) hf hP _ (lv_sub hl [1, 2, 4] rfl)
set_option maxHeartbeats 4000000 in
set_option maxRecDepth 100000 in
theorem t_Mo_sureOf_l5 {p : Program} {l : Launch} {e : Env} {s : State} {m : MethodId} {args : Array Value} {below : List Frame} {meth : Method} {c : Code} {D : va_G} {ct : Nat → ClassId} (C : CX p s m args meth c RX11 cX11_sureOf 8 (some .int) D ct) (a_this a_forms a_sizes a_items a_moved a_bytes a_typed a_chances a_longs a_letters a_isThere a_pieceLongs a_pieceLetters a_song a_settings a_guess a_row a_least a_nights : Nat) (f_latest : Int32) (f_at : Int32) (f_pieces : Int32) (f_songLong : Int32) (f_guesses : Int32) (f_todo : Int32) (F : Nat) (f_names : Int32) (f_longs : Nat → Int32) (f_letters : Nat → Int32) (f_nights : Nat → Int32) (x1 : Int32) (r : Int32) : ∀ (n : Nat) (x2 : Int32) (x3 : Int32), Mo_sureOf_l5 F f_names f_longs f_letters f_nights x1 n x2 x3 = some r → va_P D vwCl (w_Mo_sureOf ct a_this a_forms a_sizes a_items a_moved a_bytes a_typed a_chances a_longs a_letters a_isThere a_pieceLongs a_pieceLetters a_song a_settings a_guess a_row a_least a_nights f_latest f_at f_names f_pieces f_songLong f_guesses f_todo f_longs f_letters f_nights) s.heap → ∀ ls : Array Slot, lv_has ls 8 [(0, .ref a_this), (1, .int x1), (2, .int x2), (3, .int x3)] → W p l e RM_Mo_sureOf s m args below meth c s.heap [] 0 0 (MQ below (QR (some (.int r))) args s 0 0 (fun _ => False)) (F0 m 5 ls []) := by
  intro n
  induction n with
  | zero =>
    intro x2 x3 hf
    exact absurd hf (by simp [Mo_sureOf_l5])
  | succ n ih =>
    intro x2 x3 hf
    exact t_Mo_sureOf_b5 C a_this a_forms a_sizes a_items a_moved a_bytes a_typed a_chances a_longs a_letters a_isThere a_pieceLongs a_pieceLetters a_song a_settings a_guess a_row a_least a_nights f_latest f_at f_pieces f_songLong f_guesses f_todo F f_names f_longs f_letters f_nights x1 r (Mo_sureOf_l5 F f_names f_longs f_letters f_nights x1 n) ih x2 x3 hf
set_option maxHeartbeats 4000000 in
set_option maxRecDepth 100000 in
theorem c_Mo_sureOf (l : Launch) (D : va_G) (ct : Nat → ClassId) (a_this a_forms a_sizes a_items a_moved a_bytes a_typed a_chances a_longs a_letters a_isThere a_pieceLongs a_pieceLetters a_song a_settings a_guess a_row a_least a_nights : Nat) (f_latest : Int32) (f_at : Int32) (f_pieces : Int32) (f_songLong : Int32) (f_guesses : Int32) (f_todo : Int32) (F : Nat) (f_names : Int32) (f_longs : Nat → Int32) (f_letters : Nat → Int32) (f_nights : Nat → Int32) (x1 : Int32) (r : Int32) (hf : Mo_sureOf F f_names f_longs f_letters f_nights x1 = some r) : Met l yX11_sureOf (WS yX11_sureOf cX11_sureOf 8 (some .int)) RM_Mo_sureOf (va_Pc [.ref a_this, .int x1] (PR D ct (w_Mo_sureOf ct a_this a_forms a_sizes a_items a_moved a_bytes a_typed a_chances a_longs a_letters a_isThere a_pieceLongs a_pieceLetters a_song a_settings a_guess a_row a_least a_nights f_latest f_at f_names f_pieces f_songLong f_guesses f_todo f_longs f_letters f_nights))) (QR (some (.int r))) 0 0 (fun _ => False) := by
  refine kMetR yn_yX11_sureOf rfl (Nat.le_of_ble_eq_true rfl) ?_
  intro p e s m args below meth c C hP ls hl
  have hl : lv_has ls 8 [(0, .ref a_this), (1, .int x1)] := hl
  obtain ⟨hx, hb, hr, hml, hown, hts, hlk, hK, hN⟩ := id C
  unfold Mo_sureOf at hf
  refine lv_bipush (v := 99) hx hb dX11_sureOf_0 (by decide) ?_
  refine lv_istore_n (lv' := [(2, .int 99), (0, .ref a_this), (1, .int x1)]) hx hb dX11_sureOf_2 rfl hl (by decide) rfl (fun ls hl => ?_)
  refine lv_iconst (v := 0) hx hb dX11_sureOf_3 (by decide) ?_
  refine lv_istore_n (lv' := [(3, .int 0), (2, .int 99), (0, .ref a_this), (1, .int x1)]) hx hb dX11_sureOf_4 rfl hl (by decide) rfl (fun ls hl => ?_)
  exact t_Mo_sureOf_l5 C a_this a_forms a_sizes a_items a_moved a_bytes a_typed a_chances a_longs a_letters a_isThere a_pieceLongs a_pieceLetters a_song a_settings a_guess a_row a_least a_nights f_latest f_at f_pieces f_songLong f_guesses f_todo F f_names f_longs f_letters f_nights x1 r F 99 0 hf hP _ (lv_sub hl [2, 3, 1, 0] rfl)
def RM_Mo_sureNow : Room := { frames := 3, cells := 0, slots := 0, locals := 74 }
set_option maxHeartbeats 4000000 in
set_option maxRecDepth 100000 in
theorem t_Mo_sureNow_b44 {p : Program} {l : Launch} {e : Env} {s : State} {m : MethodId} {args : Array Value} {below : List Frame} {meth : Method} {c : Code} {D : va_G} {ct : Nat → ClassId} (C : CX p s m args meth c RX11 cX11_sureNow 3 (some .int) D ct) {A : Nat → Prop} (hA : ∀ q : Nat, s.heap.size ≤ q → A q) (a_this a_forms a_sizes a_items a_moved a_bytes a_typed a_chances a_longs a_letters a_isThere a_pieceLongs a_pieceLetters a_song a_settings a_guess a_row a_least a_nights : Nat) (f_latest : Int32) (f_at : Int32) (f_guesses : Int32) (f_todo : Int32) (F : Nat) (f_names : Int32) (f_pieces : Int32) (f_songLong : Int32) (f_longs : Nat → Int32) (f_letters : Nat → Int32) (f_isThere : Nat → Int32) (f_pieceLongs : Nat → Int32) (f_pieceLetters : Nat → Int32) (f_song : Nat → Int32) (r : Int32) (r_nights : Nat → Int32) : ∀ (x1 : Int32) (f_nights : Nat → Int32), Mo_sureNow_b44 F f_names f_pieces f_songLong f_longs f_letters f_isThere f_pieceLongs f_pieceLetters f_song x1 f_nights = some (r, r_nights) → ∀ (H : Heap) (locs : List Loc), va_P D vwCl (w_Mo_sureNow ct a_this a_forms a_sizes a_items a_moved a_bytes a_typed a_chances a_longs a_letters a_isThere a_pieceLongs a_pieceLetters a_song a_settings a_guess a_row a_least a_nights f_latest f_at f_names f_pieces f_songLong f_guesses f_todo f_longs f_letters f_isThere f_pieceLongs f_pieceLetters f_song f_nights) H → va_D A (w_Mo_sureNow ct a_this a_forms a_sizes a_items a_moved a_bytes a_typed a_chances a_longs a_letters a_isThere a_pieceLongs a_pieceLetters a_song a_settings a_guess a_row a_least a_nights f_latest f_at f_names f_pieces f_songLong f_guesses f_todo f_longs f_letters f_isThere f_pieceLongs f_pieceLetters f_song f_nights) → va_S A s.heap H locs → ∀ ls : Array Slot, lv_has ls 3 [(0, .ref a_this), (1, .int x1)] → W p l e RM_Mo_sureNow s m args below meth c H locs 0 0 (MQ below (QM D (some (.int r)) (w_Mo_sureNow ct a_this a_forms a_sizes a_items a_moved a_bytes a_typed a_chances a_longs a_letters a_isThere a_pieceLongs a_pieceLetters a_song a_settings a_guess a_row a_least a_nights f_latest f_at f_names f_pieces f_songLong f_guesses f_todo f_longs f_letters f_isThere f_pieceLongs f_pieceLetters f_song r_nights) A) args s 0 0 A) (F0 m 44 ls []) := by
  obtain ⟨hx, hb, hr, hml, hown, hts, hlk, hK, hN⟩ := id C
  intro x1 f_nights hf H locs hP hD hS ls hl
  unfold Mo_sureNow_b44 at hf
  refine lv_aload_n hx hb dX11_sureNow_44 rfl (lv_at hl 0 rfl) ?_
  refine va_get (ci := 11) (v := .ref a_nights) (C := RX11) (T := TX11) (N := 25) hx hb hts inX11 hown hK hP 0 rfl rfl 24 (by decide) (hts _ tw_968) (fun _ h9 => h9) rfl dX11_sureNow_45 ?_
  refine lv_iload_n hx hb dX11_sureNow_48 rfl (lv_at hl 1 rfl) ?_
  obtain ⟨hin, hf⟩ := rd_some hf
  generalize ev49 : f_nights (Int32.toNatClampNeg x1) = v49 at hf
  refine kiald hx hb hK hP 7 0 rfl rfl hin ev49 dX11_sureNow_49 ?_
  obtain ⟨e1, e2⟩ := ti2 hf
  subst e1; subst e2
  exact kretM C hP hD hS dX11_sureNow_50
set_option maxHeartbeats 4000000 in
set_option maxRecDepth 100000 in
theorem t_Mo_sureNow_b38 {p : Program} {l : Launch} {e : Env} {s : State} {m : MethodId} {args : Array Value} {below : List Frame} {meth : Method} {c : Code} {D : va_G} {ct : Nat → ClassId} (C : CX p s m args meth c RX11 cX11_sureNow 3 (some .int) D ct) {A : Nat → Prop} (hA : ∀ q : Nat, s.heap.size ≤ q → A q) (a_this a_forms a_sizes a_items a_moved a_bytes a_typed a_chances a_longs a_letters a_isThere a_pieceLongs a_pieceLetters a_song a_settings a_guess a_row a_least a_nights : Nat) (f_latest : Int32) (f_at : Int32) (f_guesses : Int32) (f_todo : Int32) (F : Nat) (f_names : Int32) (f_pieces : Int32) (f_songLong : Int32) (f_longs : Nat → Int32) (f_letters : Nat → Int32) (f_isThere : Nat → Int32) (f_pieceLongs : Nat → Int32) (f_pieceLetters : Nat → Int32) (f_song : Nat → Int32) (r : Int32) (r_nights : Nat → Int32) (rec14 : Int32 → Int32 → (Nat → Int32) → Option (Int32 × (Nat → Int32))) (hr14 : ∀ (x1 : Int32) (x2 : Int32) (f_nights : Nat → Int32), rec14 x1 x2 f_nights = some (r, r_nights) → ∀ (H : Heap) (locs : List Loc), va_P D vwCl (w_Mo_sureNow ct a_this a_forms a_sizes a_items a_moved a_bytes a_typed a_chances a_longs a_letters a_isThere a_pieceLongs a_pieceLetters a_song a_settings a_guess a_row a_least a_nights f_latest f_at f_names f_pieces f_songLong f_guesses f_todo f_longs f_letters f_isThere f_pieceLongs f_pieceLetters f_song f_nights) H → va_D A (w_Mo_sureNow ct a_this a_forms a_sizes a_items a_moved a_bytes a_typed a_chances a_longs a_letters a_isThere a_pieceLongs a_pieceLetters a_song a_settings a_guess a_row a_least a_nights f_latest f_at f_names f_pieces f_songLong f_guesses f_todo f_longs f_letters f_isThere f_pieceLongs f_pieceLetters f_song f_nights) → va_S A s.heap H locs → ∀ ls : Array Slot, lv_has ls 3 [(0, .ref a_this), (1, .int x1), (2, .int x2)] → W p l e RM_Mo_sureNow s m args below meth c H locs 0 0 (MQ below (QM D (some (.int r)) (w_Mo_sureNow ct a_this a_forms a_sizes a_items a_moved a_bytes a_typed a_chances a_longs a_letters a_isThere a_pieceLongs a_pieceLetters a_song a_settings a_guess a_row a_least a_nights f_latest f_at f_names f_pieces f_songLong f_guesses f_todo f_longs f_letters f_isThere f_pieceLongs f_pieceLetters f_song r_nights) A) args s 0 0 A) (F0 m 14 ls [])) : ∀ (x1 : Int32) (x2 : Int32) (f_nights : Nat → Int32), Mo_sureNow_b38 F f_names f_pieces f_songLong f_longs f_letters f_isThere f_pieceLongs f_pieceLetters f_song rec14 x1 x2 f_nights = some (r, r_nights) → ∀ (H : Heap) (locs : List Loc), va_P D vwCl (w_Mo_sureNow ct a_this a_forms a_sizes a_items a_moved a_bytes a_typed a_chances a_longs a_letters a_isThere a_pieceLongs a_pieceLetters a_song a_settings a_guess a_row a_least a_nights f_latest f_at f_names f_pieces f_songLong f_guesses f_todo f_longs f_letters f_isThere f_pieceLongs f_pieceLetters f_song f_nights) H → va_D A (w_Mo_sureNow ct a_this a_forms a_sizes a_items a_moved a_bytes a_typed a_chances a_longs a_letters a_isThere a_pieceLongs a_pieceLetters a_song a_settings a_guess a_row a_least a_nights f_latest f_at f_names f_pieces f_songLong f_guesses f_todo f_longs f_letters f_isThere f_pieceLongs f_pieceLetters f_song f_nights) → va_S A s.heap H locs → ∀ ls : Array Slot, lv_has ls 3 [(0, .ref a_this), (1, .int x1), (2, .int x2)] → W p l e RM_Mo_sureNow s m args below meth c H locs 0 0 (MQ below (QM D (some (.int r)) (w_Mo_sureNow ct a_this a_forms a_sizes a_items a_moved a_bytes a_typed a_chances a_longs a_letters a_isThere a_pieceLongs a_pieceLetters a_song a_settings a_guess a_row a_least a_nights f_latest f_at f_names f_pieces f_songLong f_guesses f_todo f_longs f_letters f_isThere f_pieceLongs f_pieceLetters f_song r_nights) A) args s 0 0 A) (F0 m 38 ls []) := by
  obtain ⟨hx, hb, hr, hml, hown, hts, hlk, hK, hN⟩ := id C
  intro x1 x2 f_nights hf H locs hP hD hS ls hl
  unfold Mo_sureNow_b38 at hf
  refine lv_iinc (v := x2 + 1) (lv' := [(2, .int (x2 + 1)), (0, .ref a_this), (1, .int x1)]) hx hb dX11_sureNow_38 hl (k := 2) rfl rfl (by decide) rfl (fun ls hl => ?_)
  refine lv_goto (tgt := 14) hx hb dX11_sureNow_41 (by decide) ?_
  exact hr14 x1 (x2 + 1) f_nights hf _ _ hP hD hS _ (lv_sub hl [1, 2, 0] rfl)
set_option maxHeartbeats 4000000 in
set_option maxRecDepth 100000 in
theorem t_Mo_sureNow_b14 {p : Program} {l : Launch} {e : Env} {s : State} {m : MethodId} {args : Array Value} {below : List Frame} {meth : Method} {c : Code} {D : va_G} {ct : Nat → ClassId} (C : CX p s m args meth c RX11 cX11_sureNow 3 (some .int) D ct) {A : Nat → Prop} (hA : ∀ q : Nat, s.heap.size ≤ q → A q) (a_this a_forms a_sizes a_items a_moved a_bytes a_typed a_chances a_longs a_letters a_isThere a_pieceLongs a_pieceLetters a_song a_settings a_guess a_row a_least a_nights : Nat) (f_latest : Int32) (f_at : Int32) (f_guesses : Int32) (f_todo : Int32) (F : Nat) (f_names : Int32) (f_pieces : Int32) (f_songLong : Int32) (f_longs : Nat → Int32) (f_letters : Nat → Int32) (f_isThere : Nat → Int32) (f_pieceLongs : Nat → Int32) (f_pieceLetters : Nat → Int32) (f_song : Nat → Int32) (r : Int32) (r_nights : Nat → Int32) (rec14 : Int32 → Int32 → (Nat → Int32) → Option (Int32 × (Nat → Int32))) (hr14 : ∀ (x1 : Int32) (x2 : Int32) (f_nights : Nat → Int32), rec14 x1 x2 f_nights = some (r, r_nights) → ∀ (H : Heap) (locs : List Loc), va_P D vwCl (w_Mo_sureNow ct a_this a_forms a_sizes a_items a_moved a_bytes a_typed a_chances a_longs a_letters a_isThere a_pieceLongs a_pieceLetters a_song a_settings a_guess a_row a_least a_nights f_latest f_at f_names f_pieces f_songLong f_guesses f_todo f_longs f_letters f_isThere f_pieceLongs f_pieceLetters f_song f_nights) H → va_D A (w_Mo_sureNow ct a_this a_forms a_sizes a_items a_moved a_bytes a_typed a_chances a_longs a_letters a_isThere a_pieceLongs a_pieceLetters a_song a_settings a_guess a_row a_least a_nights f_latest f_at f_names f_pieces f_songLong f_guesses f_todo f_longs f_letters f_isThere f_pieceLongs f_pieceLetters f_song f_nights) → va_S A s.heap H locs → ∀ ls : Array Slot, lv_has ls 3 [(0, .ref a_this), (1, .int x1), (2, .int x2)] → W p l e RM_Mo_sureNow s m args below meth c H locs 0 0 (MQ below (QM D (some (.int r)) (w_Mo_sureNow ct a_this a_forms a_sizes a_items a_moved a_bytes a_typed a_chances a_longs a_letters a_isThere a_pieceLongs a_pieceLetters a_song a_settings a_guess a_row a_least a_nights f_latest f_at f_names f_pieces f_songLong f_guesses f_todo f_longs f_letters f_isThere f_pieceLongs f_pieceLetters f_song r_nights) A) args s 0 0 A) (F0 m 14 ls [])) : ∀ (x1 : Int32) (x2 : Int32) (f_nights : Nat → Int32), Mo_sureNow_b14 F f_names f_pieces f_songLong f_longs f_letters f_isThere f_pieceLongs f_pieceLetters f_song rec14 x1 x2 f_nights = some (r, r_nights) → ∀ (H : Heap) (locs : List Loc), va_P D vwCl (w_Mo_sureNow ct a_this a_forms a_sizes a_items a_moved a_bytes a_typed a_chances a_longs a_letters a_isThere a_pieceLongs a_pieceLetters a_song a_settings a_guess a_row a_least a_nights f_latest f_at f_names f_pieces f_songLong f_guesses f_todo f_longs f_letters f_isThere f_pieceLongs f_pieceLetters f_song f_nights) H → va_D A (w_Mo_sureNow ct a_this a_forms a_sizes a_items a_moved a_bytes a_typed a_chances a_longs a_letters a_isThere a_pieceLongs a_pieceLetters a_song a_settings a_guess a_row a_least a_nights f_latest f_at f_names f_pieces f_songLong f_guesses f_todo f_longs f_letters f_isThere f_pieceLongs f_pieceLetters f_song f_nights) → va_S A s.heap H locs → ∀ ls : Array Slot, lv_has ls 3 [(0, .ref a_this), (1, .int x1), (2, .int x2)] → W p l e RM_Mo_sureNow s m args below meth c H locs 0 0 (MQ below (QM D (some (.int r)) (w_Mo_sureNow ct a_this a_forms a_sizes a_items a_moved a_bytes a_typed a_chances a_longs a_letters a_isThere a_pieceLongs a_pieceLetters a_song a_settings a_guess a_row a_least a_nights f_latest f_at f_names f_pieces f_songLong f_guesses f_todo f_longs f_letters f_isThere f_pieceLongs f_pieceLetters f_song r_nights) A) args s 0 0 A) (F0 m 14 ls []) := by
  obtain ⟨hx, hb, hr, hml, hown, hts, hlk, hK, hN⟩ := id C
  intro x1 x2 f_nights hf H locs hP hD hS ls hl
  unfold Mo_sureNow_b14 at hf
  refine lv_iload_n hx hb dX11_sureNow_14 rfl (lv_at hl 2 rfl) ?_
  refine lv_iload_n hx hb dX11_sureNow_15 rfl (lv_at hl 1 rfl) ?_
  refine lv_icmp_gt (tgt := 44) hx hb dX11_sureNow_16 (by decide) (fun hc => ?_) (fun hc => ?_)
  · have hf := kpos hc hf
    exact t_Mo_sureNow_b44 C hA a_this a_forms a_sizes a_items a_moved a_bytes a_typed a_chances a_longs a_letters a_isThere a_pieceLongs a_pieceLetters a_song a_settings a_guess a_row a_least a_nights f_latest f_at f_guesses f_todo F f_names f_pieces f_songLong f_longs f_letters f_isThere f_pieceLongs f_pieceLetters f_song r r_nights x1 f_nights hf _ _ hP hD hS _ (lv_sub hl [0, 1] rfl)
  · have hf := kneg hc hf
    refine lv_iload_n hx hb dX11_sureNow_19 rfl (lv_at hl 2 rfl) ?_
    refine lv_iload_n hx hb dX11_sureNow_20 rfl (lv_at hl 1 rfl) ?_
    refine lv_iconst (v := (-1)) hx hb dX11_sureNow_21 (by decide) ?_
    refine lv_ixor hx hb dX11_sureNow_22 ?_
    refine lv_iand hx hb dX11_sureNow_23 ?_
    refine lv_if_ne (tgt := 38) hx hb dX11_sureNow_24 (by decide) (fun hc => ?_) (fun hc => ?_)
    · have hf := kneg hc hf
      exact t_Mo_sureNow_b38 C hA a_this a_forms a_sizes a_items a_moved a_bytes a_typed a_chances a_longs a_letters a_isThere a_pieceLongs a_pieceLetters a_song a_settings a_guess a_row a_least a_nights f_latest f_at f_guesses f_todo F f_names f_pieces f_songLong f_longs f_letters f_isThere f_pieceLongs f_pieceLetters f_song r r_nights rec14 hr14 x1 x2 f_nights hf _ _ hP hD hS _ (lv_sub hl [0, 1, 2] rfl)
    · have hf := kpos hc hf
      refine lv_aload_n hx hb dX11_sureNow_27 rfl (lv_at hl 0 rfl) ?_
      refine va_get (ci := 11) (v := .ref a_nights) (C := RX11) (T := TX11) (N := 25) hx hb hts inX11 hown hK hP 0 rfl rfl 24 (by decide) (hts _ tw_968) (fun _ h9 => h9) rfl dX11_sureNow_28 ?_
      refine lv_iload_n hx hb dX11_sureNow_31 rfl (lv_at hl 2 rfl) ?_
      refine lv_aload_n hx hb dX11_sureNow_32 rfl (lv_at hl 0 rfl) ?_
      refine lv_iload_n hx hb dX11_sureNow_33 rfl (lv_at hl 2 rfl) ?_
      obtain ⟨v34, hc34, hf⟩ := cb1_some hf
      refine kcRV (q0 := 0) (ci := 11) (As := [.int x2]) (rest := [.int x2, .ref a_nights]) (st1 := [.int v34, .int x2, .ref a_nights]) C (c_Mo_sureOf l D ct a_this a_forms a_sizes a_items a_moved a_bytes a_typed a_chances a_longs a_letters a_isThere a_pieceLongs a_pieceLetters a_song a_settings a_guess a_row a_least a_nights f_latest f_at f_pieces f_songLong f_guesses f_todo F f_names f_longs f_letters f_nights x2 v34 hc34) ⟨rfl, rfl⟩ yn_yX11_sureOf tw_1311 tw_62 tw_1309 ⟨Nat.le_of_ble_eq_true rfl, Nat.le_of_ble_eq_true rfl⟩ ⟨Nat.zero_le _, Nat.zero_le _⟩ hP [0, 1, 2, 7] rfl rfl rfl rfl hl.1 rfl rfl (Nat.le_of_ble_eq_true rfl) dX11_sureNow_34 rfl ?_
      obtain ⟨hin, f_nights_37, ev37, hf⟩ := wr_ex hf
      refine kiast hx hb hK hP hD hS 7 0 rfl rfl hin ev37 dX11_sureNow_37 (fun H locs hP hD hS => ?_)
      have hP : va_P D vwCl (w_Mo_sureNow ct a_this a_forms a_sizes a_items a_moved a_bytes a_typed a_chances a_longs a_letters a_isThere a_pieceLongs a_pieceLetters a_song a_settings a_guess a_row a_least a_nights f_latest f_at f_names f_pieces f_songLong f_guesses f_todo f_longs f_letters f_isThere f_pieceLongs f_pieceLetters f_song f_nights_37) H := hP
      have hD : va_D A (w_Mo_sureNow ct a_this a_forms a_sizes a_items a_moved a_bytes a_typed a_chances a_longs a_letters a_isThere a_pieceLongs a_pieceLetters a_song a_settings a_guess a_row a_least a_nights f_latest f_at f_names f_pieces f_songLong f_guesses f_todo f_longs f_letters f_isThere f_pieceLongs f_pieceLetters f_song f_nights_37) := hD
      exact t_Mo_sureNow_b38 C hA a_this a_forms a_sizes a_items a_moved a_bytes a_typed a_chances a_longs a_letters a_isThere a_pieceLongs a_pieceLetters a_song a_settings a_guess a_row a_least a_nights f_latest f_at f_guesses f_todo F f_names f_pieces f_songLong f_longs f_letters f_isThere f_pieceLongs f_pieceLetters f_song r r_nights rec14 hr14 x1 x2 f_nights_37 hf _ _ hP hD hS _ (lv_sub hl [0, 1, 2] rfl)
set_option maxHeartbeats 4000000 in
set_option maxRecDepth 100000 in
theorem t_Mo_sureNow_l14 {p : Program} {l : Launch} {e : Env} {s : State} {m : MethodId} {args : Array Value} {below : List Frame} {meth : Method} {c : Code} {D : va_G} {ct : Nat → ClassId} (C : CX p s m args meth c RX11 cX11_sureNow 3 (some .int) D ct) {A : Nat → Prop} (hA : ∀ q : Nat, s.heap.size ≤ q → A q) (a_this a_forms a_sizes a_items a_moved a_bytes a_typed a_chances a_longs a_letters a_isThere a_pieceLongs a_pieceLetters a_song a_settings a_guess a_row a_least a_nights : Nat) (f_latest : Int32) (f_at : Int32) (f_guesses : Int32) (f_todo : Int32) (F : Nat) (f_names : Int32) (f_pieces : Int32) (f_songLong : Int32) (f_longs : Nat → Int32) (f_letters : Nat → Int32) (f_isThere : Nat → Int32) (f_pieceLongs : Nat → Int32) (f_pieceLetters : Nat → Int32) (f_song : Nat → Int32) (r : Int32) (r_nights : Nat → Int32) : ∀ (n : Nat) (x1 : Int32) (x2 : Int32) (f_nights : Nat → Int32), Mo_sureNow_l14 F f_names f_pieces f_songLong f_longs f_letters f_isThere f_pieceLongs f_pieceLetters f_song n x1 x2 f_nights = some (r, r_nights) → ∀ (H : Heap) (locs : List Loc), va_P D vwCl (w_Mo_sureNow ct a_this a_forms a_sizes a_items a_moved a_bytes a_typed a_chances a_longs a_letters a_isThere a_pieceLongs a_pieceLetters a_song a_settings a_guess a_row a_least a_nights f_latest f_at f_names f_pieces f_songLong f_guesses f_todo f_longs f_letters f_isThere f_pieceLongs f_pieceLetters f_song f_nights) H → va_D A (w_Mo_sureNow ct a_this a_forms a_sizes a_items a_moved a_bytes a_typed a_chances a_longs a_letters a_isThere a_pieceLongs a_pieceLetters a_song a_settings a_guess a_row a_least a_nights f_latest f_at f_names f_pieces f_songLong f_guesses f_todo f_longs f_letters f_isThere f_pieceLongs f_pieceLetters f_song f_nights) → va_S A s.heap H locs → ∀ ls : Array Slot, lv_has ls 3 [(0, .ref a_this), (1, .int x1), (2, .int x2)] → W p l e RM_Mo_sureNow s m args below meth c H locs 0 0 (MQ below (QM D (some (.int r)) (w_Mo_sureNow ct a_this a_forms a_sizes a_items a_moved a_bytes a_typed a_chances a_longs a_letters a_isThere a_pieceLongs a_pieceLetters a_song a_settings a_guess a_row a_least a_nights f_latest f_at f_names f_pieces f_songLong f_guesses f_todo f_longs f_letters f_isThere f_pieceLongs f_pieceLetters f_song r_nights) A) args s 0 0 A) (F0 m 14 ls []) := by
  intro n
  induction n with
  | zero =>
    intro x1 x2 f_nights hf
    exact absurd hf (by simp [Mo_sureNow_l14])
  | succ n ih =>
    intro x1 x2 f_nights hf
    exact t_Mo_sureNow_b14 C hA a_this a_forms a_sizes a_items a_moved a_bytes a_typed a_chances a_longs a_letters a_isThere a_pieceLongs a_pieceLetters a_song a_settings a_guess a_row a_least a_nights f_latest f_at f_guesses f_todo F f_names f_pieces f_songLong f_longs f_letters f_isThere f_pieceLongs f_pieceLetters f_song r r_nights (Mo_sureNow_l14 F f_names f_pieces f_songLong f_longs f_letters f_isThere f_pieceLongs f_pieceLetters f_song n) ih x1 x2 f_nights hf
set_option maxHeartbeats 4000000 in
set_option maxRecDepth 100000 in
theorem c_Mo_sureNow (l : Launch) (D : va_G) (ct : Nat → ClassId) (a_this a_forms a_sizes a_items a_moved a_bytes a_typed a_chances a_longs a_letters a_isThere a_pieceLongs a_pieceLetters a_song a_settings a_guess a_row a_least a_nights : Nat) (f_latest : Int32) (f_at : Int32) (f_guesses : Int32) (f_todo : Int32) (F : Nat) (f_names : Int32) (f_pieces : Int32) (f_songLong : Int32) (f_longs : Nat → Int32) (f_letters : Nat → Int32) (f_isThere : Nat → Int32) (f_pieceLongs : Nat → Int32) (f_pieceLetters : Nat → Int32) (f_song : Nat → Int32) (f_nights : Nat → Int32) (r : Int32) (r_nights : Nat → Int32) (sz : Nat) (hf : Mo_sureNow F f_names f_pieces f_songLong f_longs f_letters f_isThere f_pieceLongs f_pieceLetters f_song f_nights = some (r, r_nights)) : Met l yX11_sureNow (WS yX11_sureNow cX11_sureNow 3 (some .int)) RM_Mo_sureNow (va_Pc [.ref a_this] (PM D ct sz (w_Mo_sureNow ct a_this a_forms a_sizes a_items a_moved a_bytes a_typed a_chances a_longs a_letters a_isThere a_pieceLongs a_pieceLetters a_song a_settings a_guess a_row a_least a_nights f_latest f_at f_names f_pieces f_songLong f_guesses f_todo f_longs f_letters f_isThere f_pieceLongs f_pieceLetters f_song f_nights))) (QM D (some (.int r)) (w_Mo_sureNow ct a_this a_forms a_sizes a_items a_moved a_bytes a_typed a_chances a_longs a_letters a_isThere a_pieceLongs a_pieceLetters a_song a_settings a_guess a_row a_least a_nights f_latest f_at f_names f_pieces f_songLong f_guesses f_todo f_longs f_letters f_isThere f_pieceLongs f_pieceLetters f_song r_nights) (va_A (w_Mo_sureNow ct a_this a_forms a_sizes a_items a_moved a_bytes a_typed a_chances a_longs a_letters a_isThere a_pieceLongs a_pieceLetters a_song a_settings a_guess a_row a_least a_nights f_latest f_at f_names f_pieces f_songLong f_guesses f_todo f_longs f_letters f_isThere f_pieceLongs f_pieceLetters f_song f_nights) sz)) 0 0 (va_A (w_Mo_sureNow ct a_this a_forms a_sizes a_items a_moved a_bytes a_typed a_chances a_longs a_letters a_isThere a_pieceLongs a_pieceLetters a_song a_settings a_guess a_row a_least a_nights f_latest f_at f_names f_pieces f_songLong f_guesses f_todo f_longs f_letters f_isThere f_pieceLongs f_pieceLetters f_song f_nights) sz) := by
  refine kMetM yn_yX11_sureNow rfl (Nat.le_of_ble_eq_true rfl) ?_
  intro p e s m args below meth c A C hA hP hD ls hl
  have hl : lv_has ls 3 [(0, .ref a_this)] := hl
  have hS : va_S A s.heap s.heap [] := va_S.rf
  obtain ⟨hx, hb, hr, hml, hown, hts, hlk, hK, hN⟩ := id C
  unfold Mo_sureNow at hf
  refine lv_aload_n hx hb dX11_sureNow_0 rfl (lv_at hl 0 rfl) ?_
  obtain ⟨v1, hc1, hf⟩ := cb1_some hf
  refine kcRV (q0 := 0) (ci := 11) (As := []) (rest := []) (st1 := [.int v1]) C (c_Mo_fitsNow l D ct a_this a_forms a_sizes a_items a_moved a_bytes a_typed a_chances a_longs a_letters a_isThere a_pieceLongs a_pieceLetters a_song a_settings a_guess a_row a_least a_nights f_latest f_at f_guesses f_todo F f_names f_pieces f_songLong f_longs f_letters f_isThere f_pieceLongs f_pieceLetters f_song v1 hc1) ⟨rfl, rfl⟩ yn_yX11_fitsNow tw_1157 tw_37 tw_1155 ⟨Nat.le_of_ble_eq_true rfl, Nat.le_of_ble_eq_true rfl⟩ ⟨Nat.zero_le _, Nat.zero_le _⟩ hP [0, 1, 2, 3, 4, 5, 6] rfl rfl rfl rfl hl.1 rfl rfl (Nat.le_of_ble_eq_true rfl) dX11_sureNow_1 rfl ?_
  refine lv_istore_n (lv' := [(1, .int v1), (0, .ref a_this)]) hx hb dX11_sureNow_4 rfl hl (by decide) rfl (fun ls hl => ?_)
  refine lv_aload_n hx hb dX11_sureNow_5 rfl (lv_at hl 1 rfl) ?_
  refine va_get (ci := 11) (v := .ref a_nights) (C := RX11) (T := TX11) (N := 25) hx hb hts inX11 hown hK hP 0 rfl rfl 24 (by decide) (hts _ tw_968) (fun _ h9 => h9) rfl dX11_sureNow_6 ?_
  refine lv_iconst (v := 0) hx hb dX11_sureNow_9 (by decide) ?_
  refine lv_iconst (v := 0) hx hb dX11_sureNow_10 (by decide) ?_
  obtain ⟨hin, f_nights_11, ev11, hf⟩ := wr_ex hf
  refine kiast hx hb hK hP hD hS 7 0 rfl rfl hin ev11 dX11_sureNow_11 (fun H locs hP hD hS => ?_)
  have hP : va_P D vwCl (w_Mo_sureNow ct a_this a_forms a_sizes a_items a_moved a_bytes a_typed a_chances a_longs a_letters a_isThere a_pieceLongs a_pieceLetters a_song a_settings a_guess a_row a_least a_nights f_latest f_at f_names f_pieces f_songLong f_guesses f_todo f_longs f_letters f_isThere f_pieceLongs f_pieceLetters f_song f_nights_11) H := hP
  have hD : va_D A (w_Mo_sureNow ct a_this a_forms a_sizes a_items a_moved a_bytes a_typed a_chances a_longs a_letters a_isThere a_pieceLongs a_pieceLetters a_song a_settings a_guess a_row a_least a_nights f_latest f_at f_names f_pieces f_songLong f_guesses f_todo f_longs f_letters f_isThere f_pieceLongs f_pieceLetters f_song f_nights_11) := hD
  refine lv_iconst (v := 1) hx hb dX11_sureNow_12 (by decide) ?_
  refine lv_istore_n (lv' := [(2, .int 1), (1, .int v1), (0, .ref a_this)]) hx hb dX11_sureNow_13 rfl hl (by decide) rfl (fun ls hl => ?_)
  exact t_Mo_sureNow_l14 C hA a_this a_forms a_sizes a_items a_moved a_bytes a_typed a_chances a_longs a_letters a_isThere a_pieceLongs a_pieceLetters a_song a_settings a_guess a_row a_least a_nights f_latest f_at f_guesses f_todo F f_names f_pieces f_songLong f_longs f_letters f_isThere f_pieceLongs f_pieceLetters f_song r r_nights F v1 1 f_nights_11 hf _ _ hP hD hS _ (lv_sub hl [2, 1, 0] rfl)
def RM_Mo_sure : Room := { frames := 5, cells := 0, slots := 0, locals := 111 }
set_option maxHeartbeats 4000000 in
set_option maxRecDepth 100000 in
theorem c_Mo_sure (l : Launch) (D : va_G) (ct : Nat → ClassId) (a_this a_forms a_sizes a_items a_moved a_bytes a_typed a_chances a_longs a_letters a_isThere a_pieceLongs a_pieceLetters a_song a_settings a_guess a_row a_least a_nights : Nat) (f_latest : Int32) (f_guesses : Int32) (f_todo : Int32) (F : Nat) (f_bytes : Nat → Int32) (f_typed : Nat → Int32) (f_at : Int32) (f_names : Int32) (f_pieces : Int32) (f_songLong : Int32) (f_chances : Nat → Int32) (f_longs : Nat → Int32) (f_letters : Nat → Int32) (f_isThere : Nat → Int32) (f_pieceLongs : Nat → Int32) (f_pieceLetters : Nat → Int32) (f_song : Nat → Int32) (f_nights : Nat → Int32) (r : Int32) (r_at : Int32) (r_names : Int32) (r_pieces : Int32) (r_songLong : Int32) (r_chances : Nat → Int32) (r_longs : Nat → Int32) (r_letters : Nat → Int32) (r_isThere : Nat → Int32) (r_pieceLongs : Nat → Int32) (r_pieceLetters : Nat → Int32) (r_song : Nat → Int32) (r_nights : Nat → Int32) (sz : Nat) (hf : Mo_sure F f_bytes f_typed f_at f_names f_pieces f_songLong f_chances f_longs f_letters f_isThere f_pieceLongs f_pieceLetters f_song f_nights = some (r, r_at, r_names, r_pieces, r_songLong, r_chances, r_longs, r_letters, r_isThere, r_pieceLongs, r_pieceLetters, r_song, r_nights)) : Met l yX11_sure (WS yX11_sure cX11_sure 1 (some .int)) RM_Mo_sure (va_Pc [.ref a_this] (PM D ct sz (w_Mo_sure ct a_this a_forms a_sizes a_items a_moved a_bytes a_typed a_chances a_longs a_letters a_isThere a_pieceLongs a_pieceLetters a_song a_settings a_guess a_row a_least a_nights f_latest f_at f_names f_pieces f_songLong f_guesses f_todo f_bytes f_typed f_chances f_longs f_letters f_isThere f_pieceLongs f_pieceLetters f_song f_nights))) (QM D (some (.int r)) (w_Mo_sure ct a_this a_forms a_sizes a_items a_moved a_bytes a_typed a_chances a_longs a_letters a_isThere a_pieceLongs a_pieceLetters a_song a_settings a_guess a_row a_least a_nights f_latest r_at r_names r_pieces r_songLong f_guesses f_todo f_bytes f_typed r_chances r_longs r_letters r_isThere r_pieceLongs r_pieceLetters r_song r_nights) (va_A (w_Mo_sure ct a_this a_forms a_sizes a_items a_moved a_bytes a_typed a_chances a_longs a_letters a_isThere a_pieceLongs a_pieceLetters a_song a_settings a_guess a_row a_least a_nights f_latest f_at f_names f_pieces f_songLong f_guesses f_todo f_bytes f_typed f_chances f_longs f_letters f_isThere f_pieceLongs f_pieceLetters f_song f_nights) sz)) 0 0 (va_A (w_Mo_sure ct a_this a_forms a_sizes a_items a_moved a_bytes a_typed a_chances a_longs a_letters a_isThere a_pieceLongs a_pieceLetters a_song a_settings a_guess a_row a_least a_nights f_latest f_at f_names f_pieces f_songLong f_guesses f_todo f_bytes f_typed f_chances f_longs f_letters f_isThere f_pieceLongs f_pieceLetters f_song f_nights) sz) := by
  refine kMetM yn_yX11_sure rfl (Nat.le_of_ble_eq_true rfl) ?_
  intro p e s m args below meth c A C hA hP hD ls hl
  have hl : lv_has ls 1 [(0, .ref a_this)] := hl
  have hS : va_S A s.heap s.heap [] := va_S.rf
  obtain ⟨hx, hb, hr, hml, hown, hts, hlk, hK, hN⟩ := id C
  unfold Mo_sure at hf
  refine lv_aload_n hx hb dX11_sure_0 rfl (lv_at hl 0 rfl) ?_
  obtain ⟨f_at_1, f_names_1, f_pieces_1, f_songLong_1, f_chances_1, f_longs_1, f_letters_1, f_isThere_1, f_pieceLongs_1, f_pieceLetters_1, f_song_1, hc1, hf⟩ := cb11_some hf
  refine kcMV (q0 := 0) (ci := 11) (As := []) (rest := []) (st1 := []) (wf := (w_Mo_sure ct a_this a_forms a_sizes a_items a_moved a_bytes a_typed a_chances a_longs a_letters a_isThere a_pieceLongs a_pieceLetters a_song a_settings a_guess a_row a_least a_nights f_latest f_at_1 f_names_1 f_pieces_1 f_songLong_1 f_guesses f_todo f_bytes f_typed f_chances_1 f_longs_1 f_letters_1 f_isThere_1 f_pieceLongs_1 f_pieceLetters_1 f_song_1 f_nights)) C (c_Mo_reads l D ct a_this a_forms a_sizes a_items a_moved a_bytes a_typed a_chances a_longs a_letters a_isThere a_pieceLongs a_pieceLetters a_song a_settings a_guess a_row a_least a_nights f_latest f_guesses f_todo F f_bytes f_typed f_at f_names f_pieces f_songLong f_chances f_longs f_letters f_isThere f_pieceLongs f_pieceLetters f_song f_at_1 f_names_1 f_pieces_1 f_songLong_1 f_chances_1 f_longs_1 f_letters_1 f_isThere_1 f_pieceLongs_1 f_pieceLetters_1 f_song_1 _ hc1) ⟨rfl, rfl⟩ yn_yX11_reads tw_1120 tw_34 tw_1118 ⟨Nat.le_of_ble_eq_true rfl, Nat.le_of_ble_eq_true rfl⟩ ⟨Nat.zero_le _, Nat.zero_le _⟩ hP hD hS hA [0, 1, 2, 3, 4, 5, 6, 7, 8, 9] [10] [1, 2, 3, 4, 5, 6, 7, 8, 9, 10, 0] rfl rfl rfl rfl rfl (by decide) rfl rfl rfl rfl rfl rfl hl.1 rfl rfl (Nat.le_of_ble_eq_true rfl) dX11_sure_1 rfl (fun H locs hP hD hS => ?_)
  refine lv_aload_n hx hb dX11_sure_4 rfl (lv_at hl 0 rfl) ?_
  obtain ⟨v5, f_nights_5, hc5, hf⟩ := cb2_some hf
  refine kcMV (q0 := 0) (ci := 11) (As := []) (rest := []) (st1 := [.int v5]) (wf := (w_Mo_sure ct a_this a_forms a_sizes a_items a_moved a_bytes a_typed a_chances a_longs a_letters a_isThere a_pieceLongs a_pieceLetters a_song a_settings a_guess a_row a_least a_nights f_latest f_at_1 f_names_1 f_pieces_1 f_songLong_1 f_guesses f_todo f_bytes f_typed f_chances_1 f_longs_1 f_letters_1 f_isThere_1 f_pieceLongs_1 f_pieceLetters_1 f_song_1 f_nights_5)) C (c_Mo_sureNow l D ct a_this a_forms a_sizes a_items a_moved a_bytes a_typed a_chances a_longs a_letters a_isThere a_pieceLongs a_pieceLetters a_song a_settings a_guess a_row a_least a_nights f_latest f_at_1 f_guesses f_todo F f_names_1 f_pieces_1 f_songLong_1 f_longs_1 f_letters_1 f_isThere_1 f_pieceLongs_1 f_pieceLetters_1 f_song_1 f_nights v5 f_nights_5 _ hc5) ⟨rfl, rfl⟩ yn_yX11_sureNow tw_1307 tw_61 tw_1305 ⟨Nat.le_of_ble_eq_true rfl, Nat.le_of_ble_eq_true rfl⟩ ⟨Nat.zero_le _, Nat.zero_le _⟩ hP hD hS hA [0, 4, 5, 6, 7, 8, 9, 10] [1, 2, 3] [3, 0, 1, 2, 4, 5, 6, 7, 8, 9, 10] rfl rfl rfl rfl rfl (by decide) rfl rfl rfl rfl rfl rfl hl.1 rfl rfl (Nat.le_of_ble_eq_true rfl) dX11_sure_5 rfl (fun H locs hP hD hS => ?_)
  obtain ⟨e1, e2, e3, e4, e5, e6, e7, e8, e9, e10, e11, e12, e13⟩ := ti13 hf
  subst e1; subst e2; subst e3; subst e4; subst e5; subst e6; subst e7; subst e8; subst e9; subst e10; subst e11; subst e12; subst e13
  exact kretM C hP hD hS dX11_sure_8
def RM_Mo_spunBy : Room := { frames := 2, cells := 0, slots := 0, locals := 44 }
set_option maxHeartbeats 4000000 in
set_option maxRecDepth 100000 in
theorem c_Mo_spunBy (l : Launch) (D : va_G) (ct : Nat → ClassId) (a_this a_forms a_sizes a_items a_moved a_bytes a_typed a_chances a_longs a_letters a_isThere a_pieceLongs a_pieceLetters a_song a_settings a_guess a_row a_least a_nights : Nat) (f_latest : Int32) (f_at : Int32) (f_pieces : Int32) (f_songLong : Int32) (f_guesses : Int32) (f_todo : Int32) (F : Nat) (f_names : Int32) (f_chances : Nat → Int32) (f_least : Nat → Int64) (x1 : Int32) (x2 : Int32) (r : Int32) (hf : Mo_spunBy F f_names f_chances f_least x1 x2 = some r) : Met l yX11_spunBy (WS yX11_spunBy cX11_spunBy 3 (some .int)) RM_Mo_spunBy (va_Pc [.ref a_this, .int x1, .int x2] (PR D ct (w_Mo_spunBy ct a_this a_forms a_sizes a_items a_moved a_bytes a_typed a_chances a_longs a_letters a_isThere a_pieceLongs a_pieceLetters a_song a_settings a_guess a_row a_least a_nights f_latest f_at f_names f_pieces f_songLong f_guesses f_todo f_chances f_least))) (QR (some (.int r))) 0 0 (fun _ => False) := by
  refine kMetR yn_yX11_spunBy rfl (Nat.le_of_ble_eq_true rfl) ?_
  intro p e s m args below meth c C hP ls hl
  have hl : lv_has ls 3 [(0, .ref a_this), (1, .int x1), (2, .int x2)] := hl
  obtain ⟨hx, hb, hr, hml, hown, hts, hlk, hK, hN⟩ := id C
  unfold Mo_spunBy at hf
  refine lv_iload_n hx hb dX11_spunBy_0 rfl (lv_at hl 2 rfl) ?_
  refine lv_if_ne (tgt := 9) hx hb dX11_spunBy_1 (by decide) (fun hc => ?_) (fun hc => ?_)
  · have hf := kneg hc hf
    refine lv_iload_n hx hb dX11_spunBy_9 rfl (lv_at hl 1 rfl) ?_
    refine lv_i2l (v := Int32.toInt64 x1) hx hb dX11_spunBy_10 rfl ?_
    refine lv_aload_n hx hb dX11_spunBy_11 rfl (lv_at hl 0 rfl) ?_
    refine lv_iload_n hx hb dX11_spunBy_12 rfl (lv_at hl 2 rfl) ?_
    obtain ⟨v13, hc13, hf⟩ := cb1_some hf
    refine kcRV (q0 := 0) (ci := 11) (As := [.int x2]) (rest := [.long (Int32.toInt64 x1)]) (st1 := [.int v13, .long (Int32.toInt64 x1)]) C (c_Mo_weight l D ct a_this a_forms a_sizes a_items a_moved a_bytes a_typed a_chances a_longs a_letters a_isThere a_pieceLongs a_pieceLetters a_song a_settings a_guess a_row a_least a_nights f_latest f_at f_pieces f_songLong f_guesses f_todo F f_names f_chances x2 v13 hc13) ⟨rfl, rfl⟩ yn_yX11_weight tw_1191 tw_42 tw_1189 ⟨Nat.le_of_ble_eq_true rfl, Nat.le_of_ble_eq_true rfl⟩ ⟨Nat.zero_le _, Nat.zero_le _⟩ hP [0, 1] rfl rfl rfl rfl hl.1 rfl rfl (Nat.le_of_ble_eq_true rfl) dX11_spunBy_13 rfl ?_
    refine lv_i2l (v := Int32.toInt64 v13) hx hb dX11_spunBy_16 rfl ?_
    refine lv_lmul hx hb dX11_spunBy_17 ?_
    refine lv_aload_n hx hb dX11_spunBy_18 rfl (lv_at hl 0 rfl) ?_
    refine va_get (ci := 11) (v := .ref a_least) (C := RX11) (T := TX11) (N := 25) hx hb hts inX11 hown hK hP 0 rfl rfl 22 (by decide) (hts _ tw_966) (fun _ h9 => h9) rfl dX11_spunBy_19 ?_
    refine lv_iload_n hx hb dX11_spunBy_22 rfl (lv_at hl 2 rfl) ?_
    obtain ⟨hin, hf⟩ := rd_some hf
    generalize ev23 : f_least (Int32.toNatClampNeg x2) = v23 at hf
    refine klald hx hb hK hP 2 2 rfl rfl hin ev23 dX11_spunBy_23 ?_
    refine W.lcmp hx hb dX11_spunBy_24 ?_
    refine lv_if_lt (tgt := 32) hx hb dX11_spunBy_25 (by decide) (fun hc => ?_) (fun hc => ?_)
    · have hf := kpos hc hf
      refine lv_iconst (v := 0) hx hb dX11_spunBy_32 (by decide) ?_
      have e1 := Option.some.inj hf
      subst e1
      exact kretR C dX11_spunBy_33
    · have hf := kneg hc hf
      refine lv_iconst (v := 1) hx hb dX11_spunBy_28 (by decide) ?_
      refine lv_goto (tgt := 33) hx hb dX11_spunBy_29 (by decide) ?_
      have e1 := Option.some.inj hf
      subst e1
      exact kretR C dX11_spunBy_33
  · have hf := kpos hc hf
    refine lv_bipush (v := (-3)) hx hb dX11_spunBy_4 (by decide) ?_
    refine lv_goto (tgt := 33) hx hb dX11_spunBy_6 (by decide) ?_
    have e1 := Option.some.inj hf
    subst e1
    exact kretR C dX11_spunBy_33
def RM_Mo_spunOf : Room := { frames := 5, cells := 0, slots := 0, locals := 124 }
set_option maxHeartbeats 4000000 in
set_option maxRecDepth 100000 in
theorem c_Mo_spunOf (l : Launch) (D : va_G) (ct : Nat → ClassId) (a_this a_forms a_sizes a_items a_moved a_bytes a_typed a_chances a_longs a_letters a_isThere a_pieceLongs a_pieceLetters a_song a_settings a_guess a_row a_least a_nights : Nat) (f_latest : Int32) (f_at : Int32) (f_guesses : Int32) (F : Nat) (f_names : Int32) (f_pieces : Int32) (f_songLong : Int32) (f_chances : Nat → Int32) (f_longs : Nat → Int32) (f_letters : Nat → Int32) (f_isThere : Nat → Int32) (f_pieceLongs : Nat → Int32) (f_pieceLetters : Nat → Int32) (f_song : Nat → Int32) (f_settings : Nat → Int32) (f_todo : Int32) (f_least : Nat → Int64) (x1 : Int32) (r : Int32) (r_todo : Int32) (r_least : Nat → Int64) (sz : Nat) (hf : Mo_spunOf F f_names f_pieces f_songLong f_chances f_longs f_letters f_isThere f_pieceLongs f_pieceLetters f_song f_settings f_todo f_least x1 = some (r, r_todo, r_least)) : Met l yX11_spunOf (WS yX11_spunOf cX11_spunOf 3 (some .int)) RM_Mo_spunOf (va_Pc [.ref a_this, .int x1] (PM D ct sz (w_Mo_spunOf ct a_this a_forms a_sizes a_items a_moved a_bytes a_typed a_chances a_longs a_letters a_isThere a_pieceLongs a_pieceLetters a_song a_settings a_guess a_row a_least a_nights f_latest f_at f_names f_pieces f_songLong f_guesses f_todo f_chances f_longs f_letters f_isThere f_pieceLongs f_pieceLetters f_song f_settings f_least))) (QM D (some (.int r)) (w_Mo_spunOf ct a_this a_forms a_sizes a_items a_moved a_bytes a_typed a_chances a_longs a_letters a_isThere a_pieceLongs a_pieceLetters a_song a_settings a_guess a_row a_least a_nights f_latest f_at f_names f_pieces f_songLong f_guesses r_todo f_chances f_longs f_letters f_isThere f_pieceLongs f_pieceLetters f_song f_settings r_least) (va_A (w_Mo_spunOf ct a_this a_forms a_sizes a_items a_moved a_bytes a_typed a_chances a_longs a_letters a_isThere a_pieceLongs a_pieceLetters a_song a_settings a_guess a_row a_least a_nights f_latest f_at f_names f_pieces f_songLong f_guesses f_todo f_chances f_longs f_letters f_isThere f_pieceLongs f_pieceLetters f_song f_settings f_least) sz)) 0 0 (va_A (w_Mo_spunOf ct a_this a_forms a_sizes a_items a_moved a_bytes a_typed a_chances a_longs a_letters a_isThere a_pieceLongs a_pieceLetters a_song a_settings a_guess a_row a_least a_nights f_latest f_at f_names f_pieces f_songLong f_guesses f_todo f_chances f_longs f_letters f_isThere f_pieceLongs f_pieceLetters f_song f_settings f_least) sz) := by
  refine kMetM yn_yX11_spunOf rfl (Nat.le_of_ble_eq_true rfl) ?_
  intro p e s m args below meth c A C hA hP hD ls hl
  have hl : lv_has ls 3 [(0, .ref a_this), (1, .int x1)] := hl
  have hS : va_S A s.heap s.heap [] := va_S.rf
  obtain ⟨hx, hb, hr, hml, hown, hts, hlk, hK, hN⟩ := id C
  unfold Mo_spunOf at hf
  refine lv_aload_n hx hb dX11_spunOf_0 rfl (lv_at hl 0 rfl) ?_
  obtain ⟨v1, hc1, hf⟩ := cb1_some hf
  refine kcRV (q0 := 0) (ci := 11) (As := []) (rest := []) (st1 := [.int v1]) C (c_Mo_fitsNow l D ct a_this a_forms a_sizes a_items a_moved a_bytes a_typed a_chances a_longs a_letters a_isThere a_pieceLongs a_pieceLetters a_song a_settings a_guess a_row a_least a_nights f_latest f_at f_guesses f_todo F f_names f_pieces f_songLong f_longs f_letters f_isThere f_pieceLongs f_pieceLetters f_song v1 hc1) ⟨rfl, rfl⟩ yn_yX11_fitsNow tw_1157 tw_37 tw_1155 ⟨Nat.le_of_ble_eq_true rfl, Nat.le_of_ble_eq_true rfl⟩ ⟨Nat.zero_le _, Nat.zero_le _⟩ hP [0, 2, 3, 4, 5, 6, 7] rfl rfl rfl rfl hl.1 rfl rfl (Nat.le_of_ble_eq_true rfl) dX11_spunOf_1 rfl ?_
  refine lv_istore_n (lv' := [(2, .int v1), (0, .ref a_this), (1, .int x1)]) hx hb dX11_spunOf_4 rfl hl (by decide) rfl (fun ls hl => ?_)
  refine lv_aload_n hx hb dX11_spunOf_5 rfl (lv_at hl 1 rfl) ?_
  refine lv_iconst (v := 0) hx hb dX11_spunOf_6 (by decide) ?_
  refine lv_iload_n hx hb dX11_spunOf_7 rfl (lv_at hl 0 rfl) ?_
  obtain ⟨f_todo_8, f_least_8, hc8, hf⟩ := cb2_some hf
  refine kcMV (q0 := 0) (ci := 11) (As := [.int 0, .int v1]) (rest := []) (st1 := []) (wf := (w_Mo_spunOf ct a_this a_forms a_sizes a_items a_moved a_bytes a_typed a_chances a_longs a_letters a_isThere a_pieceLongs a_pieceLetters a_song a_settings a_guess a_row a_least a_nights f_latest f_at f_names f_pieces f_songLong f_guesses f_todo_8 f_chances f_longs f_letters f_isThere f_pieceLongs f_pieceLetters f_song f_settings f_least_8)) C (c_Mo_findWisest l D ct a_this a_forms a_sizes a_items a_moved a_bytes a_typed a_chances a_longs a_letters a_isThere a_pieceLongs a_pieceLetters a_song a_settings a_guess a_row a_least a_nights f_latest f_at f_pieces f_songLong f_guesses F f_names f_chances f_longs f_letters f_settings f_todo f_least 0 v1 f_todo_8 f_least_8 _ hc8) ⟨rfl, rfl⟩ yn_yX11_findWisest tw_1259 tw_52 tw_1257 ⟨Nat.le_of_ble_eq_true rfl, Nat.le_of_ble_eq_true rfl⟩ ⟨Nat.zero_le _, Nat.zero_le _⟩ hP hD hS hA [0, 1, 2, 3, 8, 9] [4, 5, 6, 7] [4, 5, 6, 7, 0, 1, 2, 3, 8, 9] rfl rfl rfl rfl rfl (by decide) rfl rfl rfl rfl rfl rfl hl.1 rfl rfl (Nat.le_of_ble_eq_true rfl) dX11_spunOf_8 rfl (fun H locs hP hD hS => ?_)
  refine lv_aload_n hx hb dX11_spunOf_11 rfl (lv_at hl 1 rfl) ?_
  refine lv_iload_n hx hb dX11_spunOf_12 rfl (lv_at hl 2 rfl) ?_
  refine lv_iload_n hx hb dX11_spunOf_13 rfl (lv_at hl 0 rfl) ?_
  obtain ⟨v14, hc14, hf⟩ := cb1_some hf
  refine kcRV (q0 := 0) (ci := 11) (As := [.int x1, .int v1]) (rest := []) (st1 := [.int v14]) C (c_Mo_spunBy l D ct a_this a_forms a_sizes a_items a_moved a_bytes a_typed a_chances a_longs a_letters a_isThere a_pieceLongs a_pieceLetters a_song a_settings a_guess a_row a_least a_nights f_latest f_at f_pieces f_songLong f_guesses f_todo_8 F f_names f_chances f_least_8 x1 v1 v14 hc14) ⟨rfl, rfl⟩ yn_yX11_spunBy tw_1324 tw_64 tw_1322 ⟨Nat.le_of_ble_eq_true rfl, Nat.le_of_ble_eq_true rfl⟩ ⟨Nat.zero_le _, Nat.zero_le _⟩ hP [0, 1, 9] rfl rfl rfl rfl hl.1 rfl rfl (Nat.le_of_ble_eq_true rfl) dX11_spunOf_14 rfl ?_
  obtain ⟨e1, e2, e3⟩ := ti3 hf
  subst e1; subst e2; subst e3
  exact kretM C hP hD hS dX11_spunOf_17
def RM_Mo_spun : Room := { frames := 6, cells := 0, slots := 0, locals := 146 }
set_option maxHeartbeats 4000000 in
set_option maxRecDepth 100000 in
theorem c_Mo_spun (l : Launch) (D : va_G) (ct : Nat → ClassId) (a_this a_forms a_sizes a_items a_moved a_bytes a_typed a_chances a_longs a_letters a_isThere a_pieceLongs a_pieceLetters a_song a_settings a_guess a_row a_least a_nights : Nat) (f_latest : Int32) (f_guesses : Int32) (F : Nat) (f_bytes : Nat → Int32) (f_typed : Nat → Int32) (f_settings : Nat → Int32) (f_at : Int32) (f_names : Int32) (f_pieces : Int32) (f_songLong : Int32) (f_todo : Int32) (f_chances : Nat → Int32) (f_longs : Nat → Int32) (f_letters : Nat → Int32) (f_isThere : Nat → Int32) (f_pieceLongs : Nat → Int32) (f_pieceLetters : Nat → Int32) (f_song : Nat → Int32) (f_least : Nat → Int64) (x1 : Int32) (r : Int32) (r_at : Int32) (r_names : Int32) (r_pieces : Int32) (r_songLong : Int32) (r_todo : Int32) (r_chances : Nat → Int32) (r_longs : Nat → Int32) (r_letters : Nat → Int32) (r_isThere : Nat → Int32) (r_pieceLongs : Nat → Int32) (r_pieceLetters : Nat → Int32) (r_song : Nat → Int32) (r_least : Nat → Int64) (sz : Nat) (hf : Mo_spun F f_bytes f_typed f_settings f_at f_names f_pieces f_songLong f_todo f_chances f_longs f_letters f_isThere f_pieceLongs f_pieceLetters f_song f_least x1 = some (r, r_at, r_names, r_pieces, r_songLong, r_todo, r_chances, r_longs, r_letters, r_isThere, r_pieceLongs, r_pieceLetters, r_song, r_least)) : Met l yX11_spun (WS yX11_spun cX11_spun 2 (some .int)) RM_Mo_spun (va_Pc [.ref a_this, .int x1] (PM D ct sz (w_Mo_spun ct a_this a_forms a_sizes a_items a_moved a_bytes a_typed a_chances a_longs a_letters a_isThere a_pieceLongs a_pieceLetters a_song a_settings a_guess a_row a_least a_nights f_latest f_at f_names f_pieces f_songLong f_guesses f_todo f_bytes f_typed f_chances f_longs f_letters f_isThere f_pieceLongs f_pieceLetters f_song f_settings f_least))) (QM D (some (.int r)) (w_Mo_spun ct a_this a_forms a_sizes a_items a_moved a_bytes a_typed a_chances a_longs a_letters a_isThere a_pieceLongs a_pieceLetters a_song a_settings a_guess a_row a_least a_nights f_latest r_at r_names r_pieces r_songLong f_guesses r_todo f_bytes f_typed r_chances r_longs r_letters r_isThere r_pieceLongs r_pieceLetters r_song f_settings r_least) (va_A (w_Mo_spun ct a_this a_forms a_sizes a_items a_moved a_bytes a_typed a_chances a_longs a_letters a_isThere a_pieceLongs a_pieceLetters a_song a_settings a_guess a_row a_least a_nights f_latest f_at f_names f_pieces f_songLong f_guesses f_todo f_bytes f_typed f_chances f_longs f_letters f_isThere f_pieceLongs f_pieceLetters f_song f_settings f_least) sz)) 0 0 (va_A (w_Mo_spun ct a_this a_forms a_sizes a_items a_moved a_bytes a_typed a_chances a_longs a_letters a_isThere a_pieceLongs a_pieceLetters a_song a_settings a_guess a_row a_least a_nights f_latest f_at f_names f_pieces f_songLong f_guesses f_todo f_bytes f_typed f_chances f_longs f_letters f_isThere f_pieceLongs f_pieceLetters f_song f_settings f_least) sz) := by
  refine kMetM yn_yX11_spun rfl (Nat.le_of_ble_eq_true rfl) ?_
  intro p e s m args below meth c A C hA hP hD ls hl
  have hl : lv_has ls 2 [(0, .ref a_this), (1, .int x1)] := hl
  have hS : va_S A s.heap s.heap [] := va_S.rf
  obtain ⟨hx, hb, hr, hml, hown, hts, hlk, hK, hN⟩ := id C
  unfold Mo_spun at hf
  refine lv_aload_n hx hb dX11_spun_0 rfl (lv_at hl 0 rfl) ?_
  obtain ⟨f_at_1, f_names_1, f_pieces_1, f_songLong_1, f_chances_1, f_longs_1, f_letters_1, f_isThere_1, f_pieceLongs_1, f_pieceLetters_1, f_song_1, hc1, hf⟩ := cb11_some hf
  refine kcMV (q0 := 0) (ci := 11) (As := []) (rest := []) (st1 := []) (wf := (w_Mo_spun ct a_this a_forms a_sizes a_items a_moved a_bytes a_typed a_chances a_longs a_letters a_isThere a_pieceLongs a_pieceLetters a_song a_settings a_guess a_row a_least a_nights f_latest f_at_1 f_names_1 f_pieces_1 f_songLong_1 f_guesses f_todo f_bytes f_typed f_chances_1 f_longs_1 f_letters_1 f_isThere_1 f_pieceLongs_1 f_pieceLetters_1 f_song_1 f_settings f_least)) C (c_Mo_reads l D ct a_this a_forms a_sizes a_items a_moved a_bytes a_typed a_chances a_longs a_letters a_isThere a_pieceLongs a_pieceLetters a_song a_settings a_guess a_row a_least a_nights f_latest f_guesses f_todo F f_bytes f_typed f_at f_names f_pieces f_songLong f_chances f_longs f_letters f_isThere f_pieceLongs f_pieceLetters f_song f_at_1 f_names_1 f_pieces_1 f_songLong_1 f_chances_1 f_longs_1 f_letters_1 f_isThere_1 f_pieceLongs_1 f_pieceLetters_1 f_song_1 _ hc1) ⟨rfl, rfl⟩ yn_yX11_reads tw_1120 tw_34 tw_1118 ⟨Nat.le_of_ble_eq_true rfl, Nat.le_of_ble_eq_true rfl⟩ ⟨Nat.zero_le _, Nat.zero_le _⟩ hP hD hS hA [0, 1, 2, 3, 4, 5, 6, 7, 8, 9] [10, 11] [2, 3, 4, 5, 6, 7, 8, 9, 10, 11, 0, 1] rfl rfl rfl rfl rfl (by decide) rfl rfl rfl rfl rfl rfl hl.1 rfl rfl (Nat.le_of_ble_eq_true rfl) dX11_spun_1 rfl (fun H locs hP hD hS => ?_)
  refine lv_iload_n hx hb dX11_spun_4 rfl (lv_at hl 1 rfl) ?_
  refine lv_i2l (v := Int32.toInt64 x1) hx hb dX11_spun_5 rfl ?_
  refine lv_lconst (v := 0) hx hb dX11_spun_6 (by decide) ?_
  refine lv_ldc2 (v := 99999) hx hb hown (hts _ tw_1317) dX11_spun_7 ?_
  obtain ⟨v10, hc10, hf⟩ := cb1_some hf
  refine kcRS (As := [.long (Int32.toInt64 x1), .long 0, .long 99999]) (rest := []) (st1 := [.int v10]) C (c_Mo_in l D ct (Int32.toInt64 x1) 0 99999 v10 hc10) ⟨rfl, rfl⟩ yn_yX11_in tw_1030 tw_1029 ⟨Nat.le_of_ble_eq_true rfl, Nat.le_of_ble_eq_true rfl⟩ ⟨Nat.zero_le _, Nat.zero_le _⟩ hP [] rfl hl.1 rfl rfl (Nat.le_of_ble_eq_true rfl) dX11_spun_10 rfl ?_
  refine lv_if_eq (tgt := 24) hx hb dX11_spun_13 (by decide) (fun hc => ?_) (fun hc => ?_)
  · have hf := kpos hc hf
    refine lv_bipush (v := (-2)) hx hb dX11_spun_24 (by decide) ?_
    obtain ⟨e1, e2, e3, e4, e5, e6, e7, e8, e9, e10, e11, e12, e13, e14⟩ := ti14 hf
    subst e1; subst e2; subst e3; subst e4; subst e5; subst e6; subst e7; subst e8; subst e9; subst e10; subst e11; subst e12; subst e13; subst e14
    exact kretM C hP hD hS dX11_spun_26
  · have hf := kneg hc hf
    refine lv_aload_n hx hb dX11_spun_16 rfl (lv_at hl 0 rfl) ?_
    refine lv_iload_n hx hb dX11_spun_17 rfl (lv_at hl 1 rfl) ?_
    obtain ⟨v18, f_todo_18, f_least_18, hc18, hf⟩ := cb3_some hf
    refine kcMV (q0 := 0) (ci := 11) (As := [.int x1]) (rest := []) (st1 := [.int v18]) (wf := (w_Mo_spun ct a_this a_forms a_sizes a_items a_moved a_bytes a_typed a_chances a_longs a_letters a_isThere a_pieceLongs a_pieceLetters a_song a_settings a_guess a_row a_least a_nights f_latest f_at_1 f_names_1 f_pieces_1 f_songLong_1 f_guesses f_todo_18 f_bytes f_typed f_chances_1 f_longs_1 f_letters_1 f_isThere_1 f_pieceLongs_1 f_pieceLetters_1 f_song_1 f_settings f_least_18)) C (c_Mo_spunOf l D ct a_this a_forms a_sizes a_items a_moved a_bytes a_typed a_chances a_longs a_letters a_isThere a_pieceLongs a_pieceLetters a_song a_settings a_guess a_row a_least a_nights f_latest f_at_1 f_guesses F f_names_1 f_pieces_1 f_songLong_1 f_chances_1 f_longs_1 f_letters_1 f_isThere_1 f_pieceLongs_1 f_pieceLetters_1 f_song_1 f_settings f_todo f_least x1 v18 f_todo_18 f_least_18 _ hc18) ⟨rfl, rfl⟩ yn_yX11_spunOf tw_1320 tw_63 tw_1318 ⟨Nat.le_of_ble_eq_true rfl, Nat.le_of_ble_eq_true rfl⟩ ⟨Nat.zero_le _, Nat.zero_le _⟩ hP hD hS hA [0, 3, 4, 5, 6, 7, 8, 9, 10, 11] [1, 2] [2, 0, 1, 3, 4, 5, 6, 7, 8, 9, 10, 11] rfl rfl rfl rfl rfl (by decide) rfl rfl rfl rfl rfl rfl hl.1 rfl rfl (Nat.le_of_ble_eq_true rfl) dX11_spun_18 rfl (fun H locs hP hD hS => ?_)
    refine lv_goto (tgt := 26) hx hb dX11_spun_21 (by decide) ?_
    obtain ⟨e1, e2, e3, e4, e5, e6, e7, e8, e9, e10, e11, e12, e13, e14⟩ := ti14 hf
    subst e1; subst e2; subst e3; subst e4; subst e5; subst e6; subst e7; subst e8; subst e9; subst e10; subst e11; subst e12; subst e13; subst e14
    exact kretM C hP hD hS dX11_spun_26
def RM_Mo_poolOf : Room := { frames := 2, cells := 0, slots := 0, locals := 51 }
set_option maxHeartbeats 4000000 in
set_option maxRecDepth 100000 in
theorem t_Mo_poolOf_b21 {p : Program} {l : Launch} {e : Env} {s : State} {m : MethodId} {args : Array Value} {below : List Frame} {meth : Method} {c : Code} {D : va_G} {ct : Nat → ClassId} (C : CX p s m args meth c RX11 cX11_poolOf 4 (some .int) D ct) (a_this a_forms a_sizes a_items a_moved a_bytes a_typed a_chances a_longs a_letters a_isThere a_pieceLongs a_pieceLetters a_song a_settings a_guess a_row a_least a_nights : Nat) (f_latest : Int32) (f_at : Int32) (f_guesses : Int32) (f_todo : Int32) (F : Nat) (f_names : Int32) (f_pieces : Int32) (f_songLong : Int32) (f_longs : Nat → Int32) (f_letters : Nat → Int32) (f_isThere : Nat → Int32) (f_pieceLongs : Nat → Int32) (f_pieceLetters : Nat → Int32) (f_song : Nat → Int32) (x1 : Int32) (x2 : Int32) (x3 : Int32) (r : Int32) : ∀ (k1 : Int32), Mo_poolOf_b21 F f_names f_pieces f_songLong f_longs f_letters f_isThere f_pieceLongs f_pieceLetters f_song x1 x2 x3 k1 = some r → va_P D vwCl (w_Mo_poolOf ct a_this a_forms a_sizes a_items a_moved a_bytes a_typed a_chances a_longs a_letters a_isThere a_pieceLongs a_pieceLetters a_song a_settings a_guess a_row a_least a_nights f_latest f_at f_names f_pieces f_songLong f_guesses f_todo f_longs f_letters f_isThere f_pieceLongs f_pieceLetters f_song) s.heap → ∀ ls : Array Slot, lv_has ls 4 [] → W p l e RM_Mo_poolOf s m args below meth c s.heap [] 0 0 (MQ below (QR (some (.int r))) args s 0 0 (fun _ => False)) (F0 m 21 ls [.int k1, .ref a_this]) := by
  obtain ⟨hx, hb, hr, hml, hown, hts, hlk, hK, hN⟩ := id C
  intro k1 hf hP ls hl
  unfold Mo_poolOf_b21 at hf
  obtain ⟨v21, hc21, hf⟩ := cb1_some hf
  refine kcRV (q0 := 0) (ci := 11) (As := [.int k1]) (rest := []) (st1 := [.int v21]) C (c_Mo_fitsBy l D ct a_this a_forms a_sizes a_items a_moved a_bytes a_typed a_chances a_longs a_letters a_isThere a_pieceLongs a_pieceLetters a_song a_settings a_guess a_row a_least a_nights f_latest f_at f_guesses f_todo F f_names f_pieces f_songLong f_longs f_letters f_isThere f_pieceLongs f_pieceLetters f_song k1 v21 hc21) ⟨rfl, rfl⟩ yn_yX11_fitsBy tw_1161 tw_38 tw_1159 ⟨Nat.le_of_ble_eq_true rfl, Nat.le_of_ble_eq_true rfl⟩ ⟨Nat.zero_le _, Nat.zero_le _⟩ hP [0, 1, 2, 3, 4, 5, 6] rfl rfl rfl rfl hl.1 rfl rfl (Nat.le_of_ble_eq_true rfl) dX11_poolOf_21 rfl ?_
  obtain ⟨v24, hc24, hf⟩ := cb1_some hf
  refine kcRS (As := [.int v21]) (rest := []) (st1 := [.int v24]) C (c_Mo_ones l D ct F v21 v24 hc24) ⟨rfl, rfl⟩ yn_yX11_ones tw_1299 tw_1298 ⟨Nat.le_of_ble_eq_true rfl, Nat.le_of_ble_eq_true rfl⟩ ⟨Nat.zero_le _, Nat.zero_le _⟩ hP [] rfl hl.1 rfl rfl (Nat.le_of_ble_eq_true rfl) dX11_poolOf_24 rfl ?_
  have e1 := Option.some.inj hf
  subst e1
  exact kretR C dX11_poolOf_27
set_option maxHeartbeats 4000000 in
set_option maxRecDepth 100000 in
theorem c_Mo_poolOf (l : Launch) (D : va_G) (ct : Nat → ClassId) (a_this a_forms a_sizes a_items a_moved a_bytes a_typed a_chances a_longs a_letters a_isThere a_pieceLongs a_pieceLetters a_song a_settings a_guess a_row a_least a_nights : Nat) (f_latest : Int32) (f_at : Int32) (f_guesses : Int32) (f_todo : Int32) (F : Nat) (f_names : Int32) (f_pieces : Int32) (f_songLong : Int32) (f_longs : Nat → Int32) (f_letters : Nat → Int32) (f_isThere : Nat → Int32) (f_pieceLongs : Nat → Int32) (f_pieceLetters : Nat → Int32) (f_song : Nat → Int32) (x1 : Int32) (x2 : Int32) (x3 : Int32) (r : Int32) (hf : Mo_poolOf F f_names f_pieces f_songLong f_longs f_letters f_isThere f_pieceLongs f_pieceLetters f_song x1 x2 x3 = some r) : Met l yX11_poolOf (WS yX11_poolOf cX11_poolOf 4 (some .int)) RM_Mo_poolOf (va_Pc [.ref a_this, .int x1, .int x2, .int x3] (PR D ct (w_Mo_poolOf ct a_this a_forms a_sizes a_items a_moved a_bytes a_typed a_chances a_longs a_letters a_isThere a_pieceLongs a_pieceLetters a_song a_settings a_guess a_row a_least a_nights f_latest f_at f_names f_pieces f_songLong f_guesses f_todo f_longs f_letters f_isThere f_pieceLongs f_pieceLetters f_song))) (QR (some (.int r))) 0 0 (fun _ => False) := by
  refine kMetR yn_yX11_poolOf rfl (Nat.le_of_ble_eq_true rfl) ?_
  intro p e s m args below meth c C hP ls hl
  have hl : lv_has ls 4 [(0, .ref a_this), (1, .int x1), (2, .int x2), (3, .int x3)] := hl
  obtain ⟨hx, hb, hr, hml, hown, hts, hlk, hK, hN⟩ := id C
  unfold Mo_poolOf at hf
  refine lv_aload_n hx hb dX11_poolOf_0 rfl (lv_at hl 0 rfl) ?_
  refine lv_iload_n hx hb dX11_poolOf_1 rfl (lv_at hl 3 rfl) ?_
  refine lv_if_ne (tgt := 9) hx hb dX11_poolOf_2 (by decide) (fun hc => ?_) (fun hc => ?_)
  · have hf := kneg hc hf
    refine lv_iload_n hx hb dX11_poolOf_9 rfl (lv_at hl 3 rfl) ?_
    refine lv_iconst (v := 1) hx hb dX11_poolOf_10 (by decide) ?_
    refine lv_icmp_ne (tgt := 18) hx hb dX11_poolOf_11 (by decide) (fun hc => ?_) (fun hc => ?_)
    · have hf := kneg hc hf
      refine lv_iload_n hx hb dX11_poolOf_18 rfl (lv_at hl 1 rfl) ?_
      refine lv_iload_n hx hb dX11_poolOf_19 rfl (lv_at hl 2 rfl) ?_
      refine lv_ior hx hb dX11_poolOf_20 ?_
      exact t_Mo_poolOf_b21 C a_this a_forms a_sizes a_items a_moved a_bytes a_typed a_chances a_longs a_letters a_isThere a_pieceLongs a_pieceLetters a_song a_settings a_guess a_row a_least a_nights f_latest f_at f_guesses f_todo F f_names f_pieces f_songLong f_longs f_letters f_isThere f_pieceLongs f_pieceLetters f_song x1 x2 x3 r (x1 ||| x2) hf hP _ (lv_sub hl [] rfl)
    · have hf := kpos hc hf
      refine lv_iload_n hx hb dX11_poolOf_14 rfl (lv_at hl 2 rfl) ?_
      refine lv_goto (tgt := 21) hx hb dX11_poolOf_15 (by decide) ?_
      exact t_Mo_poolOf_b21 C a_this a_forms a_sizes a_items a_moved a_bytes a_typed a_chances a_longs a_letters a_isThere a_pieceLongs a_pieceLetters a_song a_settings a_guess a_row a_least a_nights f_latest f_at f_guesses f_todo F f_names f_pieces f_songLong f_longs f_letters f_isThere f_pieceLongs f_pieceLetters f_song x1 x2 x3 r x2 hf hP _ (lv_sub hl [] rfl)
  · have hf := kpos hc hf
    refine lv_iload_n hx hb dX11_poolOf_5 rfl (lv_at hl 1 rfl) ?_
    refine lv_goto (tgt := 21) hx hb dX11_poolOf_6 (by decide) ?_
    exact t_Mo_poolOf_b21 C a_this a_forms a_sizes a_items a_moved a_bytes a_typed a_chances a_longs a_letters a_isThere a_pieceLongs a_pieceLetters a_song a_settings a_guess a_row a_least a_nights f_latest f_at f_guesses f_todo F f_names f_pieces f_songLong f_longs f_letters f_isThere f_pieceLongs f_pieceLetters f_song x1 x2 x3 r x1 hf hP _ (lv_sub hl [] rfl)
def RM_Mo_pool : Room := { frames := 5, cells := 0, slots := 0, locals := 111 }
set_option maxHeartbeats 4000000 in
set_option maxRecDepth 100000 in
theorem c_Mo_pool (l : Launch) (D : va_G) (ct : Nat → ClassId) (a_this a_forms a_sizes a_items a_moved a_bytes a_typed a_chances a_longs a_letters a_isThere a_pieceLongs a_pieceLetters a_song a_settings a_guess a_row a_least a_nights : Nat) (f_latest : Int32) (f_guesses : Int32) (f_todo : Int32) (F : Nat) (f_bytes : Nat → Int32) (f_typed : Nat → Int32) (f_at : Int32) (f_names : Int32) (f_pieces : Int32) (f_songLong : Int32) (f_chances : Nat → Int32) (f_longs : Nat → Int32) (f_letters : Nat → Int32) (f_isThere : Nat → Int32) (f_pieceLongs : Nat → Int32) (f_pieceLetters : Nat → Int32) (f_song : Nat → Int32) (x1 : Int32) (x2 : Int32) (x3 : Int32) (r : Int32) (r_at : Int32) (r_names : Int32) (r_pieces : Int32) (r_songLong : Int32) (r_chances : Nat → Int32) (r_longs : Nat → Int32) (r_letters : Nat → Int32) (r_isThere : Nat → Int32) (r_pieceLongs : Nat → Int32) (r_pieceLetters : Nat → Int32) (r_song : Nat → Int32) (sz : Nat) (hf : Mo_pool F f_bytes f_typed f_at f_names f_pieces f_songLong f_chances f_longs f_letters f_isThere f_pieceLongs f_pieceLetters f_song x1 x2 x3 = some (r, r_at, r_names, r_pieces, r_songLong, r_chances, r_longs, r_letters, r_isThere, r_pieceLongs, r_pieceLetters, r_song)) : Met l yX11_pool (WS yX11_pool cX11_pool 4 (some .int)) RM_Mo_pool (va_Pc [.ref a_this, .int x1, .int x2, .int x3] (PM D ct sz (w_Mo_pool ct a_this a_forms a_sizes a_items a_moved a_bytes a_typed a_chances a_longs a_letters a_isThere a_pieceLongs a_pieceLetters a_song a_settings a_guess a_row a_least a_nights f_latest f_at f_names f_pieces f_songLong f_guesses f_todo f_bytes f_typed f_chances f_longs f_letters f_isThere f_pieceLongs f_pieceLetters f_song))) (QM D (some (.int r)) (w_Mo_pool ct a_this a_forms a_sizes a_items a_moved a_bytes a_typed a_chances a_longs a_letters a_isThere a_pieceLongs a_pieceLetters a_song a_settings a_guess a_row a_least a_nights f_latest r_at r_names r_pieces r_songLong f_guesses f_todo f_bytes f_typed r_chances r_longs r_letters r_isThere r_pieceLongs r_pieceLetters r_song) (va_A (w_Mo_pool ct a_this a_forms a_sizes a_items a_moved a_bytes a_typed a_chances a_longs a_letters a_isThere a_pieceLongs a_pieceLetters a_song a_settings a_guess a_row a_least a_nights f_latest f_at f_names f_pieces f_songLong f_guesses f_todo f_bytes f_typed f_chances f_longs f_letters f_isThere f_pieceLongs f_pieceLetters f_song) sz)) 0 0 (va_A (w_Mo_pool ct a_this a_forms a_sizes a_items a_moved a_bytes a_typed a_chances a_longs a_letters a_isThere a_pieceLongs a_pieceLetters a_song a_settings a_guess a_row a_least a_nights f_latest f_at f_names f_pieces f_songLong f_guesses f_todo f_bytes f_typed f_chances f_longs f_letters f_isThere f_pieceLongs f_pieceLetters f_song) sz) := by
  refine kMetM yn_yX11_pool rfl (Nat.le_of_ble_eq_true rfl) ?_
  intro p e s m args below meth c A C hA hP hD ls hl
  have hl : lv_has ls 4 [(0, .ref a_this), (1, .int x1), (2, .int x2), (3, .int x3)] := hl
  have hS : va_S A s.heap s.heap [] := va_S.rf
  obtain ⟨hx, hb, hr, hml, hown, hts, hlk, hK, hN⟩ := id C
  unfold Mo_pool at hf
  refine lv_aload_n hx hb dX11_pool_0 rfl (lv_at hl 0 rfl) ?_
  obtain ⟨f_at_1, f_names_1, f_pieces_1, f_songLong_1, f_chances_1, f_longs_1, f_letters_1, f_isThere_1, f_pieceLongs_1, f_pieceLetters_1, f_song_1, hc1, hf⟩ := cb11_some hf
  refine kcMV (q0 := 0) (ci := 11) (As := []) (rest := []) (st1 := []) (wf := (w_Mo_pool ct a_this a_forms a_sizes a_items a_moved a_bytes a_typed a_chances a_longs a_letters a_isThere a_pieceLongs a_pieceLetters a_song a_settings a_guess a_row a_least a_nights f_latest f_at_1 f_names_1 f_pieces_1 f_songLong_1 f_guesses f_todo f_bytes f_typed f_chances_1 f_longs_1 f_letters_1 f_isThere_1 f_pieceLongs_1 f_pieceLetters_1 f_song_1)) C (c_Mo_reads l D ct a_this a_forms a_sizes a_items a_moved a_bytes a_typed a_chances a_longs a_letters a_isThere a_pieceLongs a_pieceLetters a_song a_settings a_guess a_row a_least a_nights f_latest f_guesses f_todo F f_bytes f_typed f_at f_names f_pieces f_songLong f_chances f_longs f_letters f_isThere f_pieceLongs f_pieceLetters f_song f_at_1 f_names_1 f_pieces_1 f_songLong_1 f_chances_1 f_longs_1 f_letters_1 f_isThere_1 f_pieceLongs_1 f_pieceLetters_1 f_song_1 _ hc1) ⟨rfl, rfl⟩ yn_yX11_reads tw_1120 tw_34 tw_1118 ⟨Nat.le_of_ble_eq_true rfl, Nat.le_of_ble_eq_true rfl⟩ ⟨Nat.zero_le _, Nat.zero_le _⟩ hP hD hS hA [0, 1, 2, 3, 4, 5, 6, 7, 8, 9] [] [0, 1, 2, 3, 4, 5, 6, 7, 8, 9] rfl rfl rfl rfl rfl (by decide) rfl rfl rfl rfl rfl rfl hl.1 rfl rfl (Nat.le_of_ble_eq_true rfl) dX11_pool_1 rfl (fun H locs hP hD hS => ?_)
  refine lv_iload_n hx hb dX11_pool_4 rfl (lv_at hl 1 rfl) ?_
  refine lv_i2l (v := Int32.toInt64 x1) hx hb dX11_pool_5 rfl ?_
  refine lv_lconst (v := 0) hx hb dX11_pool_6 (by decide) ?_
  refine lv_ldc2 (v := 63) hx hb hown (hts _ tw_1330) dX11_pool_7 ?_
  obtain ⟨v10, hc10, hf⟩ := cb1_some hf
  refine kcRS (As := [.long (Int32.toInt64 x1), .long 0, .long 63]) (rest := []) (st1 := [.int v10]) C (c_Mo_in l D ct (Int32.toInt64 x1) 0 63 v10 hc10) ⟨rfl, rfl⟩ yn_yX11_in tw_1030 tw_1029 ⟨Nat.le_of_ble_eq_true rfl, Nat.le_of_ble_eq_true rfl⟩ ⟨Nat.zero_le _, Nat.zero_le _⟩ hP [] rfl hl.1 rfl rfl (Nat.le_of_ble_eq_true rfl) dX11_pool_10 rfl ?_
  refine lv_if_eq (tgt := 50) hx hb dX11_pool_13 (by decide) (fun hc => ?_) (fun hc => ?_)
  · have hf := kpos hc hf
    refine lv_bipush (v := (-2)) hx hb dX11_pool_50 (by decide) ?_
    obtain ⟨e1, e2, e3, e4, e5, e6, e7, e8, e9, e10, e11, e12⟩ := ti12 hf
    subst e1; subst e2; subst e3; subst e4; subst e5; subst e6; subst e7; subst e8; subst e9; subst e10; subst e11; subst e12
    exact kretM C hP hD hS dX11_pool_52
  · have hf := kneg hc hf
    refine lv_iload_n hx hb dX11_pool_16 rfl (lv_at hl 2 rfl) ?_
    refine lv_i2l (v := Int32.toInt64 x2) hx hb dX11_pool_17 rfl ?_
    refine lv_lconst (v := 0) hx hb dX11_pool_18 (by decide) ?_
    refine lv_ldc2 (v := 63) hx hb hown (hts _ tw_1330) dX11_pool_19 ?_
    obtain ⟨v22, hc22, hf⟩ := cb1_some hf
    refine kcRS (As := [.long (Int32.toInt64 x2), .long 0, .long 63]) (rest := []) (st1 := [.int v22]) C (c_Mo_in l D ct (Int32.toInt64 x2) 0 63 v22 hc22) ⟨rfl, rfl⟩ yn_yX11_in tw_1030 tw_1029 ⟨Nat.le_of_ble_eq_true rfl, Nat.le_of_ble_eq_true rfl⟩ ⟨Nat.zero_le _, Nat.zero_le _⟩ hP [] rfl hl.1 rfl rfl (Nat.le_of_ble_eq_true rfl) dX11_pool_22 rfl ?_
    refine lv_if_eq (tgt := 50) hx hb dX11_pool_25 (by decide) (fun hc => ?_) (fun hc => ?_)
    · have hf := kpos hc hf
      refine lv_bipush (v := (-2)) hx hb dX11_pool_50 (by decide) ?_
      obtain ⟨e1, e2, e3, e4, e5, e6, e7, e8, e9, e10, e11, e12⟩ := ti12 hf
      subst e1; subst e2; subst e3; subst e4; subst e5; subst e6; subst e7; subst e8; subst e9; subst e10; subst e11; subst e12
      exact kretM C hP hD hS dX11_pool_52
    · have hf := kneg hc hf
      refine lv_iload_n hx hb dX11_pool_28 rfl (lv_at hl 3 rfl) ?_
      refine lv_i2l (v := Int32.toInt64 x3) hx hb dX11_pool_29 rfl ?_
      refine lv_lconst (v := 0) hx hb dX11_pool_30 (by decide) ?_
      refine lv_ldc2 (v := 2) hx hb hown (hts _ tw_1032) dX11_pool_31 ?_
      obtain ⟨v34, hc34, hf⟩ := cb1_some hf
      refine kcRS (As := [.long (Int32.toInt64 x3), .long 0, .long 2]) (rest := []) (st1 := [.int v34]) C (c_Mo_in l D ct (Int32.toInt64 x3) 0 2 v34 hc34) ⟨rfl, rfl⟩ yn_yX11_in tw_1030 tw_1029 ⟨Nat.le_of_ble_eq_true rfl, Nat.le_of_ble_eq_true rfl⟩ ⟨Nat.zero_le _, Nat.zero_le _⟩ hP [] rfl hl.1 rfl rfl (Nat.le_of_ble_eq_true rfl) dX11_pool_34 rfl ?_
      refine lv_if_eq (tgt := 50) hx hb dX11_pool_37 (by decide) (fun hc => ?_) (fun hc => ?_)
      · have hf := kpos hc hf
        refine lv_bipush (v := (-2)) hx hb dX11_pool_50 (by decide) ?_
        obtain ⟨e1, e2, e3, e4, e5, e6, e7, e8, e9, e10, e11, e12⟩ := ti12 hf
        subst e1; subst e2; subst e3; subst e4; subst e5; subst e6; subst e7; subst e8; subst e9; subst e10; subst e11; subst e12
        exact kretM C hP hD hS dX11_pool_52
      · have hf := kneg hc hf
        refine lv_aload_n hx hb dX11_pool_40 rfl (lv_at hl 0 rfl) ?_
        refine lv_iload_n hx hb dX11_pool_41 rfl (lv_at hl 1 rfl) ?_
        refine lv_iload_n hx hb dX11_pool_42 rfl (lv_at hl 2 rfl) ?_
        refine lv_iload_n hx hb dX11_pool_43 rfl (lv_at hl 3 rfl) ?_
        obtain ⟨v44, hc44, hf⟩ := cb1_some hf
        refine kcRV (q0 := 0) (ci := 11) (As := [.int x1, .int x2, .int x3]) (rest := []) (st1 := [.int v44]) C (c_Mo_poolOf l D ct a_this a_forms a_sizes a_items a_moved a_bytes a_typed a_chances a_longs a_letters a_isThere a_pieceLongs a_pieceLetters a_song a_settings a_guess a_row a_least a_nights f_latest f_at_1 f_guesses f_todo F f_names_1 f_pieces_1 f_songLong_1 f_longs_1 f_letters_1 f_isThere_1 f_pieceLongs_1 f_pieceLetters_1 f_song_1 x1 x2 x3 v44 hc44) ⟨rfl, rfl⟩ yn_yX11_poolOf tw_1333 tw_65 tw_1331 ⟨Nat.le_of_ble_eq_true rfl, Nat.le_of_ble_eq_true rfl⟩ ⟨Nat.zero_le _, Nat.zero_le _⟩ hP [0, 4, 5, 6, 7, 8, 9] rfl rfl rfl rfl hl.1 rfl rfl (Nat.le_of_ble_eq_true rfl) dX11_pool_44 rfl ?_
        refine lv_goto (tgt := 52) hx hb dX11_pool_47 (by decide) ?_
        obtain ⟨e1, e2, e3, e4, e5, e6, e7, e8, e9, e10, e11, e12⟩ := ti12 hf
        subst e1; subst e2; subst e3; subst e4; subst e5; subst e6; subst e7; subst e8; subst e9; subst e10; subst e11; subst e12
        exact kretM C hP hD hS dX11_pool_52
def RM_Mo_shortestOf : Room := { frames := 3, cells := 0, slots := 0, locals := 71 }
set_option maxHeartbeats 4000000 in
set_option maxRecDepth 100000 in
theorem t_Mo_shortestOf_b73 {p : Program} {l : Launch} {e : Env} {s : State} {m : MethodId} {args : Array Value} {below : List Frame} {meth : Method} {c : Code} {D : va_G} {ct : Nat → ClassId} (C : CX p s m args meth c RX11 cX11_shortestOf 6 (some .int) D ct) (a_this a_forms a_sizes a_items a_moved a_bytes a_typed a_chances a_longs a_letters a_isThere a_pieceLongs a_pieceLetters a_song a_settings a_guess a_row a_least a_nights : Nat) (f_latest : Int32) (f_at : Int32) (f_guesses : Int32) (f_todo : Int32) (F : Nat) (f_names : Int32) (f_pieces : Int32) (f_songLong : Int32) (f_longs : Nat → Int32) (f_letters : Nat → Int32) (f_isThere : Nat → Int32) (f_pieceLongs : Nat → Int32) (f_pieceLetters : Nat → Int32) (f_song : Nat → Int32) (x1 : Int32) (r : Int32) : ∀ (x3 : Int32), Mo_shortestOf_b73 F f_names f_pieces f_songLong f_longs f_letters f_isThere f_pieceLongs f_pieceLetters f_song x1 x3 = some r → va_P D vwCl (w_Mo_shortestOf ct a_this a_forms a_sizes a_items a_moved a_bytes a_typed a_chances a_longs a_letters a_isThere a_pieceLongs a_pieceLetters a_song a_settings a_guess a_row a_least a_nights f_latest f_at f_names f_pieces f_songLong f_guesses f_todo f_longs f_letters f_isThere f_pieceLongs f_pieceLetters f_song) s.heap → ∀ ls : Array Slot, lv_has ls 6 [(1, .int x1), (3, .int x3)] → W p l e RM_Mo_shortestOf s m args below meth c s.heap [] 0 0 (MQ below (QR (some (.int r))) args s 0 0 (fun _ => False)) (F0 m 73 ls []) := by
  obtain ⟨hx, hb, hr, hml, hown, hts, hlk, hK, hN⟩ := id C
  intro x3 hf hP ls hl
  unfold Mo_shortestOf_b73 at hf
  refine lv_iload_n hx hb dX11_shortestOf_73 rfl (lv_at hl 0 rfl) ?_
  refine lv_if_ne (tgt := 84) hx hb dX11_shortestOf_74 (by decide) (fun hc => ?_) (fun hc => ?_)
  · have hf := kneg hc hf
    refine lv_iload_n hx hb dX11_shortestOf_84 rfl (lv_at hl 1 rfl) ?_
    have e1 := Option.some.inj hf
    subst e1
    exact kretR C dX11_shortestOf_85
  · have hf := kpos hc hf
    refine lv_iload_n hx hb dX11_shortestOf_77 rfl (lv_at hl 1 rfl) ?_
    obtain ⟨v78, hc78, hf⟩ := cb1_some hf
    refine kcRS (As := [.int x3]) (rest := []) (st1 := [.int v78]) C (c_Mo_ones l D ct F x3 v78 hc78) ⟨rfl, rfl⟩ yn_yX11_ones tw_1299 tw_1298 ⟨Nat.le_of_ble_eq_true rfl, Nat.le_of_ble_eq_true rfl⟩ ⟨Nat.zero_le _, Nat.zero_le _⟩ hP [] rfl hl.1 rfl rfl (Nat.le_of_ble_eq_true rfl) dX11_shortestOf_78 rfl ?_
    refine lv_goto (tgt := 85) hx hb dX11_shortestOf_81 (by decide) ?_
    have e1 := Option.some.inj hf
    subst e1
    exact kretR C dX11_shortestOf_85
set_option maxHeartbeats 4000000 in
set_option maxRecDepth 100000 in
theorem t_Mo_shortestOf_b66 {p : Program} {l : Launch} {e : Env} {s : State} {m : MethodId} {args : Array Value} {below : List Frame} {meth : Method} {c : Code} {D : va_G} {ct : Nat → ClassId} (C : CX p s m args meth c RX11 cX11_shortestOf 6 (some .int) D ct) (a_this a_forms a_sizes a_items a_moved a_bytes a_typed a_chances a_longs a_letters a_isThere a_pieceLongs a_pieceLetters a_song a_settings a_guess a_row a_least a_nights : Nat) (f_latest : Int32) (f_at : Int32) (f_guesses : Int32) (f_todo : Int32) (F : Nat) (f_names : Int32) (f_pieces : Int32) (f_songLong : Int32) (f_longs : Nat → Int32) (f_letters : Nat → Int32) (f_isThere : Nat → Int32) (f_pieceLongs : Nat → Int32) (f_pieceLetters : Nat → Int32) (f_song : Nat → Int32) (x1 : Int32) (r : Int32) (rec10 : Int32 → Int32 → Int32 → Option Int32) (hr10 : ∀ (x2 : Int32) (x3 : Int32) (x4 : Int32), rec10 x2 x3 x4 = some r → va_P D vwCl (w_Mo_shortestOf ct a_this a_forms a_sizes a_items a_moved a_bytes a_typed a_chances a_longs a_letters a_isThere a_pieceLongs a_pieceLetters a_song a_settings a_guess a_row a_least a_nights f_latest f_at f_names f_pieces f_songLong f_guesses f_todo f_longs f_letters f_isThere f_pieceLongs f_pieceLetters f_song) s.heap → ∀ ls : Array Slot, lv_has ls 6 [(0, .ref a_this), (1, .int x1), (2, .int x2), (3, .int x3), (4, .int x4)] → W p l e RM_Mo_shortestOf s m args below meth c s.heap [] 0 0 (MQ below (QR (some (.int r))) args s 0 0 (fun _ => False)) (F0 m 10 ls [])) : ∀ (x2 : Int32) (x4 : Int32) (k0 : Int32), Mo_shortestOf_b66 F f_names f_pieces f_songLong f_longs f_letters f_isThere f_pieceLongs f_pieceLetters f_song x1 rec10 x2 x4 k0 = some r → va_P D vwCl (w_Mo_shortestOf ct a_this a_forms a_sizes a_items a_moved a_bytes a_typed a_chances a_longs a_letters a_isThere a_pieceLongs a_pieceLetters a_song a_settings a_guess a_row a_least a_nights f_latest f_at f_names f_pieces f_songLong f_guesses f_todo f_longs f_letters f_isThere f_pieceLongs f_pieceLetters f_song) s.heap → ∀ ls : Array Slot, lv_has ls 6 [(0, .ref a_this), (1, .int x1), (2, .int x2), (4, .int x4)] → W p l e RM_Mo_shortestOf s m args below meth c s.heap [] 0 0 (MQ below (QR (some (.int r))) args s 0 0 (fun _ => False)) (F0 m 66 ls [.int k0]) := by
  obtain ⟨hx, hb, hr, hml, hown, hts, hlk, hK, hN⟩ := id C
  intro x2 x4 k0 hf hP ls hl
  unfold Mo_shortestOf_b66 at hf
  refine lv_istore_n (lv' := [(3, .int k0), (0, .ref a_this), (1, .int x1), (2, .int x2), (4, .int x4)]) hx hb dX11_shortestOf_66 rfl hl (by decide) rfl (fun ls hl => ?_)
  refine lv_iinc (v := x4 + 1) (lv' := [(4, .int (x4 + 1)), (3, .int k0), (0, .ref a_this), (1, .int x1), (2, .int x2)]) hx hb dX11_shortestOf_67 hl (k := 4) rfl rfl (by decide) rfl (fun ls hl => ?_)
  refine lv_goto (tgt := 10) hx hb dX11_shortestOf_70 (by decide) ?_
  exact hr10 x2 k0 (x4 + 1) hf hP _ (lv_sub hl [2, 3, 4, 1, 0] rfl)
set_option maxHeartbeats 4000000 in
set_option maxRecDepth 100000 in
theorem t_Mo_shortestOf_b65 {p : Program} {l : Launch} {e : Env} {s : State} {m : MethodId} {args : Array Value} {below : List Frame} {meth : Method} {c : Code} {D : va_G} {ct : Nat → ClassId} (C : CX p s m args meth c RX11 cX11_shortestOf 6 (some .int) D ct) (a_this a_forms a_sizes a_items a_moved a_bytes a_typed a_chances a_longs a_letters a_isThere a_pieceLongs a_pieceLetters a_song a_settings a_guess a_row a_least a_nights : Nat) (f_latest : Int32) (f_at : Int32) (f_guesses : Int32) (f_todo : Int32) (F : Nat) (f_names : Int32) (f_pieces : Int32) (f_songLong : Int32) (f_longs : Nat → Int32) (f_letters : Nat → Int32) (f_isThere : Nat → Int32) (f_pieceLongs : Nat → Int32) (f_pieceLetters : Nat → Int32) (f_song : Nat → Int32) (x1 : Int32) (r : Int32) (rec10 : Int32 → Int32 → Int32 → Option Int32) (hr10 : ∀ (x2 : Int32) (x3 : Int32) (x4 : Int32), rec10 x2 x3 x4 = some r → va_P D vwCl (w_Mo_shortestOf ct a_this a_forms a_sizes a_items a_moved a_bytes a_typed a_chances a_longs a_letters a_isThere a_pieceLongs a_pieceLetters a_song a_settings a_guess a_row a_least a_nights f_latest f_at f_names f_pieces f_songLong f_guesses f_todo f_longs f_letters f_isThere f_pieceLongs f_pieceLetters f_song) s.heap → ∀ ls : Array Slot, lv_has ls 6 [(0, .ref a_this), (1, .int x1), (2, .int x2), (3, .int x3), (4, .int x4)] → W p l e RM_Mo_shortestOf s m args below meth c s.heap [] 0 0 (MQ below (QR (some (.int r))) args s 0 0 (fun _ => False)) (F0 m 10 ls [])) : ∀ (x2 : Int32) (x3 : Int32) (x4 : Int32), Mo_shortestOf_b65 F f_names f_pieces f_songLong f_longs f_letters f_isThere f_pieceLongs f_pieceLetters f_song x1 rec10 x2 x3 x4 = some r → va_P D vwCl (w_Mo_shortestOf ct a_this a_forms a_sizes a_items a_moved a_bytes a_typed a_chances a_longs a_letters a_isThere a_pieceLongs a_pieceLetters a_song a_settings a_guess a_row a_least a_nights f_latest f_at f_names f_pieces f_songLong f_guesses f_todo f_longs f_letters f_isThere f_pieceLongs f_pieceLetters f_song) s.heap → ∀ ls : Array Slot, lv_has ls 6 [(0, .ref a_this), (1, .int x1), (2, .int x2), (3, .int x3), (4, .int x4)] → W p l e RM_Mo_shortestOf s m args below meth c s.heap [] 0 0 (MQ below (QR (some (.int r))) args s 0 0 (fun _ => False)) (F0 m 65 ls []) := by
  obtain ⟨hx, hb, hr, hml, hown, hts, hlk, hK, hN⟩ := id C
  intro x2 x3 x4 hf hP ls hl
  unfold Mo_shortestOf_b65 at hf
  refine lv_iload_n hx hb dX11_shortestOf_65 rfl (lv_at hl 3 rfl) ?_
  exact t_Mo_shortestOf_b66 C a_this a_forms a_sizes a_items a_moved a_bytes a_typed a_chances a_longs a_letters a_isThere a_pieceLongs a_pieceLetters a_song a_settings a_guess a_row a_least a_nights f_latest f_at f_guesses f_todo F f_names f_pieces f_songLong f_longs f_letters f_isThere f_pieceLongs f_pieceLetters f_song x1 r rec10 hr10 x2 x4 x3 hf hP _ (lv_sub hl [0, 1, 2, 4] rfl)
set_option maxHeartbeats 4000000 in
set_option maxRecDepth 100000 in
theorem t_Mo_shortestOf_b43 {p : Program} {l : Launch} {e : Env} {s : State} {m : MethodId} {args : Array Value} {below : List Frame} {meth : Method} {c : Code} {D : va_G} {ct : Nat → ClassId} (C : CX p s m args meth c RX11 cX11_shortestOf 6 (some .int) D ct) (a_this a_forms a_sizes a_items a_moved a_bytes a_typed a_chances a_longs a_letters a_isThere a_pieceLongs a_pieceLetters a_song a_settings a_guess a_row a_least a_nights : Nat) (f_latest : Int32) (f_at : Int32) (f_guesses : Int32) (f_todo : Int32) (F : Nat) (f_names : Int32) (f_pieces : Int32) (f_songLong : Int32) (f_longs : Nat → Int32) (f_letters : Nat → Int32) (f_isThere : Nat → Int32) (f_pieceLongs : Nat → Int32) (f_pieceLetters : Nat → Int32) (f_song : Nat → Int32) (x1 : Int32) (r : Int32) (rec10 : Int32 → Int32 → Int32 → Option Int32) (hr10 : ∀ (x2 : Int32) (x3 : Int32) (x4 : Int32), rec10 x2 x3 x4 = some r → va_P D vwCl (w_Mo_shortestOf ct a_this a_forms a_sizes a_items a_moved a_bytes a_typed a_chances a_longs a_letters a_isThere a_pieceLongs a_pieceLetters a_song a_settings a_guess a_row a_least a_nights f_latest f_at f_names f_pieces f_songLong f_guesses f_todo f_longs f_letters f_isThere f_pieceLongs f_pieceLetters f_song) s.heap → ∀ ls : Array Slot, lv_has ls 6 [(0, .ref a_this), (1, .int x1), (2, .int x2), (3, .int x3), (4, .int x4)] → W p l e RM_Mo_shortestOf s m args below meth c s.heap [] 0 0 (MQ below (QR (some (.int r))) args s 0 0 (fun _ => False)) (F0 m 10 ls [])) : ∀ (x2 : Int32) (x3 : Int32) (x4 : Int32) (k0 : Int32), Mo_shortestOf_b43 F f_names f_pieces f_songLong f_longs f_letters f_isThere f_pieceLongs f_pieceLetters f_song x1 rec10 x2 x3 x4 k0 = some r → va_P D vwCl (w_Mo_shortestOf ct a_this a_forms a_sizes a_items a_moved a_bytes a_typed a_chances a_longs a_letters a_isThere a_pieceLongs a_pieceLetters a_song a_settings a_guess a_row a_least a_nights f_latest f_at f_names f_pieces f_songLong f_guesses f_todo f_longs f_letters f_isThere f_pieceLongs f_pieceLetters f_song) s.heap → ∀ ls : Array Slot, lv_has ls 6 [(0, .ref a_this), (1, .int x1), (2, .int x2), (3, .int x3), (4, .int x4)] → W p l e RM_Mo_shortestOf s m args below meth c s.heap [] 0 0 (MQ below (QR (some (.int r))) args s 0 0 (fun _ => False)) (F0 m 43 ls [.int k0]) := by
  obtain ⟨hx, hb, hr, hml, hown, hts, hlk, hK, hN⟩ := id C
  intro x2 x3 x4 k0 hf hP ls hl
  unfold Mo_shortestOf_b43 at hf
  refine lv_istore (lv' := [(5, .int k0), (0, .ref a_this), (1, .int x1), (2, .int x2), (3, .int x3), (4, .int x4)]) hx hb dX11_shortestOf_43 hl (by decide) rfl (fun ls hl => ?_)
  refine lv_iload hx hb dX11_shortestOf_45 (lv_at hl 0 rfl) ?_
  refine lv_if_eq (tgt := 65) hx hb dX11_shortestOf_47 (by decide) (fun hc => ?_) (fun hc => ?_)
  · have hf := kpos hc hf
    exact t_Mo_shortestOf_b65 C a_this a_forms a_sizes a_items a_moved a_bytes a_typed a_chances a_longs a_letters a_isThere a_pieceLongs a_pieceLetters a_song a_settings a_guess a_row a_least a_nights f_latest f_at f_guesses f_todo F f_names f_pieces f_songLong f_longs f_letters f_isThere f_pieceLongs f_pieceLetters f_song x1 r rec10 hr10 x2 x3 x4 hf hP _ (lv_sub hl [1, 2, 3, 4, 5] rfl)
  · have hf := kneg hc hf
    refine lv_aload_n hx hb dX11_shortestOf_50 rfl (lv_at hl 1 rfl) ?_
    refine lv_iload hx hb dX11_shortestOf_51 (lv_at hl 5 rfl) ?_
    obtain ⟨v53, hc53, hf⟩ := cb1_some hf
    refine kcRV (q0 := 0) (ci := 11) (As := [.int x4]) (rest := []) (st1 := [.int v53]) C (c_Mo_fitsBy l D ct a_this a_forms a_sizes a_items a_moved a_bytes a_typed a_chances a_longs a_letters a_isThere a_pieceLongs a_pieceLetters a_song a_settings a_guess a_row a_least a_nights f_latest f_at f_guesses f_todo F f_names f_pieces f_songLong f_longs f_letters f_isThere f_pieceLongs f_pieceLetters f_song x4 v53 hc53) ⟨rfl, rfl⟩ yn_yX11_fitsBy tw_1161 tw_38 tw_1159 ⟨Nat.le_of_ble_eq_true rfl, Nat.le_of_ble_eq_true rfl⟩ ⟨Nat.zero_le _, Nat.zero_le _⟩ hP [0, 1, 2, 3, 4, 5, 6] rfl rfl rfl rfl hl.1 rfl rfl (Nat.le_of_ble_eq_true rfl) dX11_shortestOf_53 rfl ?_
    refine lv_iload_n hx hb dX11_shortestOf_56 rfl (lv_at hl 3 rfl) ?_
    refine lv_icmp_ne (tgt := 65) hx hb dX11_shortestOf_57 (by decide) (fun hc => ?_) (fun hc => ?_)
    · have hf := kneg hc hf
      exact t_Mo_shortestOf_b65 C a_this a_forms a_sizes a_items a_moved a_bytes a_typed a_chances a_longs a_letters a_isThere a_pieceLongs a_pieceLetters a_song a_settings a_guess a_row a_least a_nights f_latest f_at f_guesses f_todo F f_names f_pieces f_songLong f_longs f_letters f_isThere f_pieceLongs f_pieceLetters f_song x1 r rec10 hr10 x2 x3 x4 hf hP _ (lv_sub hl [1, 2, 3, 4, 5] rfl)
    · have hf := kpos hc hf
      refine lv_iload hx hb dX11_shortestOf_60 (lv_at hl 5 rfl) ?_
      refine lv_goto (tgt := 66) hx hb dX11_shortestOf_62 (by decide) ?_
      exact t_Mo_shortestOf_b66 C a_this a_forms a_sizes a_items a_moved a_bytes a_typed a_chances a_longs a_letters a_isThere a_pieceLongs a_pieceLetters a_song a_settings a_guess a_row a_least a_nights f_latest f_at f_guesses f_todo F f_names f_pieces f_songLong f_longs f_letters f_isThere f_pieceLongs f_pieceLetters f_song x1 r rec10 hr10 x2 x4 x4 hf hP _ (lv_sub hl [1, 2, 3, 5] rfl)
set_option maxHeartbeats 4000000 in
set_option maxRecDepth 100000 in
theorem t_Mo_shortestOf_b38 {p : Program} {l : Launch} {e : Env} {s : State} {m : MethodId} {args : Array Value} {below : List Frame} {meth : Method} {c : Code} {D : va_G} {ct : Nat → ClassId} (C : CX p s m args meth c RX11 cX11_shortestOf 6 (some .int) D ct) (a_this a_forms a_sizes a_items a_moved a_bytes a_typed a_chances a_longs a_letters a_isThere a_pieceLongs a_pieceLetters a_song a_settings a_guess a_row a_least a_nights : Nat) (f_latest : Int32) (f_at : Int32) (f_guesses : Int32) (f_todo : Int32) (F : Nat) (f_names : Int32) (f_pieces : Int32) (f_songLong : Int32) (f_longs : Nat → Int32) (f_letters : Nat → Int32) (f_isThere : Nat → Int32) (f_pieceLongs : Nat → Int32) (f_pieceLetters : Nat → Int32) (f_song : Nat → Int32) (x1 : Int32) (r : Int32) (rec10 : Int32 → Int32 → Int32 → Option Int32) (hr10 : ∀ (x2 : Int32) (x3 : Int32) (x4 : Int32), rec10 x2 x3 x4 = some r → va_P D vwCl (w_Mo_shortestOf ct a_this a_forms a_sizes a_items a_moved a_bytes a_typed a_chances a_longs a_letters a_isThere a_pieceLongs a_pieceLetters a_song a_settings a_guess a_row a_least a_nights f_latest f_at f_names f_pieces f_songLong f_guesses f_todo f_longs f_letters f_isThere f_pieceLongs f_pieceLetters f_song) s.heap → ∀ ls : Array Slot, lv_has ls 6 [(0, .ref a_this), (1, .int x1), (2, .int x2), (3, .int x3), (4, .int x4)] → W p l e RM_Mo_shortestOf s m args below meth c s.heap [] 0 0 (MQ below (QR (some (.int r))) args s 0 0 (fun _ => False)) (F0 m 10 ls [])) : ∀ (x2 : Int32) (x3 : Int32) (x4 : Int32), Mo_shortestOf_b38 F f_names f_pieces f_songLong f_longs f_letters f_isThere f_pieceLongs f_pieceLetters f_song x1 rec10 x2 x3 x4 = some r → va_P D vwCl (w_Mo_shortestOf ct a_this a_forms a_sizes a_items a_moved a_bytes a_typed a_chances a_longs a_letters a_isThere a_pieceLongs a_pieceLetters a_song a_settings a_guess a_row a_least a_nights f_latest f_at f_names f_pieces f_songLong f_guesses f_todo f_longs f_letters f_isThere f_pieceLongs f_pieceLetters f_song) s.heap → ∀ ls : Array Slot, lv_has ls 6 [(0, .ref a_this), (1, .int x1), (2, .int x2), (3, .int x3), (4, .int x4)] → W p l e RM_Mo_shortestOf s m args below meth c s.heap [] 0 0 (MQ below (QR (some (.int r))) args s 0 0 (fun _ => False)) (F0 m 38 ls []) := by
  obtain ⟨hx, hb, hr, hml, hown, hts, hlk, hK, hN⟩ := id C
  intro x2 x3 x4 hf hP ls hl
  unfold Mo_shortestOf_b38 at hf
  refine lv_iconst (v := 1) hx hb dX11_shortestOf_38 (by decide) ?_
  refine lv_goto (tgt := 43) hx hb dX11_shortestOf_39 (by decide) ?_
  exact t_Mo_shortestOf_b43 C a_this a_forms a_sizes a_items a_moved a_bytes a_typed a_chances a_longs a_letters a_isThere a_pieceLongs a_pieceLetters a_song a_settings a_guess a_row a_least a_nights f_latest f_at f_guesses f_todo F f_names f_pieces f_songLong f_longs f_letters f_isThere f_pieceLongs f_pieceLetters f_song x1 r rec10 hr10 x2 x3 x4 1 hf hP _ (lv_sub hl [0, 1, 2, 3, 4] rfl)
set_option maxHeartbeats 4000000 in
set_option maxRecDepth 100000 in
theorem t_Mo_shortestOf_b10 {p : Program} {l : Launch} {e : Env} {s : State} {m : MethodId} {args : Array Value} {below : List Frame} {meth : Method} {c : Code} {D : va_G} {ct : Nat → ClassId} (C : CX p s m args meth c RX11 cX11_shortestOf 6 (some .int) D ct) (a_this a_forms a_sizes a_items a_moved a_bytes a_typed a_chances a_longs a_letters a_isThere a_pieceLongs a_pieceLetters a_song a_settings a_guess a_row a_least a_nights : Nat) (f_latest : Int32) (f_at : Int32) (f_guesses : Int32) (f_todo : Int32) (F : Nat) (f_names : Int32) (f_pieces : Int32) (f_songLong : Int32) (f_longs : Nat → Int32) (f_letters : Nat → Int32) (f_isThere : Nat → Int32) (f_pieceLongs : Nat → Int32) (f_pieceLetters : Nat → Int32) (f_song : Nat → Int32) (x1 : Int32) (r : Int32) (rec10 : Int32 → Int32 → Int32 → Option Int32) (hr10 : ∀ (x2 : Int32) (x3 : Int32) (x4 : Int32), rec10 x2 x3 x4 = some r → va_P D vwCl (w_Mo_shortestOf ct a_this a_forms a_sizes a_items a_moved a_bytes a_typed a_chances a_longs a_letters a_isThere a_pieceLongs a_pieceLetters a_song a_settings a_guess a_row a_least a_nights f_latest f_at f_names f_pieces f_songLong f_guesses f_todo f_longs f_letters f_isThere f_pieceLongs f_pieceLetters f_song) s.heap → ∀ ls : Array Slot, lv_has ls 6 [(0, .ref a_this), (1, .int x1), (2, .int x2), (3, .int x3), (4, .int x4)] → W p l e RM_Mo_shortestOf s m args below meth c s.heap [] 0 0 (MQ below (QR (some (.int r))) args s 0 0 (fun _ => False)) (F0 m 10 ls [])) : ∀ (x2 : Int32) (x3 : Int32) (x4 : Int32), Mo_shortestOf_b10 F f_names f_pieces f_songLong f_longs f_letters f_isThere f_pieceLongs f_pieceLetters f_song x1 rec10 x2 x3 x4 = some r → va_P D vwCl (w_Mo_shortestOf ct a_this a_forms a_sizes a_items a_moved a_bytes a_typed a_chances a_longs a_letters a_isThere a_pieceLongs a_pieceLetters a_song a_settings a_guess a_row a_least a_nights f_latest f_at f_names f_pieces f_songLong f_guesses f_todo f_longs f_letters f_isThere f_pieceLongs f_pieceLetters f_song) s.heap → ∀ ls : Array Slot, lv_has ls 6 [(0, .ref a_this), (1, .int x1), (2, .int x2), (3, .int x3), (4, .int x4)] → W p l e RM_Mo_shortestOf s m args below meth c s.heap [] 0 0 (MQ below (QR (some (.int r))) args s 0 0 (fun _ => False)) (F0 m 10 ls []) := by
  obtain ⟨hx, hb, hr, hml, hown, hts, hlk, hK, hN⟩ := id C
  intro x2 x3 x4 hf hP ls hl
  unfold Mo_shortestOf_b10 at hf
  refine lv_iload hx hb dX11_shortestOf_10 (lv_at hl 4 rfl) ?_
  refine lv_iconst (v := 1) hx hb dX11_shortestOf_12 (by decide) ?_
  refine lv_aload_n hx hb dX11_shortestOf_13 rfl (lv_at hl 0 rfl) ?_
  refine va_get (ci := 11) (v := .int f_pieces) (C := RX11) (T := TX11) (N := 25) hx hb hts inX11 hown hK hP 0 rfl rfl 12 (by decide) (hts _ tw_956) (fun _ h9 => h9) rfl dX11_shortestOf_14 ?_
  refine lv_ishl hx hb dX11_shortestOf_17 ?_
  refine lv_icmp_ge (tgt := 73) hx hb dX11_shortestOf_18 (by decide) (fun hc => ?_) (fun hc => ?_)
  · have hf := kpos hc hf
    exact t_Mo_shortestOf_b73 C a_this a_forms a_sizes a_items a_moved a_bytes a_typed a_chances a_longs a_letters a_isThere a_pieceLongs a_pieceLetters a_song a_settings a_guess a_row a_least a_nights f_latest f_at f_guesses f_todo F f_names f_pieces f_songLong f_longs f_letters f_isThere f_pieceLongs f_pieceLetters f_song x1 r x3 hf hP _ (lv_sub hl [1, 3] rfl)
  · have hf := kneg hc hf
    refine lv_iload_n hx hb dX11_shortestOf_21 rfl (lv_at hl 3 rfl) ?_
    refine lv_iconst (v := (-1)) hx hb dX11_shortestOf_22 (by decide) ?_
    refine lv_icmp_eq (tgt := 38) hx hb dX11_shortestOf_23 (by decide) (fun hc => ?_) (fun hc => ?_)
    · have hf := kpos hc hf
      exact t_Mo_shortestOf_b38 C a_this a_forms a_sizes a_items a_moved a_bytes a_typed a_chances a_longs a_letters a_isThere a_pieceLongs a_pieceLetters a_song a_settings a_guess a_row a_least a_nights f_latest f_at f_guesses f_todo F f_names f_pieces f_songLong f_longs f_letters f_isThere f_pieceLongs f_pieceLetters f_song x1 r rec10 hr10 x2 x3 x4 hf hP _ (lv_sub hl [0, 1, 2, 3, 4] rfl)
    · have hf := kneg hc hf
      refine lv_iload hx hb dX11_shortestOf_26 (lv_at hl 4 rfl) ?_
      obtain ⟨v28, hc28, hf⟩ := cb1_some hf
      refine kcRS (As := [.int x4]) (rest := []) (st1 := [.int v28]) C (c_Mo_ones l D ct F x4 v28 hc28) ⟨rfl, rfl⟩ yn_yX11_ones tw_1299 tw_1298 ⟨Nat.le_of_ble_eq_true rfl, Nat.le_of_ble_eq_true rfl⟩ ⟨Nat.zero_le _, Nat.zero_le _⟩ hP [] rfl hl.1 rfl rfl (Nat.le_of_ble_eq_true rfl) dX11_shortestOf_28 rfl ?_
      refine lv_iload_n hx hb dX11_shortestOf_31 rfl (lv_at hl 3 rfl) ?_
      obtain ⟨v32, hc32, hf⟩ := cb1_some hf
      refine kcRS (As := [.int x3]) (rest := [.int v28]) (st1 := [.int v32, .int v28]) C (c_Mo_ones l D ct F x3 v32 hc32) ⟨rfl, rfl⟩ yn_yX11_ones tw_1299 tw_1298 ⟨Nat.le_of_ble_eq_true rfl, Nat.le_of_ble_eq_true rfl⟩ ⟨Nat.zero_le _, Nat.zero_le _⟩ hP [] rfl hl.1 rfl rfl (Nat.le_of_ble_eq_true rfl) dX11_shortestOf_32 rfl ?_
      refine lv_icmp_ge (tgt := 42) hx hb dX11_shortestOf_35 (by decide) (fun hc => ?_) (fun hc => ?_)
      · have hf := kpos hc hf
        refine lv_iconst (v := 0) hx hb dX11_shortestOf_42 (by decide) ?_
        exact t_Mo_shortestOf_b43 C a_this a_forms a_sizes a_items a_moved a_bytes a_typed a_chances a_longs a_letters a_isThere a_pieceLongs a_pieceLetters a_song a_settings a_guess a_row a_least a_nights f_latest f_at f_guesses f_todo F f_names f_pieces f_songLong f_longs f_letters f_isThere f_pieceLongs f_pieceLetters f_song x1 r rec10 hr10 x2 x3 x4 0 hf hP _ (lv_sub hl [0, 1, 2, 3, 4] rfl)
      · have hf := kneg hc hf
        exact t_Mo_shortestOf_b38 C a_this a_forms a_sizes a_items a_moved a_bytes a_typed a_chances a_longs a_letters a_isThere a_pieceLongs a_pieceLetters a_song a_settings a_guess a_row a_least a_nights f_latest f_at f_guesses f_todo F f_names f_pieces f_songLong f_longs f_letters f_isThere f_pieceLongs f_pieceLetters f_song x1 r rec10 hr10 x2 x3 x4 hf hP _ (lv_sub hl [0, 1, 2, 3, 4] rfl)
set_option maxHeartbeats 4000000 in
set_option maxRecDepth 100000 in
theorem t_Mo_shortestOf_l10 {p : Program} {l : Launch} {e : Env} {s : State} {m : MethodId} {args : Array Value} {below : List Frame} {meth : Method} {c : Code} {D : va_G} {ct : Nat → ClassId} (C : CX p s m args meth c RX11 cX11_shortestOf 6 (some .int) D ct) (a_this a_forms a_sizes a_items a_moved a_bytes a_typed a_chances a_longs a_letters a_isThere a_pieceLongs a_pieceLetters a_song a_settings a_guess a_row a_least a_nights : Nat) (f_latest : Int32) (f_at : Int32) (f_guesses : Int32) (f_todo : Int32) (F : Nat) (f_names : Int32) (f_pieces : Int32) (f_songLong : Int32) (f_longs : Nat → Int32) (f_letters : Nat → Int32) (f_isThere : Nat → Int32) (f_pieceLongs : Nat → Int32) (f_pieceLetters : Nat → Int32) (f_song : Nat → Int32) (x1 : Int32) (r : Int32) : ∀ (n : Nat) (x2 : Int32) (x3 : Int32) (x4 : Int32), Mo_shortestOf_l10 F f_names f_pieces f_songLong f_longs f_letters f_isThere f_pieceLongs f_pieceLetters f_song x1 n x2 x3 x4 = some r → va_P D vwCl (w_Mo_shortestOf ct a_this a_forms a_sizes a_items a_moved a_bytes a_typed a_chances a_longs a_letters a_isThere a_pieceLongs a_pieceLetters a_song a_settings a_guess a_row a_least a_nights f_latest f_at f_names f_pieces f_songLong f_guesses f_todo f_longs f_letters f_isThere f_pieceLongs f_pieceLetters f_song) s.heap → ∀ ls : Array Slot, lv_has ls 6 [(0, .ref a_this), (1, .int x1), (2, .int x2), (3, .int x3), (4, .int x4)] → W p l e RM_Mo_shortestOf s m args below meth c s.heap [] 0 0 (MQ below (QR (some (.int r))) args s 0 0 (fun _ => False)) (F0 m 10 ls []) := by
  intro n
  induction n with
  | zero =>
    intro x2 x3 x4 hf
    exact absurd hf (by simp [Mo_shortestOf_l10])
  | succ n ih =>
    intro x2 x3 x4 hf
    exact t_Mo_shortestOf_b10 C a_this a_forms a_sizes a_items a_moved a_bytes a_typed a_chances a_longs a_letters a_isThere a_pieceLongs a_pieceLetters a_song a_settings a_guess a_row a_least a_nights f_latest f_at f_guesses f_todo F f_names f_pieces f_songLong f_longs f_letters f_isThere f_pieceLongs f_pieceLetters f_song x1 r (Mo_shortestOf_l10 F f_names f_pieces f_songLong f_longs f_letters f_isThere f_pieceLongs f_pieceLetters f_song x1 n) ih x2 x3 x4 hf
set_option maxHeartbeats 4000000 in
set_option maxRecDepth 100000 in
theorem c_Mo_shortestOf (l : Launch) (D : va_G) (ct : Nat → ClassId) (a_this a_forms a_sizes a_items a_moved a_bytes a_typed a_chances a_longs a_letters a_isThere a_pieceLongs a_pieceLetters a_song a_settings a_guess a_row a_least a_nights : Nat) (f_latest : Int32) (f_at : Int32) (f_guesses : Int32) (f_todo : Int32) (F : Nat) (f_names : Int32) (f_pieces : Int32) (f_songLong : Int32) (f_longs : Nat → Int32) (f_letters : Nat → Int32) (f_isThere : Nat → Int32) (f_pieceLongs : Nat → Int32) (f_pieceLetters : Nat → Int32) (f_song : Nat → Int32) (x1 : Int32) (r : Int32) (hf : Mo_shortestOf F f_names f_pieces f_songLong f_longs f_letters f_isThere f_pieceLongs f_pieceLetters f_song x1 = some r) : Met l yX11_shortestOf (WS yX11_shortestOf cX11_shortestOf 6 (some .int)) RM_Mo_shortestOf (va_Pc [.ref a_this, .int x1] (PR D ct (w_Mo_shortestOf ct a_this a_forms a_sizes a_items a_moved a_bytes a_typed a_chances a_longs a_letters a_isThere a_pieceLongs a_pieceLetters a_song a_settings a_guess a_row a_least a_nights f_latest f_at f_names f_pieces f_songLong f_guesses f_todo f_longs f_letters f_isThere f_pieceLongs f_pieceLetters f_song))) (QR (some (.int r))) 0 0 (fun _ => False) := by
  refine kMetR yn_yX11_shortestOf rfl (Nat.le_of_ble_eq_true rfl) ?_
  intro p e s m args below meth c C hP ls hl
  have hl : lv_has ls 6 [(0, .ref a_this), (1, .int x1)] := hl
  obtain ⟨hx, hb, hr, hml, hown, hts, hlk, hK, hN⟩ := id C
  unfold Mo_shortestOf at hf
  refine lv_aload_n hx hb dX11_shortestOf_0 rfl (lv_at hl 0 rfl) ?_
  obtain ⟨v1, hc1, hf⟩ := cb1_some hf
  refine kcRV (q0 := 0) (ci := 11) (As := []) (rest := []) (st1 := [.int v1]) C (c_Mo_fitsNow l D ct a_this a_forms a_sizes a_items a_moved a_bytes a_typed a_chances a_longs a_letters a_isThere a_pieceLongs a_pieceLetters a_song a_settings a_guess a_row a_least a_nights f_latest f_at f_guesses f_todo F f_names f_pieces f_songLong f_longs f_letters f_isThere f_pieceLongs f_pieceLetters f_song v1 hc1) ⟨rfl, rfl⟩ yn_yX11_fitsNow tw_1157 tw_37 tw_1155 ⟨Nat.le_of_ble_eq_true rfl, Nat.le_of_ble_eq_true rfl⟩ ⟨Nat.zero_le _, Nat.zero_le _⟩ hP [0, 1, 2, 3, 4, 5, 6] rfl rfl rfl rfl hl.1 rfl rfl (Nat.le_of_ble_eq_true rfl) dX11_shortestOf_1 rfl ?_
  refine lv_istore_n (lv' := [(2, .int v1), (0, .ref a_this), (1, .int x1)]) hx hb dX11_shortestOf_4 rfl hl (by decide) rfl (fun ls hl => ?_)
  refine lv_iconst (v := (-1)) hx hb dX11_shortestOf_5 (by decide) ?_
  refine lv_istore_n (lv' := [(3, .int (-1)), (2, .int v1), (0, .ref a_this), (1, .int x1)]) hx hb dX11_shortestOf_6 rfl hl (by decide) rfl (fun ls hl => ?_)
  refine lv_iconst (v := 0) hx hb dX11_shortestOf_7 (by decide) ?_
  refine lv_istore (lv' := [(4, .int 0), (3, .int (-1)), (2, .int v1), (0, .ref a_this), (1, .int x1)]) hx hb dX11_shortestOf_8 hl (by decide) rfl (fun ls hl => ?_)
  exact t_Mo_shortestOf_l10 C a_this a_forms a_sizes a_items a_moved a_bytes a_typed a_chances a_longs a_letters a_isThere a_pieceLongs a_pieceLetters a_song a_settings a_guess a_row a_least a_nights f_latest f_at f_guesses f_todo F f_names f_pieces f_songLong f_longs f_letters f_isThere f_pieceLongs f_pieceLetters f_song x1 r F v1 (-1) 0 hf hP _ (lv_sub hl [3, 4, 2, 1, 0] rfl)
