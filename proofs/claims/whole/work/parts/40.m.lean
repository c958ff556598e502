def RM_Mo_isSheet : Room := { frames := 1, cells := 0, slots := 0, locals := 25 }
set_option maxHeartbeats 4000000 in
set_option maxRecDepth 100000 in
theorem c_Mo_isSheet (l : Launch) (D : va_G) (ct : Nat → ClassId) (x0 : Int32) (r : Int32) (hf : Mo_isSheet x0 = some r) : Met l yX11_isSheet (WS yX11_isSheet cX11_isSheet 1 (some .boolean)) RM_Mo_isSheet (va_Pc [.int x0] (PR D ct (w_Mo_isSheet ct))) (QR (some (.int r))) 0 0 (fun _ => False) := by
  refine kMetR yn_yX11_isSheet rfl (Nat.le_of_ble_eq_true rfl) ?_
  intro p e s m args below meth c C hP ls hl
  have hl : lv_has ls 1 [(0, .int x0)] := hl
  obtain ⟨hx, hb, hr, hml, hown, hts, hlk, hK, hN⟩ := id C
  unfold Mo_isSheet at hf
  refine lv_iload_n hx hb dX11_isSheet_0 rfl (lv_at hl 0 rfl) ?_
  refine lv_i2l (v := Int32.toInt64 x0) hx hb dX11_isSheet_1 rfl ?_
  refine lv_lconst (v := 0) hx hb dX11_isSheet_2 (by decide) ?_
  refine lv_ldc2 (v := 3) hx hb hown (hts _ tw_1029) dX11_isSheet_3 ?_
  obtain ⟨v6, hc6, hf⟩ := cb1_some hf
  refine kcRS (As := [.long (Int32.toInt64 x0), .long 0, .long 3]) (rest := []) (st1 := [.int v6]) C (c_Mo_in l D ct (Int32.toInt64 x0) 0 3 v6 hc6) ⟨rfl, rfl⟩ yn_yX11_in tw_1031 tw_1030 ⟨Nat.le_of_ble_eq_true rfl, Nat.le_of_ble_eq_true rfl⟩ ⟨Nat.zero_le _, Nat.zero_le _⟩ hP [] rfl hl.1 rfl rfl (Nat.le_of_ble_eq_true rfl) dX11_isSheet_6 rfl ?_
  obtain ⟨hz, hf⟩ := gd_some hf
  have e1 := Option.some.inj hf
  subst e1
  exact kretRz C hz dX11_isSheet_9
def RM_Mo_sheet : Room := { frames := 2, cells := 0, slots := 0, locals := 45 }
set_option maxHeartbeats 4000000 in
set_option maxRecDepth 100000 in
theorem t_Mo_sheet_b55 {p : Program} {l : Launch} {e : Env} {s : State} {m : MethodId} {args : Array Value} {below : List Frame} {meth : Method} {c : Code} {D : va_G} {ct : Nat → ClassId} (C : CX p s m args meth c RX11 cX11_sheet 5 (some .int) D ct) {A : Nat → Prop} (hA : ∀ q : Nat, s.heap.size ≤ q → A q) (a_this a_forms a_sizes a_items a_moved a_bytes a_typed a_chances a_longs a_letters a_isThere a_pieceLongs a_pieceLetters a_song a_settings a_guess a_row a_least a_nights : Nat) (f_at : Int32) (f_names : Int32) (f_pieces : Int32) (f_songLong : Int32) (f_guesses : Int32) (f_todo : Int32) (F : Nat) (x1 : Int32) (x2 : Int32) (x3 : Int32) (r : Int32) (r_latest : Int32) (r_forms : Nat → Int32) (r_sizes : Nat → Int32) (r_items : Nat → Int32) (rec55 : Int32 → Int32 → (Nat → Int32) → (Nat → Int32) → (Nat → Int32) → Option (Int32 × Int32 × (Nat → Int32) × (Nat → Int32) × (Nat → Int32))) (hr55 : ∀ (x4 : Int32) (f_latest : Int32) (f_forms : Nat → Int32) (f_sizes : Nat → Int32) (f_items : Nat → Int32), rec55 x4 f_latest f_forms f_sizes f_items = some (r, r_latest, r_forms, r_sizes, r_items) → ∀ (H : Heap) (locs : List Loc), va_P D vwCl (w_Mo_sheet ct a_this a_forms a_sizes a_items a_moved a_bytes a_typed a_chances a_longs a_letters a_isThere a_pieceLongs a_pieceLetters a_song a_settings a_guess a_row a_least a_nights f_latest f_at f_names f_pieces f_songLong f_guesses f_todo f_forms f_sizes f_items) H → va_D A (w_Mo_sheet ct a_this a_forms a_sizes a_items a_moved a_bytes a_typed a_chances a_longs a_letters a_isThere a_pieceLongs a_pieceLetters a_song a_settings a_guess a_row a_least a_nights f_latest f_at f_names f_pieces f_songLong f_guesses f_todo f_forms f_sizes f_items) → va_S A s.heap H locs → ∀ ls : Array Slot, lv_has ls 5 [(0, .ref a_this), (1, .int x1), (3, .int x3), (4, .int x4)] → W p l e RM_Mo_sheet s m args below meth c H locs 0 0 (MQ below (QM D (some (.int r)) (w_Mo_sheet ct a_this a_forms a_sizes a_items a_moved a_bytes a_typed a_chances a_longs a_letters a_isThere a_pieceLongs a_pieceLetters a_song a_settings a_guess a_row a_least a_nights r_latest f_at f_names f_pieces f_songLong f_guesses f_todo r_forms r_sizes r_items) A) args s 0 0 A) (F0 m 55 ls [])) : ∀ (x4 : Int32) (f_latest : Int32) (f_forms : Nat → Int32) (f_sizes : Nat → Int32) (f_items : Nat → Int32), Mo_sheet_b55 F x1 x2 x3 rec55 x4 f_latest f_forms f_sizes f_items = some (r, r_latest, r_forms, r_sizes, r_items) → ∀ (H : Heap) (locs : List Loc), va_P D vwCl (w_Mo_sheet ct a_this a_forms a_sizes a_items a_moved a_bytes a_typed a_chances a_longs a_letters a_isThere a_pieceLongs a_pieceLetters a_song a_settings a_guess a_row a_least a_nights f_latest f_at f_names f_pieces f_songLong f_guesses f_todo f_forms f_sizes f_items) H → va_D A (w_Mo_sheet ct a_this a_forms a_sizes a_items a_moved a_bytes a_typed a_chances a_longs a_letters a_isThere a_pieceLongs a_pieceLetters a_song a_settings a_guess a_row a_least a_nights f_latest f_at f_names f_pieces f_songLong f_guesses f_todo f_forms f_sizes f_items) → va_S A s.heap H locs → ∀ ls : Array Slot, lv_has ls 5 [(0, .ref a_this), (1, .int x1), (3, .int x3), (4, .int x4)] → W p l e RM_Mo_sheet s m args below meth c H locs 0 0 (MQ below (QM D (some (.int r)) (w_Mo_sheet ct a_this a_forms a_sizes a_items a_moved a_bytes a_typed a_chances a_longs a_letters a_isThere a_pieceLongs a_pieceLetters a_song a_settings a_guess a_row a_least a_nights r_latest f_at f_names f_pieces f_songLong f_guesses f_todo r_forms r_sizes r_items) A) args s 0 0 A) (F0 m 55 ls []) := by
  obtain ⟨hx, hb, hr, hml, hown, hts, hlk, hK, hN⟩ := id C
  intro x4 f_latest f_forms f_sizes f_items hf H locs hP hD hS ls hl
  unfold Mo_sheet_b55 at hf
  refine lv_iload hx hb dX11_sheet_55 (lv_at hl 3 rfl) ?_
  refine lv_iload_n hx hb dX11_sheet_57 rfl (lv_at hl 2 rfl) ?_
  refine lv_icmp_ge (tgt := 80) hx hb dX11_sheet_58 (by decide) (fun hc => ?_) (fun hc => ?_)
  · have hf := kpos hc hf
    refine lv_iload_n hx hb dX11_sheet_80 rfl (lv_at hl 2 rfl) ?_
    obtain ⟨e1, e2, e3, e4, e5⟩ := ti5 hf
    subst e1; subst e2; subst e3; subst e4; subst e5
    exact kretM C hP hD hS dX11_sheet_81
  · have hf := kneg hc hf
    refine lv_aload_n hx hb dX11_sheet_61 rfl (lv_at hl 0 rfl) ?_
    refine va_get (ci := 11) (v := .ref a_items) (C := RX11) (T := TX11) (N := 25) hx hb hts inX11 hown hK hP 0 rfl rfl 2 (by decide) (hts _ tw_947) (fun _ h9 => h9) rfl dX11_sheet_62 ?_
    refine lv_bipush (v := 60) hx hb dX11_sheet_65 (by decide) ?_
    refine lv_iload_n hx hb dX11_sheet_67 rfl (lv_at hl 1 rfl) ?_
    refine lv_imul hx hb dX11_sheet_68 ?_
    refine lv_iload hx hb dX11_sheet_69 (lv_at hl 3 rfl) ?_
    refine lv_iadd hx hb dX11_sheet_71 ?_
    refine lv_iconst (v := 0) hx hb dX11_sheet_72 (by decide) ?_
    obtain ⟨hin, f_items_73, ev73, hf⟩ := wr_ex hf
    refine kiast hx hb hK hP hD hS 3 0 rfl rfl hin ev73 dX11_sheet_73 (fun H locs hP hD hS => ?_)
    have hP : va_P D vwCl (w_Mo_sheet ct a_this a_forms a_sizes a_items a_moved a_bytes a_typed a_chances a_longs a_letters a_isThere a_pieceLongs a_pieceLetters a_song a_settings a_guess a_row a_least a_nights f_latest f_at f_names f_pieces f_songLong f_guesses f_todo f_forms f_sizes f_items_73) H := hP
    have hD : va_D A (w_Mo_sheet ct a_this a_forms a_sizes a_items a_moved a_bytes a_typed a_chances a_longs a_letters a_isThere a_pieceLongs a_pieceLetters a_song a_settings a_guess a_row a_least a_nights f_latest f_at f_names f_pieces f_songLong f_guesses f_todo f_forms f_sizes f_items_73) := hD
    refine lv_iinc (v := x4 + 1) (lv' := [(4, .int (x4 + 1)), (0, .ref a_this), (1, .int x1), (3, .int x3)]) hx hb dX11_sheet_74 hl (k := 3) rfl rfl (by decide) rfl (fun ls hl => ?_)
    refine lv_goto (tgt := 55) hx hb dX11_sheet_77 (by decide) ?_
    exact hr55 (x4 + 1) f_latest f_forms f_sizes f_items_73 hf _ _ hP hD hS _ (lv_sub hl [1, 2, 3, 0] rfl)
set_option maxHeartbeats 4000000 in
set_option maxRecDepth 100000 in
theorem t_Mo_sheet_l55 {p : Program} {l : Launch} {e : Env} {s : State} {m : MethodId} {args : Array Value} {below : List Frame} {meth : Method} {c : Code} {D : va_G} {ct : Nat → ClassId} (C : CX p s m args meth c RX11 cX11_sheet 5 (some .int) D ct) {A : Nat → Prop} (hA : ∀ q : Nat, s.heap.size ≤ q → A q) (a_this a_forms a_sizes a_items a_moved a_bytes a_typed a_chances a_longs a_letters a_isThere a_pieceLongs a_pieceLetters a_song a_settings a_guess a_row a_least a_nights : Nat) (f_at : Int32) (f_names : Int32) (f_pieces : Int32) (f_songLong : Int32) (f_guesses : Int32) (f_todo : Int32) (F : Nat) (x1 : Int32) (x2 : Int32) (x3 : Int32) (r : Int32) (r_latest : Int32) (r_forms : Nat → Int32) (r_sizes : Nat → Int32) (r_items : Nat → Int32) : ∀ (n : Nat) (x4 : Int32) (f_latest : Int32) (f_forms : Nat → Int32) (f_sizes : Nat → Int32) (f_items : Nat → Int32), Mo_sheet_l55 F x1 x2 x3 n x4 f_latest f_forms f_sizes f_items = some (r, r_latest, r_forms, r_sizes, r_items) → ∀ (H : Heap) (locs : List Loc), va_P D vwCl (w_Mo_sheet ct a_this a_forms a_sizes a_items a_moved a_bytes a_typed a_chances a_longs a_letters a_isThere a_pieceLongs a_pieceLetters a_song a_settings a_guess a_row a_least a_nights f_latest f_at f_names f_pieces f_songLong f_guesses f_todo f_forms f_sizes f_items) H → va_D A (w_Mo_sheet ct a_this a_forms a_sizes a_items a_moved a_bytes a_typed a_chances a_longs a_letters a_isThere a_pieceLongs a_pieceLetters a_song a_settings a_guess a_row a_least a_nights f_latest f_at f_names f_pieces f_songLong f_guesses f_todo f_forms f_sizes f_items) → va_S A s.heap H locs → ∀ ls : Array Slot, lv_has ls 5 [(0, .ref a_this), (1, .int x1), (3, .int x3), (4, .int x4)] → W p l e RM_Mo_sheet s m args below meth c H locs 0 0 (MQ below (QM D (some (.int r)) (w_Mo_sheet ct a_this a_forms a_sizes a_items a_moved a_bytes a_typed a_chances a_longs a_letters a_isThere a_pieceLongs a_pieceLetters a_song a_settings a_guess a_row a_least a_nights r_latest f_at f_names f_pieces f_songLong f_guesses f_todo r_forms r_sizes r_items) A) args s 0 0 A) (F0 m 55 ls []) := by
  intro n
  induction n with
  | zero =>
    intro x4 f_latest f_forms f_sizes f_items hf
    exact absurd hf (by simp [Mo_sheet_l55])
  | succ n ih =>
    intro x4 f_latest f_forms f_sizes f_items hf
    exact t_Mo_sheet_b55 C hA a_this a_forms a_sizes a_items a_moved a_bytes a_typed a_chances a_longs a_letters a_isThere a_pieceLongs a_pieceLetters a_song a_settings a_guess a_row a_least a_nights f_at f_names f_pieces f_songLong f_guesses f_todo F x1 x2 x3 r r_latest r_forms r_sizes r_items (Mo_sheet_l55 F x1 x2 x3 n) ih x4 f_latest f_forms f_sizes f_items hf
set_option maxHeartbeats 4000000 in
set_option maxRecDepth 100000 in
theorem c_Mo_sheet (l : Launch) (D : va_G) (ct : Nat → ClassId) (a_this a_forms a_sizes a_items a_moved a_bytes a_typed a_chances a_longs a_letters a_isThere a_pieceLongs a_pieceLetters a_song a_settings a_guess a_row a_least a_nights : Nat) (f_at : Int32) (f_names : Int32) (f_pieces : Int32) (f_songLong : Int32) (f_guesses : Int32) (f_todo : Int32) (F : Nat) (f_latest : Int32) (f_forms : Nat → Int32) (f_sizes : Nat → Int32) (f_items : Nat → Int32) (x1 : Int32) (x2 : Int32) (x3 : Int32) (r : Int32) (r_latest : Int32) (r_forms : Nat → Int32) (r_sizes : Nat → Int32) (r_items : Nat → Int32) (sz : Nat) (hf : Mo_sheet F f_latest f_forms f_sizes f_items x1 x2 x3 = some (r, r_latest, r_forms, r_sizes, r_items)) : Met l yX11_sheet (WS yX11_sheet cX11_sheet 5 (some .int)) RM_Mo_sheet (va_Pc [.ref a_this, .int x1, .int x2, .int x3] (PM D ct sz (w_Mo_sheet ct a_this a_forms a_sizes a_items a_moved a_bytes a_typed a_chances a_longs a_letters a_isThere a_pieceLongs a_pieceLetters a_song a_settings a_guess a_row a_least a_nights f_latest f_at f_names f_pieces f_songLong f_guesses f_todo f_forms f_sizes f_items))) (QM D (some (.int r)) (w_Mo_sheet ct a_this a_forms a_sizes a_items a_moved a_bytes a_typed a_chances a_longs a_letters a_isThere a_pieceLongs a_pieceLetters a_song a_settings a_guess a_row a_least a_nights r_latest f_at f_names f_pieces f_songLong f_guesses f_todo r_forms r_sizes r_items) (va_A (w_Mo_sheet ct a_this a_forms a_sizes a_items a_moved a_bytes a_typed a_chances a_longs a_letters a_isThere a_pieceLongs a_pieceLetters a_song a_settings a_guess a_row a_least a_nights f_latest f_at f_names f_pieces f_songLong f_guesses f_todo f_forms f_sizes f_items) sz)) 0 0 (va_A (w_Mo_sheet ct a_this a_forms a_sizes a_items a_moved a_bytes a_typed a_chances a_longs a_letters a_isThere a_pieceLongs a_pieceLetters a_song a_settings a_guess a_row a_least a_nights f_latest f_at f_names f_pieces f_songLong f_guesses f_todo f_forms f_sizes f_items) sz) := by
  refine kMetM yn_yX11_sheet rfl (Nat.le_of_ble_eq_true rfl) ?_
  intro p e s m args below meth c A C hA hP hD ls hl
  have hl : lv_has ls 5 [(0, .ref a_this), (1, .int x1), (2, .int x2), (3, .int x3)] := hl
  have hS : va_S A s.heap s.heap [] := va_S.rf
  obtain ⟨hx, hb, hr, hml, hown, hts, hlk, hK, hN⟩ := id C
  unfold Mo_sheet at hf
  refine lv_iload_n hx hb dX11_sheet_0 rfl (lv_at hl 1 rfl) ?_
  obtain ⟨v1, hc1, hf⟩ := cb1_some hf
  refine kcRS (As := [.int x1]) (rest := []) (st1 := [.int v1]) C (c_Mo_isSheet l D ct x1 v1 hc1) ⟨rfl, rfl⟩ yn_yX11_isSheet tw_1027 tw_1026 ⟨Nat.le_of_ble_eq_true rfl, Nat.le_of_ble_eq_true rfl⟩ ⟨Nat.zero_le _, Nat.zero_le _⟩ hP [] rfl hl.1 rfl rfl (Nat.le_of_ble_eq_true rfl) dX11_sheet_1 rfl ?_
  refine lv_if_eq (tgt := 25) hx hb dX11_sheet_4 (by decide) (fun hc => ?_) (fun hc => ?_)
  · have hf := kpos hc hf
    refine lv_bipush (v := (-2)) hx hb dX11_sheet_25 (by decide) ?_
    obtain ⟨e1, e2, e3, e4, e5⟩ := ti5 hf
    subst e1; subst e2; subst e3; subst e4; subst e5
    exact kretM C hP hD hS dX11_sheet_27
  · have hf := kneg hc hf
    refine lv_iload_n hx hb dX11_sheet_7 rfl (lv_at hl 2 rfl) ?_
    refine lv_i2l (v := Int32.toInt64 x2) hx hb dX11_sheet_8 rfl ?_
    refine lv_lconst (v := 0) hx hb dX11_sheet_9 (by decide) ?_
    refine lv_ldc2 (v := 2) hx hb hown (hts _ tw_1033) dX11_sheet_10 ?_
    obtain ⟨v13, hc13, hf⟩ := cb1_some hf
    refine kcRS (As := [.long (Int32.toInt64 x2), .long 0, .long 2]) (rest := []) (st1 := [.int v13]) C (c_Mo_in l D ct (Int32.toInt64 x2) 0 2 v13 hc13) ⟨rfl, rfl⟩ yn_yX11_in tw_1031 tw_1030 ⟨Nat.le_of_ble_eq_true rfl, Nat.le_of_ble_eq_true rfl⟩ ⟨Nat.zero_le _, Nat.zero_le _⟩ hP [] rfl hl.1 rfl rfl (Nat.le_of_ble_eq_true rfl) dX11_sheet_13 rfl ?_
    refine lv_if_eq (tgt := 25) hx hb dX11_sheet_16 (by decide) (fun hc => ?_) (fun hc => ?_)
    · have hf := kpos hc hf
      refine lv_bipush (v := (-2)) hx hb dX11_sheet_25 (by decide) ?_
      obtain ⟨e1, e2, e3, e4, e5⟩ := ti5 hf
      subst e1; subst e2; subst e3; subst e4; subst e5
      exact kretM C hP hD hS dX11_sheet_27
    · have hf := kneg hc hf
      refine lv_iload_n hx hb dX11_sheet_19 rfl (lv_at hl 3 rfl) ?_
      refine lv_bipush (v := 60) hx hb dX11_sheet_20 (by decide) ?_
      refine lv_icmp_le (tgt := 28) hx hb dX11_sheet_22 (by decide) (fun hc => ?_) (fun hc => ?_)
      · have hf := kpos hc hf
        refine lv_iload_n hx hb dX11_sheet_28 rfl (lv_at hl 3 rfl) ?_
        refine lv_if_ge (tgt := 38) hx hb dX11_sheet_29 (by decide) (fun hc => ?_) (fun hc => ?_)
        · have hf := kpos hc hf
          refine lv_aload_n hx hb dX11_sheet_38 rfl (lv_at hl 0 rfl) ?_
          refine va_get (ci := 11) (v := .ref a_forms) (C := RX11) (T := TX11) (N := 25) hx hb hts inX11 hown hK hP 0 rfl rfl 0 (by decide) (hts _ tw_945) (fun _ h9 => h9) rfl dX11_sheet_39 ?_
          refine lv_iload_n hx hb dX11_sheet_42 rfl (lv_at hl 1 rfl) ?_
          refine lv_iload_n hx hb dX11_sheet_43 rfl (lv_at hl 2 rfl) ?_
          obtain ⟨hin, f_forms_44, ev44, hf⟩ := wr_ex hf
          refine kiast hx hb hK hP hD hS 1 0 rfl rfl hin ev44 dX11_sheet_44 (fun H locs hP hD hS => ?_)
          have hP : va_P D vwCl (w_Mo_sheet ct a_this a_forms a_sizes a_items a_moved a_bytes a_typed a_chances a_longs a_letters a_isThere a_pieceLongs a_pieceLetters a_song a_settings a_guess a_row a_least a_nights f_latest f_at f_names f_pieces f_songLong f_guesses f_todo f_forms_44 f_sizes f_items) H := hP
          have hD : va_D A (w_Mo_sheet ct a_this a_forms a_sizes a_items a_moved a_bytes a_typed a_chances a_longs a_letters a_isThere a_pieceLongs a_pieceLetters a_song a_settings a_guess a_row a_least a_nights f_latest f_at f_names f_pieces f_songLong f_guesses f_todo f_forms_44 f_sizes f_items) := hD
          refine lv_aload_n hx hb dX11_sheet_45 rfl (lv_at hl 0 rfl) ?_
          refine va_get (ci := 11) (v := .ref a_sizes) (C := RX11) (T := TX11) (N := 25) hx hb hts inX11 hown hK hP 0 rfl rfl 1 (by decide) (hts _ tw_946) (fun _ h9 => h9) rfl dX11_sheet_46 ?_
          refine lv_iload_n hx hb dX11_sheet_49 rfl (lv_at hl 1 rfl) ?_
          refine lv_iload_n hx hb dX11_sheet_50 rfl (lv_at hl 3 rfl) ?_
          obtain ⟨hin, f_sizes_51, ev51, hf⟩ := wr_ex hf
          refine kiast hx hb hK hP hD hS 2 0 rfl rfl hin ev51 dX11_sheet_51 (fun H locs hP hD hS => ?_)
          have hP : va_P D vwCl (w_Mo_sheet ct a_this a_forms a_sizes a_items a_moved a_bytes a_typed a_chances a_longs a_letters a_isThere a_pieceLongs a_pieceLetters a_song a_settings a_guess a_row a_least a_nights f_latest f_at f_names f_pieces f_songLong f_guesses f_todo f_forms_44 f_sizes_51 f_items) H := hP
          have hD : va_D A (w_Mo_sheet ct a_this a_forms a_sizes a_items a_moved a_bytes a_typed a_chances a_longs a_letters a_isThere a_pieceLongs a_pieceLetters a_song a_settings a_guess a_row a_least a_nights f_latest f_at f_names f_pieces f_songLong f_guesses f_todo f_forms_44 f_sizes_51 f_items) := hD
          refine lv_iconst (v := 0) hx hb dX11_sheet_52 (by decide) ?_
          refine lv_istore (lv' := [(4, .int 0), (0, .ref a_this), (1, .int x1), (2, .int x2), (3, .int x3)]) hx hb dX11_sheet_53 hl (by decide) rfl (fun ls hl => ?_)
          exact t_Mo_sheet_l55 C hA a_this a_forms a_sizes a_items a_moved a_bytes a_typed a_chances a_longs a_letters a_isThere a_pieceLongs a_pieceLetters a_song a_settings a_guess a_row a_least a_nights f_at f_names f_pieces f_songLong f_guesses f_todo F x1 x2 x3 r r_latest r_forms r_sizes r_items F 0 f_latest f_forms_44 f_sizes_51 f_items hf _ _ hP hD hS _ (lv_sub hl [1, 2, 4, 0] rfl)
        · have hf := kneg hc hf
          refine lv_aload_n hx hb dX11_sheet_32 rfl (lv_at hl 0 rfl) ?_
          refine lv_iconst (v := 5) hx hb dX11_sheet_33 (by decide) ?_
          obtain ⟨v34, f_latest_34, hc34, hf⟩ := cb2_some hf
          refine kcMV (q0 := 0) (ci := 11) (As := [.int 5]) (rest := []) (st1 := [.int v34]) (wf := (w_Mo_sheet ct a_this a_forms a_sizes a_items a_moved a_bytes a_typed a_chances a_longs a_letters a_isThere a_pieceLongs a_pieceLetters a_song a_settings a_guess a_row a_least a_nights f_latest_34 f_at f_names f_pieces f_songLong f_guesses f_todo f_forms f_sizes f_items)) C (c_Mo_met l D ct a_this a_forms a_sizes a_items a_moved a_bytes a_typed a_chances a_longs a_letters a_isThere a_pieceLongs a_pieceLetters a_song a_settings a_guess a_row a_least a_nights f_at f_names f_pieces f_songLong f_guesses f_todo f_latest 5 v34 f_latest_34 _ hc34) ⟨rfl, rfl⟩ yn_yX11_met tw_1036 tw_26 tw_1034 ⟨Nat.le_of_ble_eq_true rfl, Nat.le_of_ble_eq_true rfl⟩ ⟨Nat.zero_le _, Nat.zero_le _⟩ hP hD hS hA [0] [1, 2, 3] [3, 0, 1, 2] rfl rfl rfl rfl rfl (by decide) rfl rfl rfl rfl rfl rfl hl.1 rfl rfl (Nat.le_of_ble_eq_true rfl) dX11_sheet_34 rfl (fun H locs hP hD hS => ?_)
          obtain ⟨e1, e2, e3, e4, e5⟩ := ti5 hf
          subst e1; subst e2; subst e3; subst e4; subst e5
          exact kretM C hP hD hS dX11_sheet_37
      · have hf := kneg hc hf
        refine lv_bipush (v := (-2)) hx hb dX11_sheet_25 (by decide) ?_
        obtain ⟨e1, e2, e3, e4, e5⟩ := ti5 hf
        subst e1; subst e2; subst e3; subst e4; subst e5
        exact kretM C hP hD hS dX11_sheet_27
def RM_Mo_lose : Room := { frames := 2, cells := 0, slots := 0, locals := 45 }
set_option maxHeartbeats 4000000 in
set_option maxRecDepth 100000 in
theorem c_Mo_lose (l : Launch) (D : va_G) (ct : Nat → ClassId) (a_this a_forms a_sizes a_items a_moved a_bytes a_typed a_chances a_longs a_letters a_isThere a_pieceLongs a_pieceLetters a_song a_settings a_guess a_row a_least a_nights : Nat) (f_at : Int32) (f_names : Int32) (f_pieces : Int32) (f_songLong : Int32) (f_guesses : Int32) (f_todo : Int32) (f_sizes : Nat → Int32) (f_latest : Int32) (f_forms : Nat → Int32) (x1 : Int32) (r : Int32) (r_latest : Int32) (r_forms : Nat → Int32) (sz : Nat) (hf : Mo_lose f_sizes f_latest f_forms x1 = some (r, r_latest, r_forms)) : Met l yX11_lose (WS yX11_lose cX11_lose 2 (some .int)) RM_Mo_lose (va_Pc [.ref a_this, .int x1] (PM D ct sz (w_Mo_lose ct a_this a_forms a_sizes a_items a_moved a_bytes a_typed a_chances a_longs a_letters a_isThere a_pieceLongs a_pieceLetters a_song a_settings a_guess a_row a_least a_nights f_latest f_at f_names f_pieces f_songLong f_guesses f_todo f_forms f_sizes))) (QM D (some (.int r)) (w_Mo_lose ct a_this a_forms a_sizes a_items a_moved a_bytes a_typed a_chances a_longs a_letters a_isThere a_pieceLongs a_pieceLetters a_song a_settings a_guess a_row a_least a_nights r_latest f_at f_names f_pieces f_songLong f_guesses f_todo r_forms f_sizes) (va_A (w_Mo_lose ct a_this a_forms a_sizes a_items a_moved a_bytes a_typed a_chances a_longs a_letters a_isThere a_pieceLongs a_pieceLetters a_song a_settings a_guess a_row a_least a_nights f_latest f_at f_names f_pieces f_songLong f_guesses f_todo f_forms f_sizes) sz)) 0 0 (va_A (w_Mo_lose ct a_this a_forms a_sizes a_items a_moved a_bytes a_typed a_chances a_longs a_letters a_isThere a_pieceLongs a_pieceLetters a_song a_settings a_guess a_row a_least a_nights f_latest f_at f_names f_pieces f_songLong f_guesses f_todo f_forms f_sizes) sz) := by
  refine kMetM yn_yX11_lose rfl (Nat.le_of_ble_eq_true rfl) ?_
  intro p e s m args below meth c A C hA hP hD ls hl
  have hl : lv_has ls 2 [(0, .ref a_this), (1, .int x1)] := hl
  have hS : va_S A s.heap s.heap [] := va_S.rf
  obtain ⟨hx, hb, hr, hml, hown, hts, hlk, hK, hN⟩ := id C
  unfold Mo_lose at hf
  refine lv_iload_n hx hb dX11_lose_0 rfl (lv_at hl 1 rfl) ?_
  obtain ⟨v1, hc1, hf⟩ := cb1_some hf
  refine kcRS (As := [.int x1]) (rest := []) (st1 := [.int v1]) C (c_Mo_isSheet l D ct x1 v1 hc1) ⟨rfl, rfl⟩ yn_yX11_isSheet tw_1027 tw_1026 ⟨Nat.le_of_ble_eq_true rfl, Nat.le_of_ble_eq_true rfl⟩ ⟨Nat.zero_le _, Nat.zero_le _⟩ hP [] rfl hl.1 rfl rfl (Nat.le_of_ble_eq_true rfl) dX11_lose_1 rfl ?_
  refine lv_if_ne (tgt := 10) hx hb dX11_lose_4 (by decide) (fun hc => ?_) (fun hc => ?_)
  · have hf := kneg hc hf
    refine lv_aload_n hx hb dX11_lose_10 rfl (lv_at hl 0 rfl) ?_
    refine va_get (ci := 11) (v := .ref a_forms) (C := RX11) (T := TX11) (N := 25) hx hb hts inX11 hown hK hP 0 rfl rfl 0 (by decide) (hts _ tw_945) (fun _ h9 => h9) rfl dX11_lose_11 ?_
    refine lv_iload_n hx hb dX11_lose_14 rfl (lv_at hl 1 rfl) ?_
    obtain ⟨hin, hf⟩ := rd_some hf
    generalize ev15 : f_forms (Int32.toNatClampNeg x1) = v15 at hf
    refine kiald hx hb hK hP 1 0 rfl rfl hin ev15 dX11_lose_15 ?_
    refine lv_if_ge (tgt := 25) hx hb dX11_lose_16 (by decide) (fun hc => ?_) (fun hc => ?_)
    · have hf := kpos hc hf
      refine lv_aload_n hx hb dX11_lose_25 rfl (lv_at hl 0 rfl) ?_
      refine va_get (ci := 11) (v := .ref a_forms) (C := RX11) (T := TX11) (N := 25) hx hb hts inX11 hown hK hP 0 rfl rfl 0 (by decide) (hts _ tw_945) (fun _ h9 => h9) rfl dX11_lose_26 ?_
      refine lv_iload_n hx hb dX11_lose_29 rfl (lv_at hl 1 rfl) ?_
      refine lv_iconst (v := (-1)) hx hb dX11_lose_30 (by decide) ?_
      obtain ⟨hin, f_forms_31, ev31, hf⟩ := wr_ex hf
      refine kiast hx hb hK hP hD hS 1 0 rfl rfl hin ev31 dX11_lose_31 (fun H locs hP hD hS => ?_)
      have hP : va_P D vwCl (w_Mo_lose ct a_this a_forms a_sizes a_items a_moved a_bytes a_typed a_chances a_longs a_letters a_isThere a_pieceLongs a_pieceLetters a_song a_settings a_guess a_row a_least a_nights f_latest f_at f_names f_pieces f_songLong f_guesses f_todo f_forms_31 f_sizes) H := hP
      have hD : va_D A (w_Mo_lose ct a_this a_forms a_sizes a_items a_moved a_bytes a_typed a_chances a_longs a_letters a_isThere a_pieceLongs a_pieceLetters a_song a_settings a_guess a_row a_least a_nights f_latest f_at f_names f_pieces f_songLong f_guesses f_todo f_forms_31 f_sizes) := hD
      refine lv_aload_n hx hb dX11_lose_32 rfl (lv_at hl 0 rfl) ?_
      refine va_get (ci := 11) (v := .ref a_sizes) (C := RX11) (T := TX11) (N := 25) hx hb hts inX11 hown hK hP 0 rfl rfl 1 (by decide) (hts _ tw_946) (fun _ h9 => h9) rfl dX11_lose_33 ?_
      refine lv_iload_n hx hb dX11_lose_36 rfl (lv_at hl 1 rfl) ?_
      obtain ⟨hin, hf⟩ := rd_some hf
      generalize ev37 : f_sizes (Int32.toNatClampNeg x1) = v37 at hf
      refine kiald hx hb hK hP 2 0 rfl rfl hin ev37 dX11_lose_37 ?_
      obtain ⟨e1, e2, e3⟩ := ti3 hf
      subst e1; subst e2; subst e3
      exact kretM C hP hD hS dX11_lose_38
    · have hf := kneg hc hf
      refine lv_aload_n hx hb dX11_lose_19 rfl (lv_at hl 0 rfl) ?_
      refine lv_iconst (v := 1) hx hb dX11_lose_20 (by decide) ?_
      obtain ⟨v21, f_latest_21, hc21, hf⟩ := cb2_some hf
      refine kcMV (q0 := 0) (ci := 11) (As := [.int 1]) (rest := []) (st1 := [.int v21]) (wf := (w_Mo_lose ct a_this a_forms a_sizes a_items a_moved a_bytes a_typed a_chances a_longs a_letters a_isThere a_pieceLongs a_pieceLetters a_song a_settings a_guess a_row a_least a_nights f_latest_21 f_at f_names f_pieces f_songLong f_guesses f_todo f_forms f_sizes)) C (c_Mo_met l D ct a_this a_forms a_sizes a_items a_moved a_bytes a_typed a_chances a_longs a_letters a_isThere a_pieceLongs a_pieceLetters a_song a_settings a_guess a_row a_least a_nights f_at f_names f_pieces f_songLong f_guesses f_todo f_latest 1 v21 f_latest_21 _ hc21) ⟨rfl, rfl⟩ yn_yX11_met tw_1036 tw_26 tw_1034 ⟨Nat.le_of_ble_eq_true rfl, Nat.le_of_ble_eq_true rfl⟩ ⟨Nat.zero_le _, Nat.zero_le _⟩ hP hD hS hA [0] [1, 2] [2, 0, 1] rfl rfl rfl rfl rfl (by decide) rfl rfl rfl rfl rfl rfl hl.1 rfl rfl (Nat.le_of_ble_eq_true rfl) dX11_lose_21 rfl (fun H locs hP hD hS => ?_)
      obtain ⟨e1, e2, e3⟩ := ti3 hf
      subst e1; subst e2; subst e3
      exact kretM C hP hD hS dX11_lose_24
  · have hf := kpos hc hf
    refine lv_bipush (v := (-2)) hx hb dX11_lose_7 (by decide) ?_
    obtain ⟨e1, e2, e3⟩ := ti3 hf
    subst e1; subst e2; subst e3
    exact kretM C hP hD hS dX11_lose_9
def RM_Mo_lacks : Room := { frames := 1, cells := 0, slots := 0, locals := 25 }
set_option maxHeartbeats 4000000 in
set_option maxRecDepth 100000 in
theorem c_Mo_lacks (l : Launch) (D : va_G) (ct : Nat → ClassId) (a_this a_forms a_sizes a_items a_moved a_bytes a_typed a_chances a_longs a_letters a_isThere a_pieceLongs a_pieceLetters a_song a_settings a_guess a_row a_least a_nights : Nat) (f_at : Int32) (f_names : Int32) (f_pieces : Int32) (f_songLong : Int32) (f_guesses : Int32) (f_todo : Int32) (f_forms : Nat → Int32) (f_sizes : Nat → Int32) (f_latest : Int32) (x1 : Int32) (x2 : Int32) (x3 : Int32) (r : Int32) (r_latest : Int32) (sz : Nat) (hf : Mo_lacks f_forms f_sizes f_latest x1 x2 x3 = some (r, r_latest)) : Met l yX11_lacks (WS yX11_lacks cX11_lacks 4 (some .int)) RM_Mo_lacks (va_Pc [.ref a_this, .int x1, .int x2, .int x3] (PM D ct sz (w_Mo_lacks ct a_this a_forms a_sizes a_items a_moved a_bytes a_typed a_chances a_longs a_letters a_isThere a_pieceLongs a_pieceLetters a_song a_settings a_guess a_row a_least a_nights f_latest f_at f_names f_pieces f_songLong f_guesses f_todo f_forms f_sizes))) (QM D (some (.int r)) (w_Mo_lacks ct a_this a_forms a_sizes a_items a_moved a_bytes a_typed a_chances a_longs a_letters a_isThere a_pieceLongs a_pieceLetters a_song a_settings a_guess a_row a_least a_nights r_latest f_at f_names f_pieces f_songLong f_guesses f_todo f_forms f_sizes) (va_A (w_Mo_lacks ct a_this a_forms a_sizes a_items a_moved a_bytes a_typed a_chances a_longs a_letters a_isThere a_pieceLongs a_pieceLetters a_song a_settings a_guess a_row a_least a_nights f_latest f_at f_names f_pieces f_songLong f_guesses f_todo f_forms f_sizes) sz)) 0 0 (va_A (w_Mo_lacks ct a_this a_forms a_sizes a_items a_moved a_bytes a_typed a_chances a_longs a_letters a_isThere a_pieceLongs a_pieceLetters a_song a_settings a_guess a_row a_least a_nights f_latest f_at f_names f_pieces f_songLong f_guesses f_todo f_forms f_sizes) sz) := by
  refine kMetM yn_yX11_lacks rfl (Nat.le_of_ble_eq_true rfl) ?_
  intro p e s m args below meth c A C hA hP hD ls hl
  have hl : lv_has ls 4 [(0, .ref a_this), (1, .int x1), (2, .int x2), (3, .int x3)] := hl
  have hS : va_S A s.heap s.heap [] := va_S.rf
  obtain ⟨hx, hb, hr, hml, hown, hts, hlk, hK, hN⟩ := id C
  unfold Mo_lacks at hf
  refine lv_aload_n hx hb dX11_lacks_0 rfl (lv_at hl 0 rfl) ?_
  refine va_get (ci := 11) (v := .ref a_forms) (C := RX11) (T := TX11) (N := 25) hx hb hts inX11 hown hK hP 0 rfl rfl 0 (by decide) (hts _ tw_945) (fun _ h9 => h9) rfl dX11_lacks_1 ?_
  refine lv_iload_n hx hb dX11_lacks_4 rfl (lv_at hl 1 rfl) ?_
  obtain ⟨hin, hf⟩ := rd_some hf
  generalize ev5 : f_forms (Int32.toNatClampNeg x1) = v5 at hf
  refine kiald hx hb hK hP 1 0 rfl rfl hin ev5 dX11_lacks_5 ?_
  refine lv_if_ge (tgt := 15) hx hb dX11_lacks_6 (by decide) (fun hc => ?_) (fun hc => ?_)
  · have hf := kpos hc hf
    refine lv_aload_n hx hb dX11_lacks_15 rfl (lv_at hl 0 rfl) ?_
    refine va_get (ci := 11) (v := .ref a_forms) (C := RX11) (T := TX11) (N := 25) hx hb hts inX11 hown hK hP 0 rfl rfl 0 (by decide) (hts _ tw_945) (fun _ h9 => h9) rfl dX11_lacks_16 ?_
    refine lv_iload_n hx hb dX11_lacks_19 rfl (lv_at hl 1 rfl) ?_
    obtain ⟨hin, hf⟩ := rd_some hf
    generalize ev20 : f_forms (Int32.toNatClampNeg x1) = v20 at hf
    refine kiald hx hb hK hP 1 0 rfl rfl hin ev20 dX11_lacks_20 ?_
    refine lv_iload_n hx hb dX11_lacks_21 rfl (lv_at hl 2 rfl) ?_
    refine lv_icmp_eq (tgt := 31) hx hb dX11_lacks_22 (by decide) (fun hc => ?_) (fun hc => ?_)
    · have hf := kpos hc hf
      refine lv_iload_n hx hb dX11_lacks_31 rfl (lv_at hl 3 rfl) ?_
      refine lv_i2l (v := Int32.toInt64 x3) hx hb dX11_lacks_32 rfl ?_
      refine lv_lconst (v := 0) hx hb dX11_lacks_33 (by decide) ?_
      refine lv_aload_n hx hb dX11_lacks_34 rfl (lv_at hl 0 rfl) ?_
      refine va_get (ci := 11) (v := .ref a_sizes) (C := RX11) (T := TX11) (N := 25) hx hb hts inX11 hown hK hP 0 rfl rfl 1 (by decide) (hts _ tw_946) (fun _ h9 => h9) rfl dX11_lacks_35 ?_
      refine lv_iload_n hx hb dX11_lacks_38 rfl (lv_at hl 1 rfl) ?_
      obtain ⟨hin, hf⟩ := rd_some hf
      generalize ev39 : f_sizes (Int32.toNatClampNeg x1) = v39 at hf
      refine kiald hx hb hK hP 2 0 rfl rfl hin ev39 dX11_lacks_39 ?_
      refine lv_iconst (v := 1) hx hb dX11_lacks_40 (by decide) ?_
      refine lv_isub hx hb dX11_lacks_41 ?_
      refine lv_i2l (v := Int32.toInt64 (v39 - 1)) hx hb dX11_lacks_42 rfl ?_
      obtain ⟨v43, hc43, hf⟩ := cb1_some hf
      refine kcRS (As := [.long (Int32.toInt64 x3), .long 0, .long (Int32.toInt64 (v39 - 1))]) (rest := []) (st1 := [.int v43]) C (c_Mo_in l D ct (Int32.toInt64 x3) 0 (Int32.toInt64 (v39 - 1)) v43 hc43) ⟨rfl, rfl⟩ yn_yX11_in tw_1031 tw_1030 ⟨Nat.le_of_ble_eq_true rfl, Nat.le_of_ble_eq_true rfl⟩ ⟨Nat.zero_le _, Nat.zero_le _⟩ hP [] rfl hl.1 rfl rfl (Nat.le_of_ble_eq_true rfl) dX11_lacks_43 rfl ?_
      refine lv_if_eq (tgt := 53) hx hb dX11_lacks_46 (by decide) (fun hc => ?_) (fun hc => ?_)
      · have hf := kpos hc hf
        refine lv_aload_n hx hb dX11_lacks_53 rfl (lv_at hl 0 rfl) ?_
        refine lv_iconst (v := 2) hx hb dX11_lacks_54 (by decide) ?_
        obtain ⟨v55, f_latest_55, hc55, hf⟩ := cb2_some hf
        refine kcMV (q0 := 0) (ci := 11) (As := [.int 2]) (rest := []) (st1 := [.int v55]) (wf := (w_Mo_lacks ct a_this a_forms a_sizes a_items a_moved a_bytes a_typed a_chances a_longs a_letters a_isThere a_pieceLongs a_pieceLetters a_song a_settings a_guess a_row a_least a_nights f_latest_55 f_at f_names f_pieces f_songLong f_guesses f_todo f_forms f_sizes)) C (c_Mo_met l D ct a_this a_forms a_sizes a_items a_moved a_bytes a_typed a_chances a_longs a_letters a_isThere a_pieceLongs a_pieceLetters a_song a_settings a_guess a_row a_least a_nights f_at f_names f_pieces f_songLong f_guesses f_todo f_latest 2 v55 f_latest_55 _ hc55) ⟨rfl, rfl⟩ yn_yX11_met tw_1036 tw_26 tw_1034 ⟨Nat.le_of_ble_eq_true rfl, Nat.le_of_ble_eq_true rfl⟩ ⟨Nat.zero_le _, Nat.zero_le _⟩ hP hD hS hA [0] [1, 2] [2, 0, 1] rfl rfl rfl rfl rfl (by decide) rfl rfl rfl rfl rfl rfl hl.1 rfl rfl (Nat.le_of_ble_eq_true rfl) dX11_lacks_55 rfl (fun H locs hP hD hS => ?_)
        obtain ⟨e1, e2⟩ := ti2 hf
        subst e1; subst e2
        exact kretM C hP hD hS dX11_lacks_58
      · have hf := kneg hc hf
        refine lv_iconst (v := 0) hx hb dX11_lacks_49 (by decide) ?_
        refine lv_goto (tgt := 58) hx hb dX11_lacks_50 (by decide) ?_
        obtain ⟨e1, e2⟩ := ti2 hf
        subst e1; subst e2
        exact kretM C hP hD hS dX11_lacks_58
    · have hf := kneg hc hf
      refine lv_aload_n hx hb dX11_lacks_25 rfl (lv_at hl 0 rfl) ?_
      refine lv_iconst (v := 3) hx hb dX11_lacks_26 (by decide) ?_
      obtain ⟨v27, f_latest_27, hc27, hf⟩ := cb2_some hf
      refine kcMV (q0 := 0) (ci := 11) (As := [.int 3]) (rest := []) (st1 := [.int v27]) (wf := (w_Mo_lacks ct a_this a_forms a_sizes a_items a_moved a_bytes a_typed a_chances a_longs a_letters a_isThere a_pieceLongs a_pieceLetters a_song a_settings a_guess a_row a_least a_nights f_latest_27 f_at f_names f_pieces f_songLong f_guesses f_todo f_forms f_sizes)) C (c_Mo_met l D ct a_this a_forms a_sizes a_items a_moved a_bytes a_typed a_chances a_longs a_letters a_isThere a_pieceLongs a_pieceLetters a_song a_settings a_guess a_row a_least a_nights f_at f_names f_pieces f_songLong f_guesses f_todo f_latest 3 v27 f_latest_27 _ hc27) ⟨rfl, rfl⟩ yn_yX11_met tw_1036 tw_26 tw_1034 ⟨Nat.le_of_ble_eq_true rfl, Nat.le_of_ble_eq_true rfl⟩ ⟨Nat.zero_le _, Nat.zero_le _⟩ hP hD hS hA [0] [1, 2] [2, 0, 1] rfl rfl rfl rfl rfl (by decide) rfl rfl rfl rfl rfl rfl hl.1 rfl rfl (Nat.le_of_ble_eq_true rfl) dX11_lacks_27 rfl (fun H locs hP hD hS => ?_)
      obtain ⟨e1, e2⟩ := ti2 hf
      subst e1; subst e2
      exact kretM C hP hD hS dX11_lacks_30
  · have hf := kneg hc hf
    refine lv_aload_n hx hb dX11_lacks_9 rfl (lv_at hl 0 rfl) ?_
    refine lv_iconst (v := 1) hx hb dX11_lacks_10 (by decide) ?_
    obtain ⟨v11, f_latest_11, hc11, hf⟩ := cb2_some hf
    refine kcMV (q0 := 0) (ci := 11) (As := [.int 1]) (rest := []) (st1 := [.int v11]) (wf := (w_Mo_lacks ct a_this a_forms a_sizes a_items a_moved a_bytes a_typed a_chances a_longs a_letters a_isThere a_pieceLongs a_pieceLetters a_song a_settings a_guess a_row a_least a_nights f_latest_11 f_at f_names f_pieces f_songLong f_guesses f_todo f_forms f_sizes)) C (c_Mo_met l D ct a_this a_forms a_sizes a_items a_moved a_bytes a_typed a_chances a_longs a_letters a_isThere a_pieceLongs a_pieceLetters a_song a_settings a_guess a_row a_least a_nights f_at f_names f_pieces f_songLong f_guesses f_todo f_latest 1 v11 f_latest_11 _ hc11) ⟨rfl, rfl⟩ yn_yX11_met tw_1036 tw_26 tw_1034 ⟨Nat.le_of_ble_eq_true rfl, Nat.le_of_ble_eq_true rfl⟩ ⟨Nat.zero_le _, Nat.zero_le _⟩ hP hD hS hA [0] [1, 2] [2, 0, 1] rfl rfl rfl rfl rfl (by decide) rfl rfl rfl rfl rfl rfl hl.1 rfl rfl (Nat.le_of_ble_eq_true rfl) dX11_lacks_11 rfl (fun H locs hP hD hS => ?_)
    obtain ⟨e1, e2⟩ := ti2 hf
    subst e1; subst e2
    exact kretM C hP hD hS dX11_lacks_14
def RM_Mo_cut : Room := { frames := 0, cells := 0, slots := 0, locals := 0 }
set_option maxHeartbeats 4000000 in
set_option maxRecDepth 100000 in
theorem c_Mo_cut (l : Launch) (D : va_G) (ct : Nat → ClassId) (x0 : Int32) (x1 : Int32) (r : Int32) (hf : Mo_cut x0 x1 = some r) : Met l yX11_cut (WS yX11_cut cX11_cut 2 (some .int)) RM_Mo_cut (va_Pc [.int x0, .int x1] (PR D ct (w_Mo_cut ct))) (QR (some (.int r))) 0 0 (fun _ => False) := by
  refine kMetR yn_yX11_cut rfl (Nat.le_of_ble_eq_true rfl) ?_
  intro p e s m args below meth c C hP ls hl
  have hl : lv_has ls 2 [(0, .int x0), (1, .int x1)] := hl
  obtain ⟨hx, hb, hr, hml, hown, hts, hlk, hK, hN⟩ := id C
  unfold Mo_cut at hf
  refine lv_iload_n hx hb dX11_cut_0 rfl (lv_at hl 0 rfl) ?_
  refine lv_if_ne (tgt := 9) hx hb dX11_cut_1 (by decide) (fun hc => ?_) (fun hc => ?_)
  · have hf := kneg hc hf
    refine lv_iload_n hx hb dX11_cut_9 rfl (lv_at hl 0 rfl) ?_
    refine lv_iconst (v := 1) hx hb dX11_cut_10 (by decide) ?_
    refine lv_icmp_ne (tgt := 19) hx hb dX11_cut_11 (by decide) (fun hc => ?_) (fun hc => ?_)
    · have hf := kneg hc hf
      refine lv_iload_n hx hb dX11_cut_19 rfl (lv_at hl 1 rfl) ?_
      have e1 := Option.some.inj hf
      subst e1
      exact kretR C dX11_cut_20
    · have hf := kpos hc hf
      refine lv_iload_n hx hb dX11_cut_14 rfl (lv_at hl 1 rfl) ?_
      refine lv_i2s (v := (Int32.toInt16 x1).toInt32) hx hb dX11_cut_15 rfl ?_
      refine lv_goto (tgt := 20) hx hb dX11_cut_16 (by decide) ?_
      have e1 := Option.some.inj hf
      subst e1
      exact kretR C dX11_cut_20
  · have hf := kpos hc hf
    refine lv_iload_n hx hb dX11_cut_4 rfl (lv_at hl 1 rfl) ?_
    refine lv_i2b (v := (Int32.toInt8 x1).toInt32) hx hb dX11_cut_5 rfl ?_
    refine lv_goto (tgt := 20) hx hb dX11_cut_6 (by decide) ?_
    have e1 := Option.some.inj hf
    subst e1
    exact kretR C dX11_cut_20
def RM_Mo_lay : Room := { frames := 2, cells := 0, slots := 0, locals := 48 }
set_option maxHeartbeats 4000000 in
set_option maxRecDepth 100000 in
theorem c_Mo_lay (l : Launch) (D : va_G) (ct : Nat → ClassId) (a_this a_forms a_sizes a_items a_moved a_bytes a_typed a_chances a_longs a_letters a_isThere a_pieceLongs a_pieceLetters a_song a_settings a_guess a_row a_least a_nights : Nat) (f_at : Int32) (f_names : Int32) (f_pieces : Int32) (f_songLong : Int32) (f_guesses : Int32) (f_todo : Int32) (f_forms : Nat → Int32) (f_sizes : Nat → Int32) (f_latest : Int32) (f_items : Nat → Int32) (x1 : Int32) (x2 : Int32) (x3 : Int32) (x4 : Int32) (r : Int32) (r_latest : Int32) (r_items : Nat → Int32) (sz : Nat) (hf : Mo_lay f_forms f_sizes f_latest f_items x1 x2 x3 x4 = some (r, r_latest, r_items)) : Met l yX11_lay (WS yX11_lay cX11_lay 6 (some .int)) RM_Mo_lay (va_Pc [.ref a_this, .int x1, .int x2, .int x3, .int x4] (PM D ct sz (w_Mo_lay ct a_this a_forms a_sizes a_items a_moved a_bytes a_typed a_chances a_longs a_letters a_isThere a_pieceLongs a_pieceLetters a_song a_settings a_guess a_row a_least a_nights f_latest f_at f_names f_pieces f_songLong f_guesses f_todo f_forms f_sizes f_items))) (QM D (some (.int r)) (w_Mo_lay ct a_this a_forms a_sizes a_items a_moved a_bytes a_typed a_chances a_longs a_letters a_isThere a_pieceLongs a_pieceLetters a_song a_settings a_guess a_row a_least a_nights r_latest f_at f_names f_pieces f_songLong f_guesses f_todo f_forms f_sizes r_items) (va_A (w_Mo_lay ct a_this a_forms a_sizes a_items a_moved a_bytes a_typed a_chances a_longs a_letters a_isThere a_pieceLongs a_pieceLetters a_song a_settings a_guess a_row a_least a_nights f_latest f_at f_names f_pieces f_songLong f_guesses f_todo f_forms f_sizes f_items) sz)) 0 0 (va_A (w_Mo_lay ct a_this a_forms a_sizes a_items a_moved a_bytes a_typed a_chances a_longs a_letters a_isThere a_pieceLongs a_pieceLetters a_song a_settings a_guess a_row a_least a_nights f_latest f_at f_names f_pieces f_songLong f_guesses f_todo f_forms f_sizes f_items) sz) := by
  refine kMetM yn_yX11_lay rfl (Nat.le_of_ble_eq_true rfl) ?_
  intro p e s m args below meth c A C hA hP hD ls hl
  have hl : lv_has ls 6 [(0, .ref a_this), (1, .int x1), (2, .int x2), (3, .int x3), (4, .int x4)] := hl
  have hS : va_S A s.heap s.heap [] := va_S.rf
  obtain ⟨hx, hb, hr, hml, hown, hts, hlk, hK, hN⟩ := id C
  unfold Mo_lay at hf
  refine lv_iload_n hx hb dX11_lay_0 rfl (lv_at hl 1 rfl) ?_
  obtain ⟨v1, hc1, hf⟩ := cb1_some hf
  refine kcRS (As := [.int x1]) (rest := []) (st1 := [.int v1]) C (c_Mo_isSheet l D ct x1 v1 hc1) ⟨rfl, rfl⟩ yn_yX11_isSheet tw_1027 tw_1026 ⟨Nat.le_of_ble_eq_true rfl, Nat.le_of_ble_eq_true rfl⟩ ⟨Nat.zero_le _, Nat.zero_le _⟩ hP [] rfl hl.1 rfl rfl (Nat.le_of_ble_eq_true rfl) dX11_lay_1 rfl ?_
  refine lv_if_eq (tgt := 19) hx hb dX11_lay_4 (by decide) (fun hc => ?_) (fun hc => ?_)
  · have hf := kpos hc hf
    refine lv_bipush (v := (-2)) hx hb dX11_lay_19 (by decide) ?_
    obtain ⟨e1, e2, e3⟩ := ti3 hf
    subst e1; subst e2; subst e3
    exact kretM C hP hD hS dX11_lay_21
  · have hf := kneg hc hf
    refine lv_iload_n hx hb dX11_lay_7 rfl (lv_at hl 2 rfl) ?_
    refine lv_i2l (v := Int32.toInt64 x2) hx hb dX11_lay_8 rfl ?_
    refine lv_lconst (v := 0) hx hb dX11_lay_9 (by decide) ?_
    refine lv_ldc2 (v := 2) hx hb hown (hts _ tw_1033) dX11_lay_10 ?_
    obtain ⟨v13, hc13, hf⟩ := cb1_some hf
    refine kcRS (As := [.long (Int32.toInt64 x2), .long 0, .long 2]) (rest := []) (st1 := [.int v13]) C (c_Mo_in l D ct (Int32.toInt64 x2) 0 2 v13 hc13) ⟨rfl, rfl⟩ yn_yX11_in tw_1031 tw_1030 ⟨Nat.le_of_ble_eq_true rfl, Nat.le_of_ble_eq_true rfl⟩ ⟨Nat.zero_le _, Nat.zero_le _⟩ hP [] rfl hl.1 rfl rfl (Nat.le_of_ble_eq_true rfl) dX11_lay_13 rfl ?_
    refine lv_if_ne (tgt := 22) hx hb dX11_lay_16 (by decide) (fun hc => ?_) (fun hc => ?_)
    · have hf := kneg hc hf
      refine lv_aload_n hx hb dX11_lay_22 rfl (lv_at hl 0 rfl) ?_
      refine lv_iload_n hx hb dX11_lay_23 rfl (lv_at hl 1 rfl) ?_
      refine lv_iload_n hx hb dX11_lay_24 rfl (lv_at hl 2 rfl) ?_
      refine lv_iload_n hx hb dX11_lay_25 rfl (lv_at hl 3 rfl) ?_
      obtain ⟨v26, f_latest_26, hc26, hf⟩ := cb2_some hf
      refine kcMV (q0 := 0) (ci := 11) (As := [.int x1, .int x2, .int x3]) (rest := []) (st1 := [.int v26]) (wf := (w_Mo_lay ct a_this a_forms a_sizes a_items a_moved a_bytes a_typed a_chances a_longs a_letters a_isThere a_pieceLongs a_pieceLetters a_song a_settings a_guess a_row a_least a_nights f_latest_26 f_at f_names f_pieces f_songLong f_guesses f_todo f_forms f_sizes f_items)) C (c_Mo_lacks l D ct a_this a_forms a_sizes a_items a_moved a_bytes a_typed a_chances a_longs a_letters a_isThere a_pieceLongs a_pieceLetters a_song a_settings a_guess a_row a_least a_nights f_at f_names f_pieces f_songLong f_guesses f_todo f_forms f_sizes f_latest x1 x2 x3 v26 f_latest_26 _ hc26) ⟨rfl, rfl⟩ yn_yX11_lacks tw_1048 tw_27 tw_1046 ⟨Nat.le_of_ble_eq_true rfl, Nat.le_of_ble_eq_true rfl⟩ ⟨Nat.zero_le _, Nat.zero_le _⟩ hP hD hS hA [0, 1, 2] [3] [1, 2, 3, 0] rfl rfl rfl rfl rfl (by decide) rfl rfl rfl rfl rfl rfl hl.1 rfl rfl (Nat.le_of_ble_eq_true rfl) dX11_lay_26 rfl (fun H locs hP hD hS => ?_)
      refine lv_istore (lv' := [(5, .int v26), (0, .ref a_this), (1, .int x1), (2, .int x2), (3, .int x3), (4, .int x4)]) hx hb dX11_lay_29 hl (by decide) rfl (fun ls hl => ?_)
      refine lv_iload hx hb dX11_lay_31 (lv_at hl 0 rfl) ?_
      refine lv_if_eq (tgt := 39) hx hb dX11_lay_33 (by decide) (fun hc => ?_) (fun hc => ?_)
      · have hf := kpos hc hf
        refine lv_aload_n hx hb dX11_lay_39 rfl (lv_at hl 1 rfl) ?_
        refine va_get (ci := 11) (v := .ref a_items) (C := RX11) (T := TX11) (N := 25) hx hb hts inX11 hown hK hP 0 rfl rfl 2 (by decide) (hts _ tw_947) (fun _ h9 => h9) rfl dX11_lay_40 ?_
        refine lv_bipush (v := 60) hx hb dX11_lay_43 (by decide) ?_
        refine lv_iload_n hx hb dX11_lay_45 rfl (lv_at hl 2 rfl) ?_
        refine lv_imul hx hb dX11_lay_46 ?_
        refine lv_iload_n hx hb dX11_lay_47 rfl (lv_at hl 4 rfl) ?_
        refine lv_iadd hx hb dX11_lay_48 ?_
        refine lv_iload_n hx hb dX11_lay_49 rfl (lv_at hl 3 rfl) ?_
        refine lv_iload hx hb dX11_lay_50 (lv_at hl 5 rfl) ?_
        obtain ⟨v52, hc52, hf⟩ := cb1_some hf
        refine kcRS (As := [.int x2, .int x4]) (rest := [.int ((60 * x1) + x3), .ref a_items]) (st1 := [.int v52, .int ((60 * x1) + x3), .ref a_items]) C (c_Mo_cut l D ct x2 x4 v52 hc52) ⟨rfl, rfl⟩ yn_yX11_cut tw_1051 tw_1050 ⟨Nat.le_of_ble_eq_true rfl, Nat.le_of_ble_eq_true rfl⟩ ⟨Nat.zero_le _, Nat.zero_le _⟩ hP [] rfl hl.1 rfl rfl (Nat.le_of_ble_eq_true rfl) dX11_lay_52 rfl ?_
        obtain ⟨hin, f_items_55, ev55, hf⟩ := wr_ex hf
        refine kiast hx hb hK hP hD hS 3 0 rfl rfl hin ev55 dX11_lay_55 (fun H locs hP hD hS => ?_)
        have hP : va_P D vwCl (w_Mo_lay ct a_this a_forms a_sizes a_items a_moved a_bytes a_typed a_chances a_longs a_letters a_isThere a_pieceLongs a_pieceLetters a_song a_settings a_guess a_row a_least a_nights f_latest_26 f_at f_names f_pieces f_songLong f_guesses f_todo f_forms f_sizes f_items_55) H := hP
        have hD : va_D A (w_Mo_lay ct a_this a_forms a_sizes a_items a_moved a_bytes a_typed a_chances a_longs a_letters a_isThere a_pieceLongs a_pieceLetters a_song a_settings a_guess a_row a_least a_nights f_latest_26 f_at f_names f_pieces f_songLong f_guesses f_todo f_forms f_sizes f_items_55) := hD
        refine lv_iconst (v := 1) hx hb dX11_lay_56 (by decide) ?_
        obtain ⟨e1, e2, e3⟩ := ti3 hf
        subst e1; subst e2; subst e3
        exact kretM C hP hD hS dX11_lay_57
      · have hf := kneg hc hf
        refine lv_iload hx hb dX11_lay_36 (lv_at hl 0 rfl) ?_
        obtain ⟨e1, e2, e3⟩ := ti3 hf
        subst e1; subst e2; subst e3
        exact kretM C hP hD hS dX11_lay_38
    · have hf := kpos hc hf
      refine lv_bipush (v := (-2)) hx hb dX11_lay_19 (by decide) ?_
      obtain ⟨e1, e2, e3⟩ := ti3 hf
      subst e1; subst e2; subst e3
      exact kretM C hP hD hS dX11_lay_21
def RM_Mo_get : Room := { frames := 2, cells := 0, slots := 0, locals := 48 }
set_option maxHeartbeats 4000000 in
set_option maxRecDepth 100000 in
theorem t_Mo_get_b29 {p : Program} {l : Launch} {e : Env} {s : State} {m : MethodId} {args : Array Value} {below : List Frame} {meth : Method} {c : Code} {D : va_G} {ct : Nat → ClassId} (C : CX p s m args meth c RX11 cX11_get 4 (some .int) D ct) {A : Nat → Prop} (hA : ∀ q : Nat, s.heap.size ≤ q → A q) (a_this a_forms a_sizes a_items a_moved a_bytes a_typed a_chances a_longs a_letters a_isThere a_pieceLongs a_pieceLetters a_song a_settings a_guess a_row a_least a_nights : Nat) (f_at : Int32) (f_names : Int32) (f_pieces : Int32) (f_songLong : Int32) (f_guesses : Int32) (f_todo : Int32) (f_forms : Nat → Int32) (f_sizes : Nat → Int32) (f_items : Nat → Int32) (x1 : Int32) (x2 : Int32) (x3 : Int32) (r : Int32) (r_latest : Int32) : ∀ (f_latest : Int32), Mo_get_b29 f_forms f_sizes f_items x1 x2 x3 f_latest = some (r, r_latest) → ∀ (H : Heap) (locs : List Loc), va_P D vwCl (w_Mo_get ct a_this a_forms a_sizes a_items a_moved a_bytes a_typed a_chances a_longs a_letters a_isThere a_pieceLongs a_pieceLetters a_song a_settings a_guess a_row a_least a_nights f_latest f_at f_names f_pieces f_songLong f_guesses f_todo f_forms f_sizes f_items) H → va_D A (w_Mo_get ct a_this a_forms a_sizes a_items a_moved a_bytes a_typed a_chances a_longs a_letters a_isThere a_pieceLongs a_pieceLetters a_song a_settings a_guess a_row a_least a_nights f_latest f_at f_names f_pieces f_songLong f_guesses f_todo f_forms f_sizes f_items) → va_S A s.heap H locs → ∀ ls : Array Slot, lv_has ls 4 [] → W p l e RM_Mo_get s m args below meth c H locs 0 0 (MQ below (QM D (some (.int r)) (w_Mo_get ct a_this a_forms a_sizes a_items a_moved a_bytes a_typed a_chances a_longs a_letters a_isThere a_pieceLongs a_pieceLetters a_song a_settings a_guess a_row a_least a_nights r_latest f_at f_names f_pieces f_songLong f_guesses f_todo f_forms f_sizes f_items) A) args s 0 0 A) (F0 m 29 ls []) := by
  obtain ⟨hx, hb, hr, hml, hown, hts, hlk, hK, hN⟩ := id C
  intro f_latest hf H locs hP hD hS ls hl
  unfold Mo_get_b29 at hf
  refine lv_ldc (v := (-2147483648)) hx hb hown (hts _ tw_1057) dX11_get_29 ?_
  obtain ⟨e1, e2⟩ := ti2 hf
  subst e1; subst e2
  exact kretM C hP hD hS dX11_get_31
set_option maxHeartbeats 4000000 in
set_option maxRecDepth 100000 in
theorem c_Mo_get (l : Launch) (D : va_G) (ct : Nat → ClassId) (a_this a_forms a_sizes a_items a_moved a_bytes a_typed a_chances a_longs a_letters a_isThere a_pieceLongs a_pieceLetters a_song a_settings a_guess a_row a_least a_nights : Nat) (f_at : Int32) (f_names : Int32) (f_pieces : Int32) (f_songLong : Int32) (f_guesses : Int32) (f_todo : Int32) (f_forms : Nat → Int32) (f_sizes : Nat → Int32) (f_items : Nat → Int32) (f_latest : Int32) (x1 : Int32) (x2 : Int32) (x3 : Int32) (r : Int32) (r_latest : Int32) (sz : Nat) (hf : Mo_get f_forms f_sizes f_items f_latest x1 x2 x3 = some (r, r_latest)) : Met l yX11_get (WS yX11_get cX11_get 4 (some .int)) RM_Mo_get (va_Pc [.ref a_this, .int x1, .int x2, .int x3] (PM D ct sz (w_Mo_get ct a_this a_forms a_sizes a_items a_moved a_bytes a_typed a_chances a_longs a_letters a_isThere a_pieceLongs a_pieceLetters a_song a_settings a_guess a_row a_least a_nights f_latest f_at f_names f_pieces f_songLong f_guesses f_todo f_forms f_sizes f_items))) (QM D (some (.int r)) (w_Mo_get ct a_this a_forms a_sizes a_items a_moved a_bytes a_typed a_chances a_longs a_letters a_isThere a_pieceLongs a_pieceLetters a_song a_settings a_guess a_row a_least a_nights r_latest f_at f_names f_pieces f_songLong f_guesses f_todo f_forms f_sizes f_items) (va_A (w_Mo_get ct a_this a_forms a_sizes a_items a_moved a_bytes a_typed a_chances a_longs a_letters a_isThere a_pieceLongs a_pieceLetters a_song a_settings a_guess a_row a_least a_nights f_latest f_at f_names f_pieces f_songLong f_guesses f_todo f_forms f_sizes f_items) sz)) 0 0 (va_A (w_Mo_get ct a_this a_forms a_sizes a_items a_moved a_bytes a_typed a_chances a_longs a_letters a_isThere a_pieceLongs a_pieceLetters a_song a_settings a_guess a_row a_least a_nights f_latest f_at f_names f_pieces f_songLong f_guesses f_todo f_forms f_sizes f_items) sz) := by
  refine kMetM yn_yX11_get rfl (Nat.le_of_ble_eq_true rfl) ?_
  intro p e s m args below meth c A C hA hP hD ls hl
  have hl : lv_has ls 4 [(0, .ref a_this), (1, .int x1), (2, .int x2), (3, .int x3)] := hl
  have hS : va_S A s.heap s.heap [] := va_S.rf
  obtain ⟨hx, hb, hr, hml, hown, hts, hlk, hK, hN⟩ := id C
  unfold Mo_get at hf
  refine lv_iload_n hx hb dX11_get_0 rfl (lv_at hl 1 rfl) ?_
  obtain ⟨v1, hc1, hf⟩ := cb1_some hf
  refine kcRS (As := [.int x1]) (rest := []) (st1 := [.int v1]) C (c_Mo_isSheet l D ct x1 v1 hc1) ⟨rfl, rfl⟩ yn_yX11_isSheet tw_1027 tw_1026 ⟨Nat.le_of_ble_eq_true rfl, Nat.le_of_ble_eq_true rfl⟩ ⟨Nat.zero_le _, Nat.zero_le _⟩ hP [] rfl hl.1 rfl rfl (Nat.le_of_ble_eq_true rfl) dX11_get_1 rfl ?_
  refine lv_if_eq (tgt := 29) hx hb dX11_get_4 (by decide) (fun hc => ?_) (fun hc => ?_)
  · have hf := kpos hc hf
    exact t_Mo_get_b29 C hA a_this a_forms a_sizes a_items a_moved a_bytes a_typed a_chances a_longs a_letters a_isThere a_pieceLongs a_pieceLetters a_song a_settings a_guess a_row a_least a_nights f_at f_names f_pieces f_songLong f_guesses f_todo f_forms f_sizes f_items x1 x2 x3 r r_latest f_latest hf _ _ hP hD hS _ (lv_sub hl [] rfl)
  · have hf := kneg hc hf
    refine lv_iload_n hx hb dX11_get_7 rfl (lv_at hl 2 rfl) ?_
    refine lv_i2l (v := Int32.toInt64 x2) hx hb dX11_get_8 rfl ?_
    refine lv_lconst (v := 0) hx hb dX11_get_9 (by decide) ?_
    refine lv_ldc2 (v := 2) hx hb hown (hts _ tw_1033) dX11_get_10 ?_
    obtain ⟨v13, hc13, hf⟩ := cb1_some hf
    refine kcRS (As := [.long (Int32.toInt64 x2), .long 0, .long 2]) (rest := []) (st1 := [.int v13]) C (c_Mo_in l D ct (Int32.toInt64 x2) 0 2 v13 hc13) ⟨rfl, rfl⟩ yn_yX11_in tw_1031 tw_1030 ⟨Nat.le_of_ble_eq_true rfl, Nat.le_of_ble_eq_true rfl⟩ ⟨Nat.zero_le _, Nat.zero_le _⟩ hP [] rfl hl.1 rfl rfl (Nat.le_of_ble_eq_true rfl) dX11_get_13 rfl ?_
    refine lv_if_eq (tgt := 29) hx hb dX11_get_16 (by decide) (fun hc => ?_) (fun hc => ?_)
    · have hf := kpos hc hf
      exact t_Mo_get_b29 C hA a_this a_forms a_sizes a_items a_moved a_bytes a_typed a_chances a_longs a_letters a_isThere a_pieceLongs a_pieceLetters a_song a_settings a_guess a_row a_least a_nights f_at f_names f_pieces f_songLong f_guesses f_todo f_forms f_sizes f_items x1 x2 x3 r r_latest f_latest hf _ _ hP hD hS _ (lv_sub hl [] rfl)
    · have hf := kneg hc hf
      refine lv_aload_n hx hb dX11_get_19 rfl (lv_at hl 0 rfl) ?_
      refine lv_iload_n hx hb dX11_get_20 rfl (lv_at hl 1 rfl) ?_
      refine lv_iload_n hx hb dX11_get_21 rfl (lv_at hl 2 rfl) ?_
      refine lv_iload_n hx hb dX11_get_22 rfl (lv_at hl 3 rfl) ?_
      obtain ⟨v23, f_latest_23, hc23, hf⟩ := cb2_some hf
      refine kcMV (q0 := 0) (ci := 11) (As := [.int x1, .int x2, .int x3]) (rest := []) (st1 := [.int v23]) (wf := (w_Mo_get ct a_this a_forms a_sizes a_items a_moved a_bytes a_typed a_chances a_longs a_letters a_isThere a_pieceLongs a_pieceLetters a_song a_settings a_guess a_row a_least a_nights f_latest_23 f_at f_names f_pieces f_songLong f_guesses f_todo f_forms f_sizes f_items)) C (c_Mo_lacks l D ct a_this a_forms a_sizes a_items a_moved a_bytes a_typed a_chances a_longs a_letters a_isThere a_pieceLongs a_pieceLetters a_song a_settings a_guess a_row a_least a_nights f_at f_names f_pieces f_songLong f_guesses f_todo f_forms f_sizes f_latest x1 x2 x3 v23 f_latest_23 _ hc23) ⟨rfl, rfl⟩ yn_yX11_lacks tw_1048 tw_27 tw_1046 ⟨Nat.le_of_ble_eq_true rfl, Nat.le_of_ble_eq_true rfl⟩ ⟨Nat.zero_le _, Nat.zero_le _⟩ hP hD hS hA [0, 1, 2] [3] [1, 2, 3, 0] rfl rfl rfl rfl rfl (by decide) rfl rfl rfl rfl rfl rfl hl.1 rfl rfl (Nat.le_of_ble_eq_true rfl) dX11_get_23 rfl (fun H locs hP hD hS => ?_)
      refine lv_if_eq (tgt := 32) hx hb dX11_get_26 (by decide) (fun hc => ?_) (fun hc => ?_)
      · have hf := kpos hc hf
        refine lv_aload_n hx hb dX11_get_32 rfl (lv_at hl 0 rfl) ?_
        refine va_get (ci := 11) (v := .ref a_items) (C := RX11) (T := TX11) (N := 25) hx hb hts inX11 hown hK hP 0 rfl rfl 2 (by decide) (hts _ tw_947) (fun _ h9 => h9) rfl dX11_get_33 ?_
        refine lv_bipush (v := 60) hx hb dX11_get_36 (by decide) ?_
        refine lv_iload_n hx hb dX11_get_38 rfl (lv_at hl 1 rfl) ?_
        refine lv_imul hx hb dX11_get_39 ?_
        refine lv_iload_n hx hb dX11_get_40 rfl (lv_at hl 3 rfl) ?_
        refine lv_iadd hx hb dX11_get_41 ?_
        obtain ⟨hin, hf⟩ := rd_some hf
        generalize ev42 : f_items (Int32.toNatClampNeg ((60 * x1) + x3)) = v42 at hf
        refine kiald hx hb hK hP 3 0 rfl rfl hin ev42 dX11_get_42 ?_
        obtain ⟨e1, e2⟩ := ti2 hf
        subst e1; subst e2
        exact kretM C hP hD hS dX11_get_43
      · have hf := kneg hc hf
        exact t_Mo_get_b29 C hA a_this a_forms a_sizes a_items a_moved a_bytes a_typed a_chances a_longs a_letters a_isThere a_pieceLongs a_pieceLetters a_song a_settings a_guess a_row a_least a_nights f_at f_names f_pieces f_songLong f_guesses f_todo f_forms f_sizes f_items x1 x2 x3 r r_latest f_latest_23 hf _ _ hP hD hS _ (lv_sub hl [] rfl)
def RM_Mo_copy : Room := { frames := 2, cells := 0, slots := 0, locals := 45 }
set_option maxHeartbeats 4000000 in
set_option maxRecDepth 100000 in
theorem t_Mo_copy_b157 {p : Program} {l : Launch} {e : Env} {s : State} {m : MethodId} {args : Array Value} {below : List Frame} {meth : Method} {c : Code} {D : va_G} {ct : Nat → ClassId} (C : CX p s m args meth c RX11 cX11_copy 7 (some .int) D ct) {A : Nat → Prop} (hA : ∀ q : Nat, s.heap.size ≤ q → A q) (a_this a_forms a_sizes a_items a_moved a_bytes a_typed a_chances a_longs a_letters a_isThere a_pieceLongs a_pieceLetters a_song a_settings a_guess a_row a_least a_nights : Nat) (f_at : Int32) (f_names : Int32) (f_pieces : Int32) (f_songLong : Int32) (f_guesses : Int32) (f_todo : Int32) (F : Nat) (f_forms : Nat → Int32) (f_sizes : Nat → Int32) (x1 : Int32) (x2 : Int32) (x3 : Int32) (x4 : Int32) (x5 : Int32) (r : Int32) (r_latest : Int32) (r_items : Nat → Int32) (r_moved : Nat → Int32) (rec157 : Int32 → Int32 → (Nat → Int32) → (Nat → Int32) → Option (Int32 × Int32 × (Nat → Int32) × (Nat → Int32))) (hr157 : ∀ (x6 : Int32) (f_latest : Int32) (f_items : Nat → Int32) (f_moved : Nat → Int32), rec157 x6 f_latest f_items f_moved = some (r, r_latest, r_items, r_moved) → ∀ (H : Heap) (locs : List Loc), va_P D vwCl (w_Mo_copy ct a_this a_forms a_sizes a_items a_moved a_bytes a_typed a_chances a_longs a_letters a_isThere a_pieceLongs a_pieceLetters a_song a_settings a_guess a_row a_least a_nights f_latest f_at f_names f_pieces f_songLong f_guesses f_todo f_forms f_sizes f_items f_moved) H → va_D A (w_Mo_copy ct a_this a_forms a_sizes a_items a_moved a_bytes a_typed a_chances a_longs a_letters a_isThere a_pieceLongs a_pieceLetters a_song a_settings a_guess a_row a_least a_nights f_latest f_at f_names f_pieces f_songLong f_guesses f_todo f_forms f_sizes f_items f_moved) → va_S A s.heap H locs → ∀ ls : Array Slot, lv_has ls 7 [(0, .ref a_this), (3, .int x3), (4, .int x4), (5, .int x5), (6, .int x6)] → W p l e RM_Mo_copy s m args below meth c H locs 0 0 (MQ below (QM D (some (.int r)) (w_Mo_copy ct a_this a_forms a_sizes a_items a_moved a_bytes a_typed a_chances a_longs a_letters a_isThere a_pieceLongs a_pieceLetters a_song a_settings a_guess a_row a_least a_nights r_latest f_at f_names f_pieces f_songLong f_guesses f_todo f_forms f_sizes r_items r_moved) A) args s 0 0 A) (F0 m 157 ls [])) : ∀ (x6 : Int32) (f_latest : Int32) (f_items : Nat → Int32) (f_moved : Nat → Int32), Mo_copy_b157 F f_forms f_sizes x1 x2 x3 x4 x5 rec157 x6 f_latest f_items f_moved = some (r, r_latest, r_items, r_moved) → ∀ (H : Heap) (locs : List Loc), va_P D vwCl (w_Mo_copy ct a_this a_forms a_sizes a_items a_moved a_bytes a_typed a_chances a_longs a_letters a_isThere a_pieceLongs a_pieceLetters a_song a_settings a_guess a_row a_least a_nights f_latest f_at f_names f_pieces f_songLong f_guesses f_todo f_forms f_sizes f_items f_moved) H → va_D A (w_Mo_copy ct a_this a_forms a_sizes a_items a_moved a_bytes a_typed a_chances a_longs a_letters a_isThere a_pieceLongs a_pieceLetters a_song a_settings a_guess a_row a_least a_nights f_latest f_at f_names f_pieces f_songLong f_guesses f_todo f_forms f_sizes f_items f_moved) → va_S A s.heap H locs → ∀ ls : Array Slot, lv_has ls 7 [(0, .ref a_this), (3, .int x3), (4, .int x4), (5, .int x5), (6, .int x6)] → W p l e RM_Mo_copy s m args below meth c H locs 0 0 (MQ below (QM D (some (.int r)) (w_Mo_copy ct a_this a_forms a_sizes a_items a_moved a_bytes a_typed a_chances a_longs a_letters a_isThere a_pieceLongs a_pieceLetters a_song a_settings a_guess a_row a_least a_nights r_latest f_at f_names f_pieces f_songLong f_guesses f_todo f_forms f_sizes r_items r_moved) A) args s 0 0 A) (F0 m 157 ls []) := by
  obtain ⟨hx, hb, hr, hml, hown, hts, hlk, hK, hN⟩ := id C
  intro x6 f_latest f_items f_moved hf H locs hP hD hS ls hl
  unfold Mo_copy_b157 at hf
  refine lv_iload hx hb dX11_copy_157 (lv_at hl 4 rfl) ?_
  refine lv_iload hx hb dX11_copy_159 (lv_at hl 3 rfl) ?_
  refine lv_icmp_ge (tgt := 192) hx hb dX11_copy_161 (by decide) (fun hc => ?_) (fun hc => ?_)
  · have hf := kpos hc hf
    refine lv_iconst (v := 1) hx hb dX11_copy_192 (by decide) ?_
    obtain ⟨e1, e2, e3, e4⟩ := ti4 hf
    subst e1; subst e2; subst e3; subst e4
    exact kretM C hP hD hS dX11_copy_193
  · have hf := kneg hc hf
    refine lv_aload_n hx hb dX11_copy_164 rfl (lv_at hl 0 rfl) ?_
    refine va_get (ci := 11) (v := .ref a_items) (C := RX11) (T := TX11) (N := 25) hx hb hts inX11 hown hK hP 0 rfl rfl 2 (by decide) (hts _ tw_947) (fun _ h9 => h9) rfl dX11_copy_165 ?_
    refine lv_bipush (v := 60) hx hb dX11_copy_168 (by decide) ?_
    refine lv_iload_n hx hb dX11_copy_170 rfl (lv_at hl 1 rfl) ?_
    refine lv_imul hx hb dX11_copy_171 ?_
    refine lv_iload hx hb dX11_copy_172 (lv_at hl 2 rfl) ?_
    refine lv_iadd hx hb dX11_copy_174 ?_
    refine lv_iload hx hb dX11_copy_175 (lv_at hl 4 rfl) ?_
    refine lv_iadd hx hb dX11_copy_177 ?_
    refine lv_aload_n hx hb dX11_copy_178 rfl (lv_at hl 0 rfl) ?_
    refine va_get (ci := 11) (v := .ref a_moved) (C := RX11) (T := TX11) (N := 25) hx hb hts inX11 hown hK hP 0 rfl rfl 3 (by decide) (hts _ tw_948) (fun _ h9 => h9) rfl dX11_copy_179 ?_
    refine lv_iload hx hb dX11_copy_182 (lv_at hl 4 rfl) ?_
    obtain ⟨hin, hf⟩ := rd_some hf
    generalize ev184 : f_moved (Int32.toNatClampNeg x6) = v184 at hf
    refine kiald hx hb hK hP 4 0 rfl rfl hin ev184 dX11_copy_184 ?_
    obtain ⟨hin, f_items_185, ev185, hf⟩ := wr_ex hf
    refine kiast hx hb hK hP hD hS 3 0 rfl rfl hin ev185 dX11_copy_185 (fun H locs hP hD hS => ?_)
    have hP : va_P D vwCl (w_Mo_copy ct a_this a_forms a_sizes a_items a_moved a_bytes a_typed a_chances a_longs a_letters a_isThere a_pieceLongs a_pieceLetters a_song a_settings a_guess a_row a_least a_nights f_latest f_at f_names f_pieces f_songLong f_guesses f_todo f_forms f_sizes f_items_185 f_moved) H := hP
    have hD : va_D A (w_Mo_copy ct a_this a_forms a_sizes a_items a_moved a_bytes a_typed a_chances a_longs a_letters a_isThere a_pieceLongs a_pieceLetters a_song a_settings a_guess a_row a_least a_nights f_latest f_at f_names f_pieces f_songLong f_guesses f_todo f_forms f_sizes f_items_185 f_moved) := hD
    refine lv_iinc (v := x6 + 1) (lv' := [(6, .int (x6 + 1)), (0, .ref a_this), (3, .int x3), (4, .int x4), (5, .int x5)]) hx hb dX11_copy_186 hl (k := 4) rfl rfl (by decide) rfl (fun ls hl => ?_)
    refine lv_goto (tgt := 157) hx hb dX11_copy_189 (by decide) ?_
    exact hr157 (x6 + 1) f_latest f_items_185 f_moved hf _ _ hP hD hS _ (lv_sub hl [1, 2, 3, 4, 0] rfl)
set_option maxHeartbeats 4000000 in
set_option maxRecDepth 100000 in
theorem t_Mo_copy_l157 {p : Program} {l : Launch} {e : Env} {s : State} {m : MethodId} {args : Array Value} {below : List Frame} {meth : Method} {c : Code} {D : va_G} {ct : Nat → ClassId} (C : CX p s m args meth c RX11 cX11_copy 7 (some .int) D ct) {A : Nat → Prop} (hA : ∀ q : Nat, s.heap.size ≤ q → A q) (a_this a_forms a_sizes a_items a_moved a_bytes a_typed a_chances a_longs a_letters a_isThere a_pieceLongs a_pieceLetters a_song a_settings a_guess a_row a_least a_nights : Nat) (f_at : Int32) (f_names : Int32) (f_pieces : Int32) (f_songLong : Int32) (f_guesses : Int32) (f_todo : Int32) (F : Nat) (f_forms : Nat → Int32) (f_sizes : Nat → Int32) (x1 : Int32) (x2 : Int32) (x3 : Int32) (x4 : Int32) (x5 : Int32) (r : Int32) (r_latest : Int32) (r_items : Nat → Int32) (r_moved : Nat → Int32) : ∀ (n : Nat) (x6 : Int32) (f_latest : Int32) (f_items : Nat → Int32) (f_moved : Nat → Int32), Mo_copy_l157 F f_forms f_sizes x1 x2 x3 x4 x5 n x6 f_latest f_items f_moved = some (r, r_latest, r_items, r_moved) → ∀ (H : Heap) (locs : List Loc), va_P D vwCl (w_Mo_copy ct a_this a_forms a_sizes a_items a_moved a_bytes a_typed a_chances a_longs a_letters a_isThere a_pieceLongs a_pieceLetters a_song a_settings a_guess a_row a_least a_nights f_latest f_at f_names f_pieces f_songLong f_guesses f_todo f_forms f_sizes f_items f_moved) H → va_D A (w_Mo_copy ct a_this a_forms a_sizes a_items a_moved a_bytes a_typed a_chances a_longs a_letters a_isThere a_pieceLongs a_pieceLetters a_song a_settings a_guess a_row a_least a_nights f_latest f_at f_names f_pieces f_songLong f_guesses f_todo f_forms f_sizes f_items f_moved) → va_S A s.heap H locs → ∀ ls : Array Slot, lv_has ls 7 [(0, .ref a_this), (3, .int x3), (4, .int x4), (5, .int x5), (6, .int x6)] → W p l e RM_Mo_copy s m args below meth c H locs 0 0 (MQ below (QM D (some (.int r)) (w_Mo_copy ct a_this a_forms a_sizes a_items a_moved a_bytes a_typed a_chances a_longs a_letters a_isThere a_pieceLongs a_pieceLetters a_song a_settings a_guess a_row a_least a_nights r_latest f_at f_names f_pieces f_songLong f_guesses f_todo f_forms f_sizes r_items r_moved) A) args s 0 0 A) (F0 m 157 ls []) := by
  intro n
  induction n with
  | zero =>
    intro x6 f_latest f_items f_moved hf
    exact absurd hf (by simp [Mo_copy_l157])
  | succ n ih =>
    intro x6 f_latest f_items f_moved hf
    exact t_Mo_copy_b157 C hA a_this a_forms a_sizes a_items a_moved a_bytes a_typed a_chances a_longs a_letters a_isThere a_pieceLongs a_pieceLetters a_song a_settings a_guess a_row a_least a_nights f_at f_names f_pieces f_songLong f_guesses f_todo F f_forms f_sizes x1 x2 x3 x4 x5 r r_latest r_items r_moved (Mo_copy_l157 F f_forms f_sizes x1 x2 x3 x4 x5 n) ih x6 f_latest f_items f_moved hf
set_option maxHeartbeats 4000000 in
set_option maxRecDepth 100000 in
theorem t_Mo_copy_b154 {p : Program} {l : Launch} {e : Env} {s : State} {m : MethodId} {args : Array Value} {below : List Frame} {meth : Method} {c : Code} {D : va_G} {ct : Nat → ClassId} (C : CX p s m args meth c RX11 cX11_copy 7 (some .int) D ct) {A : Nat → Prop} (hA : ∀ q : Nat, s.heap.size ≤ q → A q) (a_this a_forms a_sizes a_items a_moved a_bytes a_typed a_chances a_longs a_letters a_isThere a_pieceLongs a_pieceLetters a_song a_settings a_guess a_row a_least a_nights : Nat) (f_at : Int32) (f_names : Int32) (f_pieces : Int32) (f_songLong : Int32) (f_guesses : Int32) (f_todo : Int32) (F : Nat) (f_forms : Nat → Int32) (f_sizes : Nat → Int32) (x1 : Int32) (x2 : Int32) (x3 : Int32) (x4 : Int32) (x5 : Int32) (r : Int32) (r_latest : Int32) (r_items : Nat → Int32) (r_moved : Nat → Int32) : ∀ (f_latest : Int32) (f_items : Nat → Int32) (f_moved : Nat → Int32), Mo_copy_b154 F f_forms f_sizes x1 x2 x3 x4 x5 f_latest f_items f_moved = some (r, r_latest, r_items, r_moved) → ∀ (H : Heap) (locs : List Loc), va_P D vwCl (w_Mo_copy ct a_this a_forms a_sizes a_items a_moved a_bytes a_typed a_chances a_longs a_letters a_isThere a_pieceLongs a_pieceLetters a_song a_settings a_guess a_row a_least a_nights f_latest f_at f_names f_pieces f_songLong f_guesses f_todo f_forms f_sizes f_items f_moved) H → va_D A (w_Mo_copy ct a_this a_forms a_sizes a_items a_moved a_bytes a_typed a_chances a_longs a_letters a_isThere a_pieceLongs a_pieceLetters a_song a_settings a_guess a_row a_least a_nights f_latest f_at f_names f_pieces f_songLong f_guesses f_todo f_forms f_sizes f_items f_moved) → va_S A s.heap H locs → ∀ ls : Array Slot, lv_has ls 7 [(0, .ref a_this), (3, .int x3), (4, .int x4), (5, .int x5)] → W p l e RM_Mo_copy s m args below meth c H locs 0 0 (MQ below (QM D (some (.int r)) (w_Mo_copy ct a_this a_forms a_sizes a_items a_moved a_bytes a_typed a_chances a_longs a_letters a_isThere a_pieceLongs a_pieceLetters a_song a_settings a_guess a_row a_least a_nights r_latest f_at f_names f_pieces f_songLong f_guesses f_todo f_forms f_sizes r_items r_moved) A) args s 0 0 A) (F0 m 154 ls []) := by
  obtain ⟨hx, hb, hr, hml, hown, hts, hlk, hK, hN⟩ := id C
  intro f_latest f_items f_moved hf H locs hP hD hS ls hl
  unfold Mo_copy_b154 at hf
  refine lv_iconst (v := 0) hx hb dX11_copy_154 (by decide) ?_
  refine lv_istore (lv' := [(6, .int 0), (0, .ref a_this), (3, .int x3), (4, .int x4), (5, .int x5)]) hx hb dX11_copy_155 hl (by decide) rfl (fun ls hl => ?_)
  exact t_Mo_copy_l157 C hA a_this a_forms a_sizes a_items a_moved a_bytes a_typed a_chances a_longs a_letters a_isThere a_pieceLongs a_pieceLetters a_song a_settings a_guess a_row a_least a_nights f_at f_names f_pieces f_songLong f_guesses f_todo F f_forms f_sizes x1 x2 x3 x4 x5 r r_latest r_items r_moved F 0 f_latest f_items f_moved hf _ _ hP hD hS _ (lv_sub hl [1, 2, 3, 4, 0] rfl)
set_option maxHeartbeats 4000000 in
set_option maxRecDepth 100000 in
theorem t_Mo_copy_b120 {p : Program} {l : Launch} {e : Env} {s : State} {m : MethodId} {args : Array Value} {below : List Frame} {meth : Method} {c : Code} {D : va_G} {ct : Nat → ClassId} (C : CX p s m args meth c RX11 cX11_copy 7 (some .int) D ct) {A : Nat → Prop} (hA : ∀ q : Nat, s.heap.size ≤ q → A q) (a_this a_forms a_sizes a_items a_moved a_bytes a_typed a_chances a_longs a_letters a_isThere a_pieceLongs a_pieceLetters a_song a_settings a_guess a_row a_least a_nights : Nat) (f_at : Int32) (f_names : Int32) (f_pieces : Int32) (f_songLong : Int32) (f_guesses : Int32) (f_todo : Int32) (F : Nat) (f_forms : Nat → Int32) (f_sizes : Nat → Int32) (x1 : Int32) (x2 : Int32) (x3 : Int32) (x4 : Int32) (x5 : Int32) (r : Int32) (r_latest : Int32) (r_items : Nat → Int32) (r_moved : Nat → Int32) (rec120 : Int32 → Int32 → (Nat → Int32) → (Nat → Int32) → Option (Int32 × Int32 × (Nat → Int32) × (Nat → Int32))) (hr120 : ∀ (x6 : Int32) (f_latest : Int32) (f_items : Nat → Int32) (f_moved : Nat → Int32), rec120 x6 f_latest f_items f_moved = some (r, r_latest, r_items, r_moved) → ∀ (H : Heap) (locs : List Loc), va_P D vwCl (w_Mo_copy ct a_this a_forms a_sizes a_items a_moved a_bytes a_typed a_chances a_longs a_letters a_isThere a_pieceLongs a_pieceLetters a_song a_settings a_guess a_row a_least a_nights f_latest f_at f_names f_pieces f_songLong f_guesses f_todo f_forms f_sizes f_items f_moved) H → va_D A (w_Mo_copy ct a_this a_forms a_sizes a_items a_moved a_bytes a_typed a_chances a_longs a_letters a_isThere a_pieceLongs a_pieceLetters a_song a_settings a_guess a_row a_least a_nights f_latest f_at f_names f_pieces f_songLong f_guesses f_todo f_forms f_sizes f_items f_moved) → va_S A s.heap H locs → ∀ ls : Array Slot, lv_has ls 7 [(0, .ref a_this), (1, .int x1), (2, .int x2), (3, .int x3), (4, .int x4), (5, .int x5), (6, .int x6)] → W p l e RM_Mo_copy s m args below meth c H locs 0 0 (MQ below (QM D (some (.int r)) (w_Mo_copy ct a_this a_forms a_sizes a_items a_moved a_bytes a_typed a_chances a_longs a_letters a_isThere a_pieceLongs a_pieceLetters a_song a_settings a_guess a_row a_least a_nights r_latest f_at f_names f_pieces f_songLong f_guesses f_todo f_forms f_sizes r_items r_moved) A) args s 0 0 A) (F0 m 120 ls [])) : ∀ (x6 : Int32) (f_latest : Int32) (f_items : Nat → Int32) (f_moved : Nat → Int32), Mo_copy_b120 F f_forms f_sizes x1 x2 x3 x4 x5 rec120 x6 f_latest f_items f_moved = some (r, r_latest, r_items, r_moved) → ∀ (H : Heap) (locs : List Loc), va_P D vwCl (w_Mo_copy ct a_this a_forms a_sizes a_items a_moved a_bytes a_typed a_chances a_longs a_letters a_isThere a_pieceLongs a_pieceLetters a_song a_settings a_guess a_row a_least a_nights f_latest f_at f_names f_pieces f_songLong f_guesses f_todo f_forms f_sizes f_items f_moved) H → va_D A (w_Mo_copy ct a_this a_forms a_sizes a_items a_moved a_bytes a_typed a_chances a_longs a_letters a_isThere a_pieceLongs a_pieceLetters a_song a_settings a_guess a_row a_least a_nights f_latest f_at f_names f_pieces f_songLong f_guesses f_todo f_forms f_sizes f_items f_moved) → va_S A s.heap H locs → ∀ ls : Array Slot, lv_has ls 7 [(0, .ref a_this), (1, .int x1), (2, .int x2), (3, .int x3), (4, .int x4), (5, .int x5), (6, .int x6)] → W p l e RM_Mo_copy s m args below meth c H locs 0 0 (MQ below (QM D (some (.int r)) (w_Mo_copy ct a_this a_forms a_sizes a_items a_moved a_bytes a_typed a_chances a_longs a_letters a_isThere a_pieceLongs a_pieceLetters a_song a_settings a_guess a_row a_least a_nights r_latest f_at f_names f_pieces f_songLong f_guesses f_todo f_forms f_sizes r_items r_moved) A) args s 0 0 A) (F0 m 120 ls []) := by
  obtain ⟨hx, hb, hr, hml, hown, hts, hlk, hK, hN⟩ := id C
  intro x6 f_latest f_items f_moved hf H locs hP hD hS ls hl
  unfold Mo_copy_b120 at hf
  refine lv_iload hx hb dX11_copy_120 (lv_at hl 6 rfl) ?_
  refine lv_iload hx hb dX11_copy_122 (lv_at hl 5 rfl) ?_
  refine lv_icmp_ge (tgt := 154) hx hb dX11_copy_124 (by decide) (fun hc => ?_) (fun hc => ?_)
  · have hf := kpos hc hf
    exact t_Mo_copy_b154 C hA a_this a_forms a_sizes a_items a_moved a_bytes a_typed a_chances a_longs a_letters a_isThere a_pieceLongs a_pieceLetters a_song a_settings a_guess a_row a_least a_nights f_at f_names f_pieces f_songLong f_guesses f_todo F f_forms f_sizes x1 x2 x3 x4 x5 r r_latest r_items r_moved f_latest f_items f_moved hf _ _ hP hD hS _ (lv_sub hl [0, 3, 4, 5] rfl)
  · have hf := kneg hc hf
    refine lv_aload_n hx hb dX11_copy_127 rfl (lv_at hl 0 rfl) ?_
    refine va_get (ci := 11) (v := .ref a_moved) (C := RX11) (T := TX11) (N := 25) hx hb hts inX11 hown hK hP 0 rfl rfl 3 (by decide) (hts _ tw_948) (fun _ h9 => h9) rfl dX11_copy_128 ?_
    refine lv_iload hx hb dX11_copy_131 (lv_at hl 6 rfl) ?_
    refine lv_aload_n hx hb dX11_copy_133 rfl (lv_at hl 0 rfl) ?_
    refine va_get (ci := 11) (v := .ref a_items) (C := RX11) (T := TX11) (N := 25) hx hb hts inX11 hown hK hP 0 rfl rfl 2 (by decide) (hts _ tw_947) (fun _ h9 => h9) rfl dX11_copy_134 ?_
    refine lv_bipush (v := 60) hx hb dX11_copy_137 (by decide) ?_
    refine lv_iload_n hx hb dX11_copy_139 rfl (lv_at hl 1 rfl) ?_
    refine lv_imul hx hb dX11_copy_140 ?_
    refine lv_iload_n hx hb dX11_copy_141 rfl (lv_at hl 2 rfl) ?_
    refine lv_iadd hx hb dX11_copy_142 ?_
    refine lv_iload hx hb dX11_copy_143 (lv_at hl 6 rfl) ?_
    refine lv_iadd hx hb dX11_copy_145 ?_
    obtain ⟨hin, hf⟩ := rd_some hf
    generalize ev146 : f_items (Int32.toNatClampNeg (((60 * x1) + x2) + x6)) = v146 at hf
    refine kiald hx hb hK hP 3 0 rfl rfl hin ev146 dX11_copy_146 ?_
    obtain ⟨hin, f_moved_147, ev147, hf⟩ := wr_ex hf
    refine kiast hx hb hK hP hD hS 4 0 rfl rfl hin ev147 dX11_copy_147 (fun H locs hP hD hS => ?_)
    have hP : va_P D vwCl (w_Mo_copy ct a_this a_forms a_sizes a_items a_moved a_bytes a_typed a_chances a_longs a_letters a_isThere a_pieceLongs a_pieceLetters a_song a_settings a_guess a_row a_least a_nights f_latest f_at f_names f_pieces f_songLong f_guesses f_todo f_forms f_sizes f_items f_moved_147) H := hP
    have hD : va_D A (w_Mo_copy ct a_this a_forms a_sizes a_items a_moved a_bytes a_typed a_chances a_longs a_letters a_isThere a_pieceLongs a_pieceLetters a_song a_settings a_guess a_row a_least a_nights f_latest f_at f_names f_pieces f_songLong f_guesses f_todo f_forms f_sizes f_items f_moved_147) := hD
    refine lv_iinc (v := x6 + 1) (lv' := [(6, .int (x6 + 1)), (0, .ref a_this), (1, .int x1), (2, .int x2), (3, .int x3), (4, .int x4), (5, .int x5)]) hx hb dX11_copy_148 hl (k := 6) rfl rfl (by decide) rfl (fun ls hl => ?_)
    refine lv_goto (tgt := 120) hx hb dX11_copy_151 (by decide) ?_
    exact hr120 (x6 + 1) f_latest f_items f_moved_147 hf _ _ hP hD hS _ (lv_sub hl [1, 2, 3, 4, 5, 6, 0] rfl)
set_option maxHeartbeats 4000000 in
set_option maxRecDepth 100000 in
theorem t_Mo_copy_l120 {p : Program} {l : Launch} {e : Env} {s : State} {m : MethodId} {args : Array Value} {below : List Frame} {meth : Method} {c : Code} {D : va_G} {ct : Nat → ClassId} (C : CX p s m args meth c RX11 cX11_copy 7 (some .int) D ct) {A : Nat → Prop} (hA : ∀ q : Nat, s.heap.size ≤ q → A q) (a_this a_forms a_sizes a_items a_moved a_bytes a_typed a_chances a_longs a_letters a_isThere a_pieceLongs a_pieceLetters a_song a_settings a_guess a_row a_least a_nights : Nat) (f_at : Int32) (f_names : Int32) (f_pieces : Int32) (f_songLong : Int32) (f_guesses : Int32) (f_todo : Int32) (F : Nat) (f_forms : Nat → Int32) (f_sizes : Nat → Int32) (x1 : Int32) (x2 : Int32) (x3 : Int32) (x4 : Int32) (x5 : Int32) (r : Int32) (r_latest : Int32) (r_items : Nat → Int32) (r_moved : Nat → Int32) : ∀ (n : Nat) (x6 : Int32) (f_latest : Int32) (f_items : Nat → Int32) (f_moved : Nat → Int32), Mo_copy_l120 F f_forms f_sizes x1 x2 x3 x4 x5 n x6 f_latest f_items f_moved = some (r, r_latest, r_items, r_moved) → ∀ (H : Heap) (locs : List Loc), va_P D vwCl (w_Mo_copy ct a_this a_forms a_sizes a_items a_moved a_bytes a_typed a_chances a_longs a_letters a_isThere a_pieceLongs a_pieceLetters a_song a_settings a_guess a_row a_least a_nights f_latest f_at f_names f_pieces f_songLong f_guesses f_todo f_forms f_sizes f_items f_moved) H → va_D A (w_Mo_copy ct a_this a_forms a_sizes a_items a_moved a_bytes a_typed a_chances a_longs a_letters a_isThere a_pieceLongs a_pieceLetters a_song a_settings a_guess a_row a_least a_nights f_latest f_at f_names f_pieces f_songLong f_guesses f_todo f_forms f_sizes f_items f_moved) → va_S A s.heap H locs → ∀ ls : Array Slot, lv_has ls 7 [(0, .ref a_this), (1, .int x1), (2, .int x2), (3, .int x3), (4, .int x4), (5, .int x5), (6, .int x6)] → W p l e RM_Mo_copy s m args below meth c H locs 0 0 (MQ below (QM D (some (.int r)) (w_Mo_copy ct a_this a_forms a_sizes a_items a_moved a_bytes a_typed a_chances a_longs a_letters a_isThere a_pieceLongs a_pieceLetters a_song a_settings a_guess a_row a_least a_nights r_latest f_at f_names f_pieces f_songLong f_guesses f_todo f_forms f_sizes r_items r_moved) A) args s 0 0 A) (F0 m 120 ls []) := by
  intro n
  induction n with
  | zero =>
    intro x6 f_latest f_items f_moved hf
    exact absurd hf (by simp [Mo_copy_l120])
  | succ n ih =>
    intro x6 f_latest f_items f_moved hf
    exact t_Mo_copy_b120 C hA a_this a_forms a_sizes a_items a_moved a_bytes a_typed a_chances a_longs a_letters a_isThere a_pieceLongs a_pieceLetters a_song a_settings a_guess a_row a_least a_nights f_at f_names f_pieces f_songLong f_guesses f_todo F f_forms f_sizes x1 x2 x3 x4 x5 r r_latest r_items r_moved (Mo_copy_l120 F f_forms f_sizes x1 x2 x3 x4 x5 n) ih x6 f_latest f_items f_moved hf
set_option maxHeartbeats 4000000 in
set_option maxRecDepth 100000 in
theorem t_Mo_copy_b111 {p : Program} {l : Launch} {e : Env} {s : State} {m : MethodId} {args : Array Value} {below : List Frame} {meth : Method} {c : Code} {D : va_G} {ct : Nat → ClassId} (C : CX p s m args meth c RX11 cX11_copy 7 (some .int) D ct) {A : Nat → Prop} (hA : ∀ q : Nat, s.heap.size ≤ q → A q) (a_this a_forms a_sizes a_items a_moved a_bytes a_typed a_chances a_longs a_letters a_isThere a_pieceLongs a_pieceLetters a_song a_settings a_guess a_row a_least a_nights : Nat) (f_at : Int32) (f_names : Int32) (f_pieces : Int32) (f_songLong : Int32) (f_guesses : Int32) (f_todo : Int32) (F : Nat) (f_forms : Nat → Int32) (f_sizes : Nat → Int32) (x1 : Int32) (x2 : Int32) (x3 : Int32) (x4 : Int32) (x5 : Int32) (r : Int32) (r_latest : Int32) (r_items : Nat → Int32) (r_moved : Nat → Int32) : ∀ (f_latest : Int32) (f_items : Nat → Int32) (f_moved : Nat → Int32), Mo_copy_b111 F f_forms f_sizes x1 x2 x3 x4 x5 f_latest f_items f_moved = some (r, r_latest, r_items, r_moved) → ∀ (H : Heap) (locs : List Loc), va_P D vwCl (w_Mo_copy ct a_this a_forms a_sizes a_items a_moved a_bytes a_typed a_chances a_longs a_letters a_isThere a_pieceLongs a_pieceLetters a_song a_settings a_guess a_row a_least a_nights f_latest f_at f_names f_pieces f_songLong f_guesses f_todo f_forms f_sizes f_items f_moved) H → va_D A (w_Mo_copy ct a_this a_forms a_sizes a_items a_moved a_bytes a_typed a_chances a_longs a_letters a_isThere a_pieceLongs a_pieceLetters a_song a_settings a_guess a_row a_least a_nights f_latest f_at f_names f_pieces f_songLong f_guesses f_todo f_forms f_sizes f_items f_moved) → va_S A s.heap H locs → ∀ ls : Array Slot, lv_has ls 7 [(0, .ref a_this)] → W p l e RM_Mo_copy s m args below meth c H locs 0 0 (MQ below (QM D (some (.int r)) (w_Mo_copy ct a_this a_forms a_sizes a_items a_moved a_bytes a_typed a_chances a_longs a_letters a_isThere a_pieceLongs a_pieceLetters a_song a_settings a_guess a_row a_least a_nights r_latest f_at f_names f_pieces f_songLong f_guesses f_todo f_forms f_sizes r_items r_moved) A) args s 0 0 A) (F0 m 111 ls []) := by
  obtain ⟨hx, hb, hr, hml, hown, hts, hlk, hK, hN⟩ := id C
  intro f_latest f_items f_moved hf H locs hP hD hS ls hl
  unfold Mo_copy_b111 at hf
  refine lv_aload_n hx hb dX11_copy_111 rfl (lv_at hl 0 rfl) ?_
  refine lv_iconst (v := 2) hx hb dX11_copy_112 (by decide) ?_
  obtain ⟨v113, f_latest_113, hc113, hf⟩ := cb2_some hf
  refine kcMV (q0 := 0) (ci := 11) (As := [.int 2]) (rest := []) (st1 := [.int v113]) (wf := (w_Mo_copy ct a_this a_forms a_sizes a_items a_moved a_bytes a_typed a_chances a_longs a_letters a_isThere a_pieceLongs a_pieceLetters a_song a_settings a_guess a_row a_least a_nights f_latest_113 f_at f_names f_pieces f_songLong f_guesses f_todo f_forms f_sizes f_items f_moved)) C (c_Mo_met l D ct a_this a_forms a_sizes a_items a_moved a_bytes a_typed a_chances a_longs a_letters a_isThere a_pieceLongs a_pieceLetters a_song a_settings a_guess a_row a_least a_nights f_at f_names f_pieces f_songLong f_guesses f_todo f_latest 2 v113 f_latest_113 _ hc113) ⟨rfl, rfl⟩ yn_yX11_met tw_1036 tw_26 tw_1034 ⟨Nat.le_of_ble_eq_true rfl, Nat.le_of_ble_eq_true rfl⟩ ⟨Nat.zero_le _, Nat.zero_le _⟩ hP hD hS hA [0] [1, 2, 3, 4] [4, 0, 1, 2, 3] rfl rfl rfl rfl rfl (by decide) rfl rfl rfl rfl rfl rfl hl.1 rfl rfl (Nat.le_of_ble_eq_true rfl) dX11_copy_113 rfl (fun H locs hP hD hS => ?_)
  obtain ⟨e1, e2, e3, e4⟩ := ti4 hf
  subst e1; subst e2; subst e3; subst e4
  exact kretM C hP hD hS dX11_copy_116
set_option maxHeartbeats 4000000 in
set_option maxRecDepth 100000 in
theorem t_Mo_copy_b35 {p : Program} {l : Launch} {e : Env} {s : State} {m : MethodId} {args : Array Value} {below : List Frame} {meth : Method} {c : Code} {D : va_G} {ct : Nat → ClassId} (C : CX p s m args meth c RX11 cX11_copy 7 (some .int) D ct) {A : Nat → Prop} (hA : ∀ q : Nat, s.heap.size ≤ q → A q) (a_this a_forms a_sizes a_items a_moved a_bytes a_typed a_chances a_longs a_letters a_isThere a_pieceLongs a_pieceLetters a_song a_settings a_guess a_row a_least a_nights : Nat) (f_at : Int32) (f_names : Int32) (f_pieces : Int32) (f_songLong : Int32) (f_guesses : Int32) (f_todo : Int32) (F : Nat) (f_forms : Nat → Int32) (f_sizes : Nat → Int32) (x1 : Int32) (x2 : Int32) (x3 : Int32) (x4 : Int32) (x5 : Int32) (r : Int32) (r_latest : Int32) (r_items : Nat → Int32) (r_moved : Nat → Int32) : ∀ (f_latest : Int32) (f_items : Nat → Int32) (f_moved : Nat → Int32), Mo_copy_b35 F f_forms f_sizes x1 x2 x3 x4 x5 f_latest f_items f_moved = some (r, r_latest, r_items, r_moved) → ∀ (H : Heap) (locs : List Loc), va_P D vwCl (w_Mo_copy ct a_this a_forms a_sizes a_items a_moved a_bytes a_typed a_chances a_longs a_letters a_isThere a_pieceLongs a_pieceLetters a_song a_settings a_guess a_row a_least a_nights f_latest f_at f_names f_pieces f_songLong f_guesses f_todo f_forms f_sizes f_items f_moved) H → va_D A (w_Mo_copy ct a_this a_forms a_sizes a_items a_moved a_bytes a_typed a_chances a_longs a_letters a_isThere a_pieceLongs a_pieceLetters a_song a_settings a_guess a_row a_least a_nights f_latest f_at f_names f_pieces f_songLong f_guesses f_todo f_forms f_sizes f_items f_moved) → va_S A s.heap H locs → ∀ ls : Array Slot, lv_has ls 7 [(0, .ref a_this)] → W p l e RM_Mo_copy s m args below meth c H locs 0 0 (MQ below (QM D (some (.int r)) (w_Mo_copy ct a_this a_forms a_sizes a_items a_moved a_bytes a_typed a_chances a_longs a_letters a_isThere a_pieceLongs a_pieceLetters a_song a_settings a_guess a_row a_least a_nights r_latest f_at f_names f_pieces f_songLong f_guesses f_todo f_forms f_sizes r_items r_moved) A) args s 0 0 A) (F0 m 35 ls []) := by
  obtain ⟨hx, hb, hr, hml, hown, hts, hlk, hK, hN⟩ := id C
  intro f_latest f_items f_moved hf H locs hP hD hS ls hl
  unfold Mo_copy_b35 at hf
  refine lv_aload_n hx hb dX11_copy_35 rfl (lv_at hl 0 rfl) ?_
  refine lv_iconst (v := 1) hx hb dX11_copy_36 (by decide) ?_
  obtain ⟨v37, f_latest_37, hc37, hf⟩ := cb2_some hf
  refine kcMV (q0 := 0) (ci := 11) (As := [.int 1]) (rest := []) (st1 := [.int v37]) (wf := (w_Mo_copy ct a_this a_forms a_sizes a_items a_moved a_bytes a_typed a_chances a_longs a_letters a_isThere a_pieceLongs a_pieceLetters a_song a_settings a_guess a_row a_least a_nights f_latest_37 f_at f_names f_pieces f_songLong f_guesses f_todo f_forms f_sizes f_items f_moved)) C (c_Mo_met l D ct a_this a_forms a_sizes a_items a_moved a_bytes a_typed a_chances a_longs a_letters a_isThere a_pieceLongs a_pieceLetters a_song a_settings a_guess a_row a_least a_nights f_at f_names f_pieces f_songLong f_guesses f_todo f_latest 1 v37 f_latest_37 _ hc37) ⟨rfl, rfl⟩ yn_yX11_met tw_1036 tw_26 tw_1034 ⟨Nat.le_of_ble_eq_true rfl, Nat.le_of_ble_eq_true rfl⟩ ⟨Nat.zero_le _, Nat.zero_le _⟩ hP hD hS hA [0] [1, 2, 3, 4] [4, 0, 1, 2, 3] rfl rfl rfl rfl rfl (by decide) rfl rfl rfl rfl rfl rfl hl.1 rfl rfl (Nat.le_of_ble_eq_true rfl) dX11_copy_37 rfl (fun H locs hP hD hS => ?_)
  obtain ⟨e1, e2, e3, e4⟩ := ti4 hf
  subst e1; subst e2; subst e3; subst e4
  exact kretM C hP hD hS dX11_copy_40
set_option maxHeartbeats 4000000 in
set_option maxRecDepth 100000 in
theorem c_Mo_copy (l : Launch) (D : va_G) (ct : Nat → ClassId) (a_this a_forms a_sizes a_items a_moved a_bytes a_typed a_chances a_longs a_letters a_isThere a_pieceLongs a_pieceLetters a_song a_settings a_guess a_row a_least a_nights : Nat) (f_at : Int32) (f_names : Int32) (f_pieces : Int32) (f_songLong : Int32) (f_guesses : Int32) (f_todo : Int32) (F : Nat) (f_forms : Nat → Int32) (f_sizes : Nat → Int32) (f_latest : Int32) (f_items : Nat → Int32) (f_moved : Nat → Int32) (x1 : Int32) (x2 : Int32) (x3 : Int32) (x4 : Int32) (x5 : Int32) (r : Int32) (r_latest : Int32) (r_items : Nat → Int32) (r_moved : Nat → Int32) (sz : Nat) (hf : Mo_copy F f_forms f_sizes f_latest f_items f_moved x1 x2 x3 x4 x5 = some (r, r_latest, r_items, r_moved)) : Met l yX11_copy (WS yX11_copy cX11_copy 7 (some .int)) RM_Mo_copy (va_Pc [.ref a_this, .int x1, .int x2, .int x3, .int x4, .int x5] (PM D ct sz (w_Mo_copy ct a_this a_forms a_sizes a_items a_moved a_bytes a_typed a_chances a_longs a_letters a_isThere a_pieceLongs a_pieceLetters a_song a_settings a_guess a_row a_least a_nights f_latest f_at f_names f_pieces f_songLong f_guesses f_todo f_forms f_sizes f_items f_moved))) (QM D (some (.int r)) (w_Mo_copy ct a_this a_forms a_sizes a_items a_moved a_bytes a_typed a_chances a_longs a_letters a_isThere a_pieceLongs a_pieceLetters a_song a_settings a_guess a_row a_least a_nights r_latest f_at f_names f_pieces f_songLong f_guesses f_todo f_forms f_sizes r_items r_moved) (va_A (w_Mo_copy ct a_this a_forms a_sizes a_items a_moved a_bytes a_typed a_chances a_longs a_letters a_isThere a_pieceLongs a_pieceLetters a_song a_settings a_guess a_row a_least a_nights f_latest f_at f_names f_pieces f_songLong f_guesses f_todo f_forms f_sizes f_items f_moved) sz)) 0 0 (va_A (w_Mo_copy ct a_this a_forms a_sizes a_items a_moved a_bytes a_typed a_chances a_longs a_letters a_isThere a_pieceLongs a_pieceLetters a_song a_settings a_guess a_row a_least a_nights f_latest f_at f_names f_pieces f_songLong f_guesses f_todo f_forms f_sizes f_items f_moved) sz) := by
  refine kMetM yn_yX11_copy rfl (Nat.le_of_ble_eq_true rfl) ?_
  intro p e s m args below meth c A C hA hP hD ls hl
  have hl : lv_has ls 7 [(0, .ref a_this), (1, .int x1), (2, .int x2), (3, .int x3), (4, .int x4), (5, .int x5)] := hl
  have hS : va_S A s.heap s.heap [] := va_S.rf
  obtain ⟨hx, hb, hr, hml, hown, hts, hlk, hK, hN⟩ := id C
  unfold Mo_copy at hf
  refine lv_iload_n hx hb dX11_copy_0 rfl (lv_at hl 1 rfl) ?_
  obtain ⟨v1, hc1, hf⟩ := cb1_some hf
  refine kcRS (As := [.int x1]) (rest := []) (st1 := [.int v1]) C (c_Mo_isSheet l D ct x1 v1 hc1) ⟨rfl, rfl⟩ yn_yX11_isSheet tw_1027 tw_1026 ⟨Nat.le_of_ble_eq_true rfl, Nat.le_of_ble_eq_true rfl⟩ ⟨Nat.zero_le _, Nat.zero_le _⟩ hP [] rfl hl.1 rfl rfl (Nat.le_of_ble_eq_true rfl) dX11_copy_1 rfl ?_
  refine lv_if_eq (tgt := 14) hx hb dX11_copy_4 (by decide) (fun hc => ?_) (fun hc => ?_)
  · have hf := kpos hc hf
    refine lv_bipush (v := (-2)) hx hb dX11_copy_14 (by decide) ?_
    obtain ⟨e1, e2, e3, e4⟩ := ti4 hf
    subst e1; subst e2; subst e3; subst e4
    exact kretM C hP hD hS dX11_copy_16
  · have hf := kneg hc hf
    refine lv_iload_n hx hb dX11_copy_7 rfl (lv_at hl 3 rfl) ?_
    obtain ⟨v8, hc8, hf⟩ := cb1_some hf
    refine kcRS (As := [.int x3]) (rest := []) (st1 := [.int v8]) C (c_Mo_isSheet l D ct x3 v8 hc8) ⟨rfl, rfl⟩ yn_yX11_isSheet tw_1027 tw_1026 ⟨Nat.le_of_ble_eq_true rfl, Nat.le_of_ble_eq_true rfl⟩ ⟨Nat.zero_le _, Nat.zero_le _⟩ hP [] rfl hl.1 rfl rfl (Nat.le_of_ble_eq_true rfl) dX11_copy_8 rfl ?_
    refine lv_if_ne (tgt := 17) hx hb dX11_copy_11 (by decide) (fun hc => ?_) (fun hc => ?_)
    · have hf := kneg hc hf
      refine lv_aload_n hx hb dX11_copy_17 rfl (lv_at hl 0 rfl) ?_
      refine va_get (ci := 11) (v := .ref a_forms) (C := RX11) (T := TX11) (N := 25) hx hb hts inX11 hown hK hP 0 rfl rfl 0 (by decide) (hts _ tw_945) (fun _ h9 => h9) rfl dX11_copy_18 ?_
      refine lv_iload_n hx hb dX11_copy_21 rfl (lv_at hl 1 rfl) ?_
      obtain ⟨hin, hf⟩ := rd_some hf
      generalize ev22 : f_forms (Int32.toNatClampNeg x1) = v22 at hf
      refine kiald hx hb hK hP 1 0 rfl rfl hin ev22 dX11_copy_22 ?_
      refine lv_if_lt (tgt := 35) hx hb dX11_copy_23 (by decide) (fun hc => ?_) (fun hc => ?_)
      · have hf := kpos hc hf
        exact t_Mo_copy_b35 C hA a_this a_forms a_sizes a_items a_moved a_bytes a_typed a_chances a_longs a_letters a_isThere a_pieceLongs a_pieceLetters a_song a_settings a_guess a_row a_least a_nights f_at f_names f_pieces f_songLong f_guesses f_todo F f_forms f_sizes x1 x2 x3 x4 x5 r r_latest r_items r_moved f_latest f_items f_moved hf _ _ hP hD hS _ (lv_sub hl [0] rfl)
      · have hf := kneg hc hf
        refine lv_aload_n hx hb dX11_copy_26 rfl (lv_at hl 0 rfl) ?_
        refine va_get (ci := 11) (v := .ref a_forms) (C := RX11) (T := TX11) (N := 25) hx hb hts inX11 hown hK hP 0 rfl rfl 0 (by decide) (hts _ tw_945) (fun _ h9 => h9) rfl dX11_copy_27 ?_
        refine lv_iload_n hx hb dX11_copy_30 rfl (lv_at hl 3 rfl) ?_
        obtain ⟨hin, hf⟩ := rd_some hf
        generalize ev31 : f_forms (Int32.toNatClampNeg x3) = v31 at hf
        refine kiald hx hb hK hP 1 0 rfl rfl hin ev31 dX11_copy_31 ?_
        refine lv_if_ge (tgt := 41) hx hb dX11_copy_32 (by decide) (fun hc => ?_) (fun hc => ?_)
        · have hf := kpos hc hf
          refine lv_aload_n hx hb dX11_copy_41 rfl (lv_at hl 0 rfl) ?_
          refine va_get (ci := 11) (v := .ref a_forms) (C := RX11) (T := TX11) (N := 25) hx hb hts inX11 hown hK hP 0 rfl rfl 0 (by decide) (hts _ tw_945) (fun _ h9 => h9) rfl dX11_copy_42 ?_
          refine lv_iload_n hx hb dX11_copy_45 rfl (lv_at hl 1 rfl) ?_
          obtain ⟨hin, hf⟩ := rd_some hf
          generalize ev46 : f_forms (Int32.toNatClampNeg x1) = v46 at hf
          refine kiald hx hb hK hP 1 0 rfl rfl hin ev46 dX11_copy_46 ?_
          refine lv_aload_n hx hb dX11_copy_47 rfl (lv_at hl 0 rfl) ?_
          refine va_get (ci := 11) (v := .ref a_forms) (C := RX11) (T := TX11) (N := 25) hx hb hts inX11 hown hK hP 0 rfl rfl 0 (by decide) (hts _ tw_945) (fun _ h9 => h9) rfl dX11_copy_48 ?_
          refine lv_iload_n hx hb dX11_copy_51 rfl (lv_at hl 3 rfl) ?_
          obtain ⟨hin, hf⟩ := rd_some hf
          generalize ev52 : f_forms (Int32.toNatClampNeg x3) = v52 at hf
          refine kiald hx hb hK hP 1 0 rfl rfl hin ev52 dX11_copy_52 ?_
          refine lv_icmp_eq (tgt := 62) hx hb dX11_copy_53 (by decide) (fun hc => ?_) (fun hc => ?_)
          · have hf := kpos hc hf
            refine lv_iload_n hx hb dX11_copy_62 rfl (lv_at hl 2 rfl) ?_
            refine lv_if_lt (tgt := 111) hx hb dX11_copy_63 (by decide) (fun hc => ?_) (fun hc => ?_)
            · have hf := kpos hc hf
              exact t_Mo_copy_b111 C hA a_this a_forms a_sizes a_items a_moved a_bytes a_typed a_chances a_longs a_letters a_isThere a_pieceLongs a_pieceLetters a_song a_settings a_guess a_row a_least a_nights f_at f_names f_pieces f_songLong f_guesses f_todo F f_forms f_sizes x1 x2 x3 x4 x5 r r_latest r_items r_moved f_latest f_items f_moved hf _ _ hP hD hS _ (lv_sub hl [0] rfl)
            · have hf := kneg hc hf
              refine lv_iload hx hb dX11_copy_66 (lv_at hl 4 rfl) ?_
              refine lv_if_lt (tgt := 111) hx hb dX11_copy_68 (by decide) (fun hc => ?_) (fun hc => ?_)
              · have hf := kpos hc hf
                exact t_Mo_copy_b111 C hA a_this a_forms a_sizes a_items a_moved a_bytes a_typed a_chances a_longs a_letters a_isThere a_pieceLongs a_pieceLetters a_song a_settings a_guess a_row a_least a_nights f_at f_names f_pieces f_songLong f_guesses f_todo F f_forms f_sizes x1 x2 x3 x4 x5 r r_latest r_items r_moved f_latest f_items f_moved hf _ _ hP hD hS _ (lv_sub hl [0] rfl)
              · have hf := kneg hc hf
                refine lv_iload hx hb dX11_copy_71 (lv_at hl 5 rfl) ?_
                refine lv_if_lt (tgt := 111) hx hb dX11_copy_73 (by decide) (fun hc => ?_) (fun hc => ?_)
                · have hf := kpos hc hf
                  exact t_Mo_copy_b111 C hA a_this a_forms a_sizes a_items a_moved a_bytes a_typed a_chances a_longs a_letters a_isThere a_pieceLongs a_pieceLetters a_song a_settings a_guess a_row a_least a_nights f_at f_names f_pieces f_songLong f_guesses f_todo F f_forms f_sizes x1 x2 x3 x4 x5 r r_latest r_items r_moved f_latest f_items f_moved hf _ _ hP hD hS _ (lv_sub hl [0] rfl)
                · have hf := kneg hc hf
                  refine lv_iload_n hx hb dX11_copy_76 rfl (lv_at hl 2 rfl) ?_
                  refine lv_i2l (v := Int32.toInt64 x2) hx hb dX11_copy_77 rfl ?_
                  refine lv_iload hx hb dX11_copy_78 (lv_at hl 5 rfl) ?_
                  refine lv_i2l (v := Int32.toInt64 x5) hx hb dX11_copy_80 rfl ?_
                  refine lv_ladd hx hb dX11_copy_81 ?_
                  refine lv_aload_n hx hb dX11_copy_82 rfl (lv_at hl 0 rfl) ?_
                  refine va_get (ci := 11) (v := .ref a_sizes) (C := RX11) (T := TX11) (N := 25) hx hb hts inX11 hown hK hP 0 rfl rfl 1 (by decide) (hts _ tw_946) (fun _ h9 => h9) rfl dX11_copy_83 ?_
                  refine lv_iload_n hx hb dX11_copy_86 rfl (lv_at hl 1 rfl) ?_
                  obtain ⟨hin, hf⟩ := rd_some hf
                  generalize ev87 : f_sizes (Int32.toNatClampNeg x1) = v87 at hf
                  refine kiald hx hb hK hP 2 0 rfl rfl hin ev87 dX11_copy_87 ?_
                  refine lv_i2l (v := Int32.toInt64 v87) hx hb dX11_copy_88 rfl ?_
                  refine W.lcmp hx hb dX11_copy_89 ?_
                  refine lv_if_gt (tgt := 111) hx hb dX11_copy_90 (by decide) (fun hc => ?_) (fun hc => ?_)
                  · have hf := kpos hc hf
                    exact t_Mo_copy_b111 C hA a_this a_forms a_sizes a_items a_moved a_bytes a_typed a_chances a_longs a_letters a_isThere a_pieceLongs a_pieceLetters a_song a_settings a_guess a_row a_least a_nights f_at f_names f_pieces f_songLong f_guesses f_todo F f_forms f_sizes x1 x2 x3 x4 x5 r r_latest r_items r_moved f_latest f_items f_moved hf _ _ hP hD hS _ (lv_sub hl [0] rfl)
                  · have hf := kneg hc hf
                    refine lv_iload hx hb dX11_copy_93 (lv_at hl 4 rfl) ?_
                    refine lv_i2l (v := Int32.toInt64 x4) hx hb dX11_copy_95 rfl ?_
                    refine lv_iload hx hb dX11_copy_96 (lv_at hl 5 rfl) ?_
                    refine lv_i2l (v := Int32.toInt64 x5) hx hb dX11_copy_98 rfl ?_
                    refine lv_ladd hx hb dX11_copy_99 ?_
                    refine lv_aload_n hx hb dX11_copy_100 rfl (lv_at hl 0 rfl) ?_
                    refine va_get (ci := 11) (v := .ref a_sizes) (C := RX11) (T := TX11) (N := 25) hx hb hts inX11 hown hK hP 0 rfl rfl 1 (by decide) (hts _ tw_946) (fun _ h9 => h9) rfl dX11_copy_101 ?_
                    refine lv_iload_n hx hb dX11_copy_104 rfl (lv_at hl 3 rfl) ?_
                    obtain ⟨hin, hf⟩ := rd_some hf
                    generalize ev105 : f_sizes (Int32.toNatClampNeg x3) = v105 at hf
                    refine kiald hx hb hK hP 2 0 rfl rfl hin ev105 dX11_copy_105 ?_
                    refine lv_i2l (v := Int32.toInt64 v105) hx hb dX11_copy_106 rfl ?_
                    refine W.lcmp hx hb dX11_copy_107 ?_
                    refine lv_if_le (tgt := 117) hx hb dX11_copy_108 (by decide) (fun hc => ?_) (fun hc => ?_)
                    · have hf := kpos hc hf
                      refine lv_iconst (v := 0) hx hb dX11_copy_117 (by decide) ?_
                      refine lv_istore (lv' := [(6, .int 0), (0, .ref a_this), (1, .int x1), (2, .int x2), (3, .int x3), (4, .int x4), (5, .int x5)]) hx hb dX11_copy_118 hl (by decide) rfl (fun ls hl => ?_)
                      exact t_Mo_copy_l120 C hA a_this a_forms a_sizes a_items a_moved a_bytes a_typed a_chances a_longs a_letters a_isThere a_pieceLongs a_pieceLetters a_song a_settings a_guess a_row a_least a_nights f_at f_names f_pieces f_songLong f_guesses f_todo F f_forms f_sizes x1 x2 x3 x4 x5 r r_latest r_items r_moved F 0 f_latest f_items f_moved hf _ _ hP hD hS _ (lv_sub hl [1, 2, 3, 4, 5, 6, 0] rfl)
                    · have hf := kneg hc hf
                      exact t_Mo_copy_b111 C hA a_this a_forms a_sizes a_items a_moved a_bytes a_typed a_chances a_longs a_letters a_isThere a_pieceLongs a_pieceLetters a_song a_settings a_guess a_row a_least a_nights f_at f_names f_pieces f_songLong f_guesses f_todo F f_forms f_sizes x1 x2 x3 x4 x5 r r_latest r_items r_moved f_latest f_items f_moved hf _ _ hP hD hS _ (lv_sub hl [0] rfl)
          · have hf := kneg hc hf
            refine lv_aload_n hx hb dX11_copy_56 rfl (lv_at hl 0 rfl) ?_
            refine lv_iconst (v := 4) hx hb dX11_copy_57 (by decide) ?_
            obtain ⟨v58, f_latest_58, hc58, hf⟩ := cb2_some hf
            refine kcMV (q0 := 0) (ci := 11) (As := [.int 4]) (rest := []) (st1 := [.int v58]) (wf := (w_Mo_copy ct a_this a_forms a_sizes a_items a_moved a_bytes a_typed a_chances a_longs a_letters a_isThere a_pieceLongs a_pieceLetters a_song a_settings a_guess a_row a_least a_nights f_latest_58 f_at f_names f_pieces f_songLong f_guesses f_todo f_forms f_sizes f_items f_moved)) C (c_Mo_met l D ct a_this a_forms a_sizes a_items a_moved a_bytes a_typed a_chances a_longs a_letters a_isThere a_pieceLongs a_pieceLetters a_song a_settings a_guess a_row a_least a_nights f_at f_names f_pieces f_songLong f_guesses f_todo f_latest 4 v58 f_latest_58 _ hc58) ⟨rfl, rfl⟩ yn_yX11_met tw_1036 tw_26 tw_1034 ⟨Nat.le_of_ble_eq_true rfl, Nat.le_of_ble_eq_true rfl⟩ ⟨Nat.zero_le _, Nat.zero_le _⟩ hP hD hS hA [0] [1, 2, 3, 4] [4, 0, 1, 2, 3] rfl rfl rfl rfl rfl (by decide) rfl rfl rfl rfl rfl rfl hl.1 rfl rfl (Nat.le_of_ble_eq_true rfl) dX11_copy_58 rfl (fun H locs hP hD hS => ?_)
            obtain ⟨e1, e2, e3, e4⟩ := ti4 hf
            subst e1; subst e2; subst e3; subst e4
            exact kretM C hP hD hS dX11_copy_61
        · have hf := kneg hc hf
          exact t_Mo_copy_b35 C hA a_this a_forms a_sizes a_items a_moved a_bytes a_typed a_chances a_longs a_letters a_isThere a_pieceLongs a_pieceLetters a_song a_settings a_guess a_row a_least a_nights f_at f_names f_pieces f_songLong f_guesses f_todo F f_forms f_sizes x1 x2 x3 x4 x5 r r_latest r_items r_moved f_latest f_items f_moved hf _ _ hP hD hS _ (lv_sub hl [0] rfl)
    · have hf := kpos hc hf
      refine lv_bipush (v := (-2)) hx hb dX11_copy_14 (by decide) ?_
      obtain ⟨e1, e2, e3, e4⟩ := ti4 hf
      subst e1; subst e2; subst e3; subst e4
      exact kretM C hP hD hS dX11_copy_16
def RM_Mo_isText : Room := { frames := 1, cells := 0, slots := 0, locals := 25 }
set_option maxHeartbeats 4000000 in
set_option maxRecDepth 100000 in
theorem c_Mo_isText (l : Launch) (D : va_G) (ct : Nat → ClassId) (x0 : Int32) (r : Int32) (hf : Mo_isText x0 = some r) : Met l yX11_isText (WS yX11_isText cX11_isText 1 (some .boolean)) RM_Mo_isText (va_Pc [.int x0] (PR D ct (w_Mo_isText ct))) (QR (some (.int r))) 0 0 (fun _ => False) := by
  refine kMetR yn_yX11_isText rfl (Nat.le_of_ble_eq_true rfl) ?_
  intro p e s m args below meth c C hP ls hl
  have hl : lv_has ls 1 [(0, .int x0)] := hl
  obtain ⟨hx, hb, hr, hml, hown, hts, hlk, hK, hN⟩ := id C
  unfold Mo_isText at hf
  refine lv_iload_n hx hb dX11_isText_0 rfl (lv_at hl 0 rfl) ?_
  refine lv_i2l (v := Int32.toInt64 x0) hx hb dX11_isText_1 rfl ?_
  refine lv_lconst (v := 0) hx hb dX11_isText_2 (by decide) ?_
  refine lv_ldc2 (v := 2) hx hb hown (hts _ tw_1033) dX11_isText_3 ?_
  obtain ⟨v6, hc6, hf⟩ := cb1_some hf
  refine kcRS (As := [.long (Int32.toInt64 x0), .long 0, .long 2]) (rest := []) (st1 := [.int v6]) C (c_Mo_in l D ct (Int32.toInt64 x0) 0 2 v6 hc6) ⟨rfl, rfl⟩ yn_yX11_in tw_1031 tw_1030 ⟨Nat.le_of_ble_eq_true rfl, Nat.le_of_ble_eq_true rfl⟩ ⟨Nat.zero_le _, Nat.zero_le _⟩ hP [] rfl hl.1 rfl rfl (Nat.le_of_ble_eq_true rfl) dX11_isText_6 rfl ?_
  obtain ⟨hz, hf⟩ := gd_some hf
  have e1 := Option.some.inj hf
  subst e1
  exact kretRz C hz dX11_isText_9
def RM_Mo_room : Room := { frames := 0, cells := 0, slots := 0, locals := 0 }
set_option maxHeartbeats 4000000 in
set_option maxRecDepth 100000 in
theorem c_Mo_room (l : Launch) (D : va_G) (ct : Nat → ClassId) (x0 : Int32) (r : Int32) (hf : Mo_room x0 = some r) : Met l yX11_room (WS yX11_room cX11_room 1 (some .int)) RM_Mo_room (va_Pc [.int x0] (PR D ct (w_Mo_room ct))) (QR (some (.int r))) 0 0 (fun _ => False) := by
  refine kMetR yn_yX11_room rfl (Nat.le_of_ble_eq_true rfl) ?_
  intro p e s m args below meth c C hP ls hl
  have hl : lv_has ls 1 [(0, .int x0)] := hl
  obtain ⟨hx, hb, hr, hml, hown, hts, hlk, hK, hN⟩ := id C
  unfold Mo_room at hf
  refine lv_iload_n hx hb dX11_room_0 rfl (lv_at hl 0 rfl) ?_
  refine lv_if_ne (tgt := 9) hx hb dX11_room_1 (by decide) (fun hc => ?_) (fun hc => ?_)
  · have hf := kneg hc hf
    refine lv_iload_n hx hb dX11_room_9 rfl (lv_at hl 0 rfl) ?_
    refine lv_iconst (v := 1) hx hb dX11_room_10 (by decide) ?_
    refine lv_icmp_ne (tgt := 19) hx hb dX11_room_11 (by decide) (fun hc => ?_) (fun hc => ?_)
    · have hf := kneg hc hf
      refine lv_bipush (v := 6) hx hb dX11_room_19 (by decide) ?_
      have e1 := Option.some.inj hf
      subst e1
      exact kretR C dX11_room_21
    · have hf := kpos hc hf
      refine lv_bipush (v := 40) hx hb dX11_room_14 (by decide) ?_
      refine lv_goto (tgt := 21) hx hb dX11_room_16 (by decide) ?_
      have e1 := Option.some.inj hf
      subst e1
      exact kretR C dX11_room_21
  · have hf := kpos hc hf
    refine lv_bipush (v := 80) hx hb dX11_room_4 (by decide) ?_
    refine lv_goto (tgt := 21) hx hb dX11_room_6 (by decide) ?_
    have e1 := Option.some.inj hf
    subst e1
    exact kretR C dX11_room_21
def RM_Mo_type : Room := { frames := 2, cells := 0, slots := 0, locals := 45 }
set_option maxHeartbeats 4000000 in
set_option maxRecDepth 100000 in
theorem c_Mo_type (l : Launch) (D : va_G) (ct : Nat → ClassId) (a_this a_forms a_sizes a_items a_moved a_bytes a_typed a_chances a_longs a_letters a_isThere a_pieceLongs a_pieceLetters a_song a_settings a_guess a_row a_least a_nights : Nat) (f_latest : Int32) (f_at : Int32) (f_names : Int32) (f_pieces : Int32) (f_songLong : Int32) (f_guesses : Int32) (f_todo : Int32) (f_bytes : Nat → Int32) (f_typed : Nat → Int32) (x1 : Int32) (x2 : Int32) (r : Int32) (r_bytes : Nat → Int32) (r_typed : Nat → Int32) (sz : Nat) (hf : Mo_type f_bytes f_typed x1 x2 = some (r, r_bytes, r_typed)) : Met l yX11_type (WS yX11_type cX11_type 3 (some .int)) RM_Mo_type (va_Pc [.ref a_this, .int x1, .int x2] (PM D ct sz (w_Mo_type ct a_this a_forms a_sizes a_items a_moved a_bytes a_typed a_chances a_longs a_letters a_isThere a_pieceLongs a_pieceLetters a_song a_settings a_guess a_row a_least a_nights f_latest f_at f_names f_pieces f_songLong f_guesses f_todo f_bytes f_typed))) (QM D (some (.int r)) (w_Mo_type ct a_this a_forms a_sizes a_items a_moved a_bytes a_typed a_chances a_longs a_letters a_isThere a_pieceLongs a_pieceLetters a_song a_settings a_guess a_row a_least a_nights f_latest f_at f_names f_pieces f_songLong f_guesses f_todo r_bytes r_typed) (va_A (w_Mo_type ct a_this a_forms a_sizes a_items a_moved a_bytes a_typed a_chances a_longs a_letters a_isThere a_pieceLongs a_pieceLetters a_song a_settings a_guess a_row a_least a_nights f_latest f_at f_names f_pieces f_songLong f_guesses f_todo f_bytes f_typed) sz)) 0 0 (va_A (w_Mo_type ct a_this a_forms a_sizes a_items a_moved a_bytes a_typed a_chances a_longs a_letters a_isThere a_pieceLongs a_pieceLetters a_song a_settings a_guess a_row a_least a_nights f_latest f_at f_names f_pieces f_songLong f_guesses f_todo f_bytes f_typed) sz) := by
  refine kMetM yn_yX11_type rfl (Nat.le_of_ble_eq_true rfl) ?_
  intro p e s m args below meth c A C hA hP hD ls hl
  have hl : lv_has ls 3 [(0, .ref a_this), (1, .int x1), (2, .int x2)] := hl
  have hS : va_S A s.heap s.heap [] := va_S.rf
  obtain ⟨hx, hb, hr, hml, hown, hts, hlk, hK, hN⟩ := id C
  unfold Mo_type at hf
  refine lv_iload_n hx hb dX11_type_0 rfl (lv_at hl 1 rfl) ?_
  obtain ⟨v1, hc1, hf⟩ := cb1_some hf
  refine kcRS (As := [.int x1]) (rest := []) (st1 := [.int v1]) C (c_Mo_isText l D ct x1 v1 hc1) ⟨rfl, rfl⟩ yn_yX11_isText tw_1067 tw_1066 ⟨Nat.le_of_ble_eq_true rfl, Nat.le_of_ble_eq_true rfl⟩ ⟨Nat.zero_le _, Nat.zero_le _⟩ hP [] rfl hl.1 rfl rfl (Nat.le_of_ble_eq_true rfl) dX11_type_1 rfl ?_
  refine lv_if_eq (tgt := 19) hx hb dX11_type_4 (by decide) (fun hc => ?_) (fun hc => ?_)
  · have hf := kpos hc hf
    refine lv_bipush (v := (-2)) hx hb dX11_type_19 (by decide) ?_
    obtain ⟨e1, e2, e3⟩ := ti3 hf
    subst e1; subst e2; subst e3
    exact kretM C hP hD hS dX11_type_21
  · have hf := kneg hc hf
    refine lv_iload_n hx hb dX11_type_7 rfl (lv_at hl 2 rfl) ?_
    refine lv_i2l (v := Int32.toInt64 x2) hx hb dX11_type_8 rfl ?_
    refine lv_lconst (v := 0) hx hb dX11_type_9 (by decide) ?_
    refine lv_ldc2 (v := 255) hx hb hown (hts _ tw_1069) dX11_type_10 ?_
    obtain ⟨v13, hc13, hf⟩ := cb1_some hf
    refine kcRS (As := [.long (Int32.toInt64 x2), .long 0, .long 255]) (rest := []) (st1 := [.int v13]) C (c_Mo_in l D ct (Int32.toInt64 x2) 0 255 v13 hc13) ⟨rfl, rfl⟩ yn_yX11_in tw_1031 tw_1030 ⟨Nat.le_of_ble_eq_true rfl, Nat.le_of_ble_eq_true rfl⟩ ⟨Nat.zero_le _, Nat.zero_le _⟩ hP [] rfl hl.1 rfl rfl (Nat.le_of_ble_eq_true rfl) dX11_type_13 rfl ?_
    refine lv_if_ne (tgt := 22) hx hb dX11_type_16 (by decide) (fun hc => ?_) (fun hc => ?_)
    · have hf := kneg hc hf
      refine lv_aload_n hx hb dX11_type_22 rfl (lv_at hl 0 rfl) ?_
      refine va_get (ci := 11) (v := .ref a_typed) (C := RX11) (T := TX11) (N := 25) hx hb hts inX11 hown hK hP 0 rfl rfl 6 (by decide) (hts _ tw_951) (fun _ h9 => h9) rfl dX11_type_23 ?_
      refine lv_iload_n hx hb dX11_type_26 rfl (lv_at hl 1 rfl) ?_
      obtain ⟨hin, hf⟩ := rd_some hf
      generalize ev27 : f_typed (Int32.toNatClampNeg x1) = v27 at hf
      refine kiald hx hb hK hP 2 0 rfl rfl hin ev27 dX11_type_27 ?_
      refine lv_iload_n hx hb dX11_type_28 rfl (lv_at hl 1 rfl) ?_
      obtain ⟨v29, hc29, hf⟩ := cb1_some hf
      refine kcRS (As := [.int x1]) (rest := [.int v27]) (st1 := [.int v29, .int v27]) C (c_Mo_room l D ct x1 v29 hc29) ⟨rfl, rfl⟩ yn_yX11_room tw_1071 tw_1070 ⟨Nat.le_of_ble_eq_true rfl, Nat.le_of_ble_eq_true rfl⟩ ⟨Nat.zero_le _, Nat.zero_le _⟩ hP [] rfl hl.1 rfl rfl (Nat.le_of_ble_eq_true rfl) dX11_type_29 rfl ?_
      refine lv_icmp_ne (tgt := 38) hx hb dX11_type_32 (by decide) (fun hc => ?_) (fun hc => ?_)
      · have hf := kneg hc hf
        refine lv_aload_n hx hb dX11_type_38 rfl (lv_at hl 0 rfl) ?_
        refine va_get (ci := 11) (v := .ref a_bytes) (C := RX11) (T := TX11) (N := 25) hx hb hts inX11 hown hK hP 0 rfl rfl 5 (by decide) (hts _ tw_950) (fun _ h9 => h9) rfl dX11_type_39 ?_
        refine lv_bipush (v := 80) hx hb dX11_type_42 (by decide) ?_
        refine lv_iload_n hx hb dX11_type_44 rfl (lv_at hl 1 rfl) ?_
        refine lv_imul hx hb dX11_type_45 ?_
        refine lv_aload_n hx hb dX11_type_46 rfl (lv_at hl 0 rfl) ?_
        refine va_get (ci := 11) (v := .ref a_typed) (C := RX11) (T := TX11) (N := 25) hx hb hts inX11 hown hK hP 0 rfl rfl 6 (by decide) (hts _ tw_951) (fun _ h9 => h9) rfl dX11_type_47 ?_
        refine lv_iload_n hx hb dX11_type_50 rfl (lv_at hl 1 rfl) ?_
        obtain ⟨hin, hf⟩ := rd_some hf
        generalize ev51 : f_typed (Int32.toNatClampNeg x1) = v51 at hf
        refine kiald hx hb hK hP 2 0 rfl rfl hin ev51 dX11_type_51 ?_
        refine lv_iadd hx hb dX11_type_52 ?_
        refine lv_iload_n hx hb dX11_type_53 rfl (lv_at hl 2 rfl) ?_
        obtain ⟨hin, f_bytes_54, ev54, hf⟩ := wr_ex hf
        refine kiast hx hb hK hP hD hS 1 0 rfl rfl hin ev54 dX11_type_54 (fun H locs hP hD hS => ?_)
        have hP : va_P D vwCl (w_Mo_type ct a_this a_forms a_sizes a_items a_moved a_bytes a_typed a_chances a_longs a_letters a_isThere a_pieceLongs a_pieceLetters a_song a_settings a_guess a_row a_least a_nights f_latest f_at f_names f_pieces f_songLong f_guesses f_todo f_bytes_54 f_typed) H := hP
        have hD : va_D A (w_Mo_type ct a_this a_forms a_sizes a_items a_moved a_bytes a_typed a_chances a_longs a_letters a_isThere a_pieceLongs a_pieceLetters a_song a_settings a_guess a_row a_least a_nights f_latest f_at f_names f_pieces f_songLong f_guesses f_todo f_bytes_54 f_typed) := hD
        refine lv_aload_n hx hb dX11_type_55 rfl (lv_at hl 0 rfl) ?_
        refine va_get (ci := 11) (v := .ref a_typed) (C := RX11) (T := TX11) (N := 25) hx hb hts inX11 hown hK hP 0 rfl rfl 6 (by decide) (hts _ tw_951) (fun _ h9 => h9) rfl dX11_type_56 ?_
        refine lv_iload_n hx hb dX11_type_59 rfl (lv_at hl 1 rfl) ?_
        refine lv_dup2_11 hx hb dX11_type_60 rfl rfl ?_
        obtain ⟨hin, hf⟩ := rd_some hf
        generalize ev61 : f_typed (Int32.toNatClampNeg x1) = v61 at hf
        refine kiald hx hb hK hP 2 0 rfl rfl hin ev61 dX11_type_61 ?_
        refine lv_iconst (v := 1) hx hb dX11_type_62 (by decide) ?_
        refine lv_iadd hx hb dX11_type_63 ?_
        obtain ⟨hin, f_typed_64, ev64, hf⟩ := wr_ex hf
        refine kiast hx hb hK hP hD hS 2 0 rfl rfl hin ev64 dX11_type_64 (fun H locs hP hD hS => ?_)
        have hP : va_P D vwCl (w_Mo_type ct a_this a_forms a_sizes a_items a_moved a_bytes a_typed a_chances a_longs a_letters a_isThere a_pieceLongs a_pieceLetters a_song a_settings a_guess a_row a_least a_nights f_latest f_at f_names f_pieces f_songLong f_guesses f_todo f_bytes_54 f_typed_64) H := hP
        have hD : va_D A (w_Mo_type ct a_this a_forms a_sizes a_items a_moved a_bytes a_typed a_chances a_longs a_letters a_isThere a_pieceLongs a_pieceLetters a_song a_settings a_guess a_row a_least a_nights f_latest f_at f_names f_pieces f_songLong f_guesses f_todo f_bytes_54 f_typed_64) := hD
        refine lv_aload_n hx hb dX11_type_65 rfl (lv_at hl 0 rfl) ?_
        refine va_get (ci := 11) (v := .ref a_typed) (C := RX11) (T := TX11) (N := 25) hx hb hts inX11 hown hK hP 0 rfl rfl 6 (by decide) (hts _ tw_951) (fun _ h9 => h9) rfl dX11_type_66 ?_
        refine lv_iload_n hx hb dX11_type_69 rfl (lv_at hl 1 rfl) ?_
        obtain ⟨hin, hf⟩ := rd_some hf
        generalize ev70 : f_typed_64 (Int32.toNatClampNeg x1) = v70 at hf
        refine kiald hx hb hK hP 2 0 rfl rfl hin ev70 dX11_type_70 ?_
        obtain ⟨e1, e2, e3⟩ := ti3 hf
        subst e1; subst e2; subst e3
        exact kretM C hP hD hS dX11_type_71
      · have hf := kpos hc hf
        refine lv_bipush (v := (-4)) hx hb dX11_type_35 (by decide) ?_
        obtain ⟨e1, e2, e3⟩ := ti3 hf
        subst e1; subst e2; subst e3
        exact kretM C hP hD hS dX11_type_37
    · have hf := kpos hc hf
      refine lv_bipush (v := (-2)) hx hb dX11_type_19 (by decide) ?_
      obtain ⟨e1, e2, e3⟩ := ti3 hf
      subst e1; subst e2; subst e3
      exact kretM C hP hD hS dX11_type_21
def RM_Mo_wipe : Room := { frames := 2, cells := 0, slots := 0, locals := 45 }
set_option maxHeartbeats 4000000 in
set_option maxRecDepth 100000 in
theorem c_Mo_wipe (l : Launch) (D : va_G) (ct : Nat → ClassId) (a_this a_forms a_sizes a_items a_moved a_bytes a_typed a_chances a_longs a_letters a_isThere a_pieceLongs a_pieceLetters a_song a_settings a_guess a_row a_least a_nights : Nat) (f_latest : Int32) (f_at : Int32) (f_names : Int32) (f_pieces : Int32) (f_songLong : Int32) (f_guesses : Int32) (f_todo : Int32) (f_typed : Nat → Int32) (x1 : Int32) (r : Int32) (r_typed : Nat → Int32) (sz : Nat) (hf : Mo_wipe f_typed x1 = some (r, r_typed)) : Met l yX11_wipe (WS yX11_wipe cX11_wipe 3 (some .int)) RM_Mo_wipe (va_Pc [.ref a_this, .int x1] (PM D ct sz (w_Mo_wipe ct a_this a_forms a_sizes a_items a_moved a_bytes a_typed a_chances a_longs a_letters a_isThere a_pieceLongs a_pieceLetters a_song a_settings a_guess a_row a_least a_nights f_latest f_at f_names f_pieces f_songLong f_guesses f_todo f_typed))) (QM D (some (.int r)) (w_Mo_wipe ct a_this a_forms a_sizes a_items a_moved a_bytes a_typed a_chances a_longs a_letters a_isThere a_pieceLongs a_pieceLetters a_song a_settings a_guess a_row a_least a_nights f_latest f_at f_names f_pieces f_songLong f_guesses f_todo r_typed) (va_A (w_Mo_wipe ct a_this a_forms a_sizes a_items a_moved a_bytes a_typed a_chances a_longs a_letters a_isThere a_pieceLongs a_pieceLetters a_song a_settings a_guess a_row a_least a_nights f_latest f_at f_names f_pieces f_songLong f_guesses f_todo f_typed) sz)) 0 0 (va_A (w_Mo_wipe ct a_this a_forms a_sizes a_items a_moved a_bytes a_typed a_chances a_longs a_letters a_isThere a_pieceLongs a_pieceLetters a_song a_settings a_guess a_row a_least a_nights f_latest f_at f_names f_pieces f_songLong f_guesses f_todo f_typed) sz) := by
  refine kMetM yn_yX11_wipe rfl (Nat.le_of_ble_eq_true rfl) ?_
  intro p e s m args below meth c A C hA hP hD ls hl
  have hl : lv_has ls 3 [(0, .ref a_this), (1, .int x1)] := hl
  have hS : va_S A s.heap s.heap [] := va_S.rf
  obtain ⟨hx, hb, hr, hml, hown, hts, hlk, hK, hN⟩ := id C
  unfold Mo_wipe at hf
  refine lv_iload_n hx hb dX11_wipe_0 rfl (lv_at hl 1 rfl) ?_
  obtain ⟨v1, hc1, hf⟩ := cb1_some hf
  refine kcRS (As := [.int x1]) (rest := []) (st1 := [.int v1]) C (c_Mo_isText l D ct x1 v1 hc1) ⟨rfl, rfl⟩ yn_yX11_isText tw_1067 tw_1066 ⟨Nat.le_of_ble_eq_true rfl, Nat.le_of_ble_eq_true rfl⟩ ⟨Nat.zero_le _, Nat.zero_le _⟩ hP [] rfl hl.1 rfl rfl (Nat.le_of_ble_eq_true rfl) dX11_wipe_1 rfl ?_
  refine lv_if_ne (tgt := 10) hx hb dX11_wipe_4 (by decide) (fun hc => ?_) (fun hc => ?_)
  · have hf := kneg hc hf
    refine lv_aload_n hx hb dX11_wipe_10 rfl (lv_at hl 0 rfl) ?_
    refine va_get (ci := 11) (v := .ref a_typed) (C := RX11) (T := TX11) (N := 25) hx hb hts inX11 hown hK hP 0 rfl rfl 6 (by decide) (hts _ tw_951) (fun _ h9 => h9) rfl dX11_wipe_11 ?_
    refine lv_iload_n hx hb dX11_wipe_14 rfl (lv_at hl 1 rfl) ?_
    obtain ⟨hin, hf⟩ := rd_some hf
    generalize ev15 : f_typed (Int32.toNatClampNeg x1) = v15 at hf
    refine kiald hx hb hK hP 1 0 rfl rfl hin ev15 dX11_wipe_15 ?_
    refine lv_istore_n (lv' := [(2, .int v15), (0, .ref a_this), (1, .int x1)]) hx hb dX11_wipe_16 rfl hl (by decide) rfl (fun ls hl => ?_)
    refine lv_aload_n hx hb dX11_wipe_17 rfl (lv_at hl 1 rfl) ?_
    refine va_get (ci := 11) (v := .ref a_typed) (C := RX11) (T := TX11) (N := 25) hx hb hts inX11 hown hK hP 0 rfl rfl 6 (by decide) (hts _ tw_951) (fun _ h9 => h9) rfl dX11_wipe_18 ?_
    refine lv_iload_n hx hb dX11_wipe_21 rfl (lv_at hl 2 rfl) ?_
    refine lv_iconst (v := 0) hx hb dX11_wipe_22 (by decide) ?_
    obtain ⟨hin, f_typed_23, ev23, hf⟩ := wr_ex hf
    refine kiast hx hb hK hP hD hS 1 0 rfl rfl hin ev23 dX11_wipe_23 (fun H locs hP hD hS => ?_)
    have hP : va_P D vwCl (w_Mo_wipe ct a_this a_forms a_sizes a_items a_moved a_bytes a_typed a_chances a_longs a_letters a_isThere a_pieceLongs a_pieceLetters a_song a_settings a_guess a_row a_least a_nights f_latest f_at f_names f_pieces f_songLong f_guesses f_todo f_typed_23) H := hP
    have hD : va_D A (w_Mo_wipe ct a_this a_forms a_sizes a_items a_moved a_bytes a_typed a_chances a_longs a_letters a_isThere a_pieceLongs a_pieceLetters a_song a_settings a_guess a_row a_least a_nights f_latest f_at f_names f_pieces f_songLong f_guesses f_todo f_typed_23) := hD
    refine lv_iload_n hx hb dX11_wipe_24 rfl (lv_at hl 0 rfl) ?_
    obtain ⟨e1, e2⟩ := ti2 hf
    subst e1; subst e2
    exact kretM C hP hD hS dX11_wipe_25
  · have hf := kpos hc hf
    refine lv_bipush (v := (-2)) hx hb dX11_wipe_7 (by decide) ?_
    obtain ⟨e1, e2⟩ := ti2 hf
    subst e1; subst e2
    exact kretM C hP hD hS dX11_wipe_9
def RM_Mo_undo : Room := { frames := 2, cells := 0, slots := 0, locals := 45 }
set_option maxHeartbeats 4000000 in
set_option maxRecDepth 100000 in
theorem c_Mo_undo (l : Launch) (D : va_G) (ct : Nat → ClassId) (a_this a_forms a_sizes a_items a_moved a_bytes a_typed a_chances a_longs a_letters a_isThere a_pieceLongs a_pieceLetters a_song a_settings a_guess a_row a_least a_nights : Nat) (f_latest : Int32) (f_at : Int32) (f_names : Int32) (f_pieces : Int32) (f_songLong : Int32) (f_guesses : Int32) (f_todo : Int32) (f_typed : Nat → Int32) (x1 : Int32) (r : Int32) (r_typed : Nat → Int32) (sz : Nat) (hf : Mo_undo f_typed x1 = some (r, r_typed)) : Met l yX11_undo (WS yX11_undo cX11_undo 2 (some .int)) RM_Mo_undo (va_Pc [.ref a_this, .int x1] (PM D ct sz (w_Mo_undo ct a_this a_forms a_sizes a_items a_moved a_bytes a_typed a_chances a_longs a_letters a_isThere a_pieceLongs a_pieceLetters a_song a_settings a_guess a_row a_least a_nights f_latest f_at f_names f_pieces f_songLong f_guesses f_todo f_typed))) (QM D (some (.int r)) (w_Mo_undo ct a_this a_forms a_sizes a_items a_moved a_bytes a_typed a_chances a_longs a_letters a_isThere a_pieceLongs a_pieceLetters a_song a_settings a_guess a_row a_least a_nights f_latest f_at f_names f_pieces f_songLong f_guesses f_todo r_typed) (va_A (w_Mo_undo ct a_this a_forms a_sizes a_items a_moved a_bytes a_typed a_chances a_longs a_letters a_isThere a_pieceLongs a_pieceLetters a_song a_settings a_guess a_row a_least a_nights f_latest f_at f_names f_pieces f_songLong f_guesses f_todo f_typed) sz)) 0 0 (va_A (w_Mo_undo ct a_this a_forms a_sizes a_items a_moved a_bytes a_typed a_chances a_longs a_letters a_isThere a_pieceLongs a_pieceLetters a_song a_settings a_guess a_row a_least a_nights f_latest f_at f_names f_pieces f_songLong f_guesses f_todo f_typed) sz) := by
  refine kMetM yn_yX11_undo rfl (Nat.le_of_ble_eq_true rfl) ?_
  intro p e s m args below meth c A C hA hP hD ls hl
  have hl : lv_has ls 2 [(0, .ref a_this), (1, .int x1)] := hl
  have hS : va_S A s.heap s.heap [] := va_S.rf
  obtain ⟨hx, hb, hr, hml, hown, hts, hlk, hK, hN⟩ := id C
  unfold Mo_undo at hf
  refine lv_iload_n hx hb dX11_undo_0 rfl (lv_at hl 1 rfl) ?_
  obtain ⟨v1, hc1, hf⟩ := cb1_some hf
  refine kcRS (As := [.int x1]) (rest := []) (st1 := [.int v1]) C (c_Mo_isText l D ct x1 v1 hc1) ⟨rfl, rfl⟩ yn_yX11_isText tw_1067 tw_1066 ⟨Nat.le_of_ble_eq_true rfl, Nat.le_of_ble_eq_true rfl⟩ ⟨Nat.zero_le _, Nat.zero_le _⟩ hP [] rfl hl.1 rfl rfl (Nat.le_of_ble_eq_true rfl) dX11_undo_1 rfl ?_
  refine lv_if_ne (tgt := 10) hx hb dX11_undo_4 (by decide) (fun hc => ?_) (fun hc => ?_)
  · have hf := kneg hc hf
    refine lv_aload_n hx hb dX11_undo_10 rfl (lv_at hl 0 rfl) ?_
    refine va_get (ci := 11) (v := .ref a_typed) (C := RX11) (T := TX11) (N := 25) hx hb hts inX11 hown hK hP 0 rfl rfl 6 (by decide) (hts _ tw_951) (fun _ h9 => h9) rfl dX11_undo_11 ?_
    refine lv_iload_n hx hb dX11_undo_14 rfl (lv_at hl 1 rfl) ?_
    obtain ⟨hin, hf⟩ := rd_some hf
    generalize ev15 : f_typed (Int32.toNatClampNeg x1) = v15 at hf
    refine kiald hx hb hK hP 1 0 rfl rfl hin ev15 dX11_undo_15 ?_
    refine lv_if_ne (tgt := 22) hx hb dX11_undo_16 (by decide) (fun hc => ?_) (fun hc => ?_)
    · have hf := kneg hc hf
      refine lv_aload_n hx hb dX11_undo_22 rfl (lv_at hl 0 rfl) ?_
      refine va_get (ci := 11) (v := .ref a_typed) (C := RX11) (T := TX11) (N := 25) hx hb hts inX11 hown hK hP 0 rfl rfl 6 (by decide) (hts _ tw_951) (fun _ h9 => h9) rfl dX11_undo_23 ?_
      refine lv_iload_n hx hb dX11_undo_26 rfl (lv_at hl 1 rfl) ?_
      refine lv_dup2_11 hx hb dX11_undo_27 rfl rfl ?_
      obtain ⟨hin, hf⟩ := rd_some hf
      generalize ev28 : f_typed (Int32.toNatClampNeg x1) = v28 at hf
      refine kiald hx hb hK hP 1 0 rfl rfl hin ev28 dX11_undo_28 ?_
      refine lv_iconst (v := 1) hx hb dX11_undo_29 (by decide) ?_
      refine lv_isub hx hb dX11_undo_30 ?_
      obtain ⟨hin, f_typed_31, ev31, hf⟩ := wr_ex hf
      refine kiast hx hb hK hP hD hS 1 0 rfl rfl hin ev31 dX11_undo_31 (fun H locs hP hD hS => ?_)
      have hP : va_P D vwCl (w_Mo_undo ct a_this a_forms a_sizes a_items a_moved a_bytes a_typed a_chances a_longs a_letters a_isThere a_pieceLongs a_pieceLetters a_song a_settings a_guess a_row a_least a_nights f_latest f_at f_names f_pieces f_songLong f_guesses f_todo f_typed_31) H := hP
      have hD : va_D A (w_Mo_undo ct a_this a_forms a_sizes a_items a_moved a_bytes a_typed a_chances a_longs a_letters a_isThere a_pieceLongs a_pieceLetters a_song a_settings a_guess a_row a_least a_nights f_latest f_at f_names f_pieces f_songLong f_guesses f_todo f_typed_31) := hD
      refine lv_aload_n hx hb dX11_undo_32 rfl (lv_at hl 0 rfl) ?_
      refine va_get (ci := 11) (v := .ref a_typed) (C := RX11) (T := TX11) (N := 25) hx hb hts inX11 hown hK hP 0 rfl rfl 6 (by decide) (hts _ tw_951) (fun _ h9 => h9) rfl dX11_undo_33 ?_
      refine lv_iload_n hx hb dX11_undo_36 rfl (lv_at hl 1 rfl) ?_
      obtain ⟨hin, hf⟩ := rd_some hf
      generalize ev37 : f_typed_31 (Int32.toNatClampNeg x1) = v37 at hf
      refine kiald hx hb hK hP 1 0 rfl rfl hin ev37 dX11_undo_37 ?_
      obtain ⟨e1, e2⟩ := ti2 hf
      subst e1; subst e2
      exact kretM C hP hD hS dX11_undo_38
    · have hf := kpos hc hf
      refine lv_bipush (v := (-3)) hx hb dX11_undo_19 (by decide) ?_
      obtain ⟨e1, e2⟩ := ti2 hf
      subst e1; subst e2
      exact kretM C hP hD hS dX11_undo_21
  · have hf := kpos hc hf
    refine lv_bipush (v := (-2)) hx hb dX11_undo_7 (by decide) ?_
    obtain ⟨e1, e2⟩ := ti2 hf
    subst e1; subst e2
    exact kretM C hP hD hS dX11_undo_9
def RM_Mo_here : Room := { frames := 0, cells := 0, slots := 0, locals := 0 }
set_option maxHeartbeats 4000000 in
set_option maxRecDepth 100000 in
theorem c_Mo_here (l : Launch) (D : va_G) (ct : Nat → ClassId) (a_this a_forms a_sizes a_items a_moved a_bytes a_typed a_chances a_longs a_letters a_isThere a_pieceLongs a_pieceLetters a_song a_settings a_guess a_row a_least a_nights : Nat) (f_latest : Int32) (f_names : Int32) (f_pieces : Int32) (f_songLong : Int32) (f_guesses : Int32) (f_todo : Int32) (f_at : Int32) (f_bytes : Nat → Int32) (f_typed : Nat → Int32) (x1 : Int32) (r : Int32) (hf : Mo_here f_at f_bytes f_typed x1 = some r) : Met l yX11_here (WS yX11_here cX11_here 2 (some .int)) RM_Mo_here (va_Pc [.ref a_this, .int x1] (PR D ct (w_Mo_here ct a_this a_forms a_sizes a_items a_moved a_bytes a_typed a_chances a_longs a_letters a_isThere a_pieceLongs a_pieceLetters a_song a_settings a_guess a_row a_least a_nights f_latest f_at f_names f_pieces f_songLong f_guesses f_todo f_bytes f_typed))) (QR (some (.int r))) 0 0 (fun _ => False) := by
  refine kMetR yn_yX11_here rfl (Nat.le_of_ble_eq_true rfl) ?_
  intro p e s m args below meth c C hP ls hl
  have hl : lv_has ls 2 [(0, .ref a_this), (1, .int x1)] := hl
  obtain ⟨hx, hb, hr, hml, hown, hts, hlk, hK, hN⟩ := id C
  unfold Mo_here at hf
  refine lv_aload_n hx hb dX11_here_0 rfl (lv_at hl 0 rfl) ?_
  refine va_get (ci := 11) (v := .int f_at) (C := RX11) (T := TX11) (N := 25) hx hb hts inX11 hown hK hP 0 rfl rfl 7 (by decide) (hts _ tw_952) (fun _ h9 => h9) rfl dX11_here_1 ?_
  refine lv_aload_n hx hb dX11_here_4 rfl (lv_at hl 0 rfl) ?_
  refine va_get (ci := 11) (v := .ref a_typed) (C := RX11) (T := TX11) (N := 25) hx hb hts inX11 hown hK hP 0 rfl rfl 6 (by decide) (hts _ tw_951) (fun _ h9 => h9) rfl dX11_here_5 ?_
  refine lv_iload_n hx hb dX11_here_8 rfl (lv_at hl 1 rfl) ?_
  obtain ⟨hin, hf⟩ := rd_some hf
  generalize ev9 : f_typed (Int32.toNatClampNeg x1) = v9 at hf
  refine kiald hx hb hK hP 2 0 rfl rfl hin ev9 dX11_here_9 ?_
  refine lv_icmp_ge (tgt := 30) hx hb dX11_here_10 (by decide) (fun hc => ?_) (fun hc => ?_)
  · have hf := kpos hc hf
    refine lv_iconst (v := (-1)) hx hb dX11_here_30 (by decide) ?_
    have e1 := Option.some.inj hf
    subst e1
    exact kretR C dX11_here_31
  · have hf := kneg hc hf
    refine lv_aload_n hx hb dX11_here_13 rfl (lv_at hl 0 rfl) ?_
    refine va_get (ci := 11) (v := .ref a_bytes) (C := RX11) (T := TX11) (N := 25) hx hb hts inX11 hown hK hP 0 rfl rfl 5 (by decide) (hts _ tw_950) (fun _ h9 => h9) rfl dX11_here_14 ?_
    refine lv_bipush (v := 80) hx hb dX11_here_17 (by decide) ?_
    refine lv_iload_n hx hb dX11_here_19 rfl (lv_at hl 1 rfl) ?_
    refine lv_imul hx hb dX11_here_20 ?_
    refine lv_aload_n hx hb dX11_here_21 rfl (lv_at hl 0 rfl) ?_
    refine va_get (ci := 11) (v := .int f_at) (C := RX11) (T := TX11) (N := 25) hx hb hts inX11 hown hK hP 0 rfl rfl 7 (by decide) (hts _ tw_952) (fun _ h9 => h9) rfl dX11_here_22 ?_
    refine lv_iadd hx hb dX11_here_25 ?_
    obtain ⟨hin, hf⟩ := rd_some hf
    generalize ev26 : f_bytes (Int32.toNatClampNeg ((80 * x1) + f_at)) = v26 at hf
    refine kiald hx hb hK hP 1 0 rfl rfl hin ev26 dX11_here_26 ?_
    refine lv_goto (tgt := 31) hx hb dX11_here_27 (by decide) ?_
    have e1 := Option.some.inj hf
    subst e1
    exact kretR C dX11_here_31
def RM_Mo_letter : Room := { frames := 1, cells := 0, slots := 0, locals := 25 }
set_option maxHeartbeats 4000000 in
set_option maxRecDepth 100000 in
theorem c_Mo_letter (l : Launch) (D : va_G) (ct : Nat → ClassId) (a_this a_forms a_sizes a_items a_moved a_bytes a_typed a_chances a_longs a_letters a_isThere a_pieceLongs a_pieceLetters a_song a_settings a_guess a_row a_least a_nights : Nat) (f_latest : Int32) (f_names : Int32) (f_pieces : Int32) (f_songLong : Int32) (f_guesses : Int32) (f_todo : Int32) (f_at : Int32) (f_bytes : Nat → Int32) (f_typed : Nat → Int32) (x1 : Int32) (r : Int32) (hf : Mo_letter f_at f_bytes f_typed x1 = some r) : Met l yX11_letter (WS yX11_letter cX11_letter 3 (some .int)) RM_Mo_letter (va_Pc [.ref a_this, .int x1] (PR D ct (w_Mo_letter ct a_this a_forms a_sizes a_items a_moved a_bytes a_typed a_chances a_longs a_letters a_isThere a_pieceLongs a_pieceLetters a_song a_settings a_guess a_row a_least a_nights f_latest f_at f_names f_pieces f_songLong f_guesses f_todo f_bytes f_typed))) (QR (some (.int r))) 0 0 (fun _ => False) := by
  refine kMetR yn_yX11_letter rfl (Nat.le_of_ble_eq_true rfl) ?_
  intro p e s m args below meth c C hP ls hl
  have hl : lv_has ls 3 [(0, .ref a_this), (1, .int x1)] := hl
  obtain ⟨hx, hb, hr, hml, hown, hts, hlk, hK, hN⟩ := id C
  unfold Mo_letter at hf
  refine lv_aload_n hx hb dX11_letter_0 rfl (lv_at hl 0 rfl) ?_
  refine lv_iload_n hx hb dX11_letter_1 rfl (lv_at hl 1 rfl) ?_
  obtain ⟨v2, hc2, hf⟩ := cb1_some hf
  refine kcRV (q0 := 0) (ci := 11) (As := [.int x1]) (rest := []) (st1 := [.int v2]) C (c_Mo_here l D ct a_this a_forms a_sizes a_items a_moved a_bytes a_typed a_chances a_longs a_letters a_isThere a_pieceLongs a_pieceLetters a_song a_settings a_guess a_row a_least a_nights f_latest f_names f_pieces f_songLong f_guesses f_todo f_at f_bytes f_typed x1 v2 hc2) ⟨rfl, rfl⟩ yn_yX11_here tw_1095 tw_30 tw_1093 ⟨Nat.le_of_ble_eq_true rfl, Nat.le_of_ble_eq_true rfl⟩ ⟨Nat.zero_le _, Nat.zero_le _⟩ hP [0, 1, 2] rfl rfl rfl rfl hl.1 rfl rfl (Nat.le_of_ble_eq_true rfl) dX11_letter_2 rfl ?_
  refine lv_bipush (v := 97) hx hb dX11_letter_5 (by decide) ?_
  refine lv_isub hx hb dX11_letter_7 ?_
  refine lv_istore_n (lv' := [(2, .int (v2 - 97)), (0, .ref a_this), (1, .int x1)]) hx hb dX11_letter_8 rfl hl (by decide) rfl (fun ls hl => ?_)
  refine lv_iload_n hx hb dX11_letter_9 rfl (lv_at hl 0 rfl) ?_
  refine lv_i2l (v := Int32.toInt64 (v2 - 97)) hx hb dX11_letter_10 rfl ?_
  refine lv_lconst (v := 0) hx hb dX11_letter_11 (by decide) ?_
  refine lv_ldc2 (v := 5) hx hb hown (hts _ tw_1102) dX11_letter_12 ?_
  obtain ⟨v15, hc15, hf⟩ := cb1_some hf
  refine kcRS (As := [.long (Int32.toInt64 (v2 - 97)), .long 0, .long 5]) (rest := []) (st1 := [.int v15]) C (c_Mo_in l D ct (Int32.toInt64 (v2 - 97)) 0 5 v15 hc15) ⟨rfl, rfl⟩ yn_yX11_in tw_1031 tw_1030 ⟨Nat.le_of_ble_eq_true rfl, Nat.le_of_ble_eq_true rfl⟩ ⟨Nat.zero_le _, Nat.zero_le _⟩ hP [] rfl hl.1 rfl rfl (Nat.le_of_ble_eq_true rfl) dX11_letter_15 rfl ?_
  refine lv_if_eq (tgt := 25) hx hb dX11_letter_18 (by decide) (fun hc => ?_) (fun hc => ?_)
  · have hf := kpos hc hf
    refine lv_iconst (v := (-1)) hx hb dX11_letter_25 (by decide) ?_
    have e1 := Option.some.inj hf
    subst e1
    exact kretR C dX11_letter_26
  · have hf := kneg hc hf
    refine lv_iload_n hx hb dX11_letter_21 rfl (lv_at hl 0 rfl) ?_
    refine lv_goto (tgt := 26) hx hb dX11_letter_22 (by decide) ?_
    have e1 := Option.some.inj hf
    subst e1
    exact kretR C dX11_letter_26
def RM_Mo_readsName : Room := { frames := 2, cells := 0, slots := 0, locals := 47 }
set_option maxHeartbeats 4000000 in
set_option maxRecDepth 100000 in
theorem t_Mo_readsName_b94 {p : Program} {l : Launch} {e : Env} {s : State} {m : MethodId} {args : Array Value} {below : List Frame} {meth : Method} {c : Code} {D : va_G} {ct : Nat → ClassId} (C : CX p s m args meth c RX11 cX11_readsName 3 (some .boolean) D ct) {A : Nat → Prop} (hA : ∀ q : Nat, s.heap.size ≤ q → A q) (a_this a_forms a_sizes a_items a_moved a_bytes a_typed a_chances a_longs a_letters a_isThere a_pieceLongs a_pieceLetters a_song a_settings a_guess a_row a_least a_nights : Nat) (f_latest : Int32) (f_pieces : Int32) (f_songLong : Int32) (f_guesses : Int32) (f_todo : Int32) (F : Nat) (f_bytes : Nat → Int32) (f_typed : Nat → Int32) (r : Int32) (r_at : Int32) (r_names : Int32) (r_chances : Nat → Int32) (r_longs : Nat → Int32) (r_letters : Nat → Int32) : ∀ (x1 : Int32) (x2 : Int32) (f_at : Int32) (f_names : Int32) (f_chances : Nat → Int32) (f_longs : Nat → Int32) (f_letters : Nat → Int32), Mo_readsName_b94 F f_bytes f_typed x1 x2 f_at f_names f_chances f_longs f_letters = some (r, r_at, r_names, r_chances, r_longs, r_letters) → ∀ (H : Heap) (locs : List Loc), va_P D vwCl (w_Mo_readsName ct a_this a_forms a_sizes a_items a_moved a_bytes a_typed a_chances a_longs a_letters a_isThere a_pieceLongs a_pieceLetters a_song a_settings a_guess a_row a_least a_nights f_latest f_at f_names f_pieces f_songLong f_guesses f_todo f_bytes f_typed f_chances f_longs f_letters) H → va_D A (w_Mo_readsName ct a_this a_forms a_sizes a_items a_moved a_bytes a_typed a_chances a_longs a_letters a_isThere a_pieceLongs a_pieceLetters a_song a_settings a_guess a_row a_least a_nights f_latest f_at f_names f_pieces f_songLong f_guesses f_todo f_bytes f_typed f_chances f_longs f_letters) → va_S A s.heap H locs → ∀ ls : Array Slot, lv_has ls 3 [(0, .ref a_this), (1, .int x1), (2, .int x2)] → W p l e RM_Mo_readsName s m args below meth c H locs 0 0 (MQ below (QM D (some (.int r)) (w_Mo_readsName ct a_this a_forms a_sizes a_items a_moved a_bytes a_typed a_chances a_longs a_letters a_isThere a_pieceLongs a_pieceLetters a_song a_settings a_guess a_row a_least a_nights f_latest r_at r_names f_pieces f_songLong f_guesses f_todo f_bytes f_typed r_chances r_longs r_letters) A) args s 0 0 A) (F0 m 94 ls []) := by
  obtain ⟨hx, hb, hr, hml, hown, hts, hlk, hK, hN⟩ := id C
  intro x1 x2 f_at f_names f_chances f_longs f_letters hf H locs hP hD hS ls hl
  unfold Mo_readsName_b94 at hf
  refine lv_iload_n hx hb dX11_readsName_94 rfl (lv_at hl 2 rfl) ?_
  refine lv_if_ne (tgt := 100) hx hb dX11_readsName_95 (by decide) (fun hc => ?_) (fun hc => ?_)
  · have hf := kneg hc hf
    refine lv_aload_n hx hb dX11_readsName_100 rfl (lv_at hl 0 rfl) ?_
    refine va_get (ci := 11) (v := .ref a_chances) (C := RX11) (T := TX11) (N := 25) hx hb hts inX11 hown hK hP 0 rfl rfl 9 (by decide) (hts _ tw_954) (fun _ h9 => h9) rfl dX11_readsName_101 ?_
    refine lv_aload_n hx hb dX11_readsName_104 rfl (lv_at hl 0 rfl) ?_
    refine va_get (ci := 11) (v := .int f_names) (C := RX11) (T := TX11) (N := 25) hx hb hts inX11 hown hK hP 0 rfl rfl 8 (by decide) (hts _ tw_953) (fun _ h9 => h9) rfl dX11_readsName_105 ?_
    refine lv_iload_n hx hb dX11_readsName_108 rfl (lv_at hl 1 rfl) ?_
    obtain ⟨hin, f_chances_109, ev109, hf⟩ := wr_ex hf
    refine kiast hx hb hK hP hD hS 3 0 rfl rfl hin ev109 dX11_readsName_109 (fun H locs hP hD hS => ?_)
    have hP : va_P D vwCl (w_Mo_readsName ct a_this a_forms a_sizes a_items a_moved a_bytes a_typed a_chances a_longs a_letters a_isThere a_pieceLongs a_pieceLetters a_song a_settings a_guess a_row a_least a_nights f_latest f_at f_names f_pieces f_songLong f_guesses f_todo f_bytes f_typed f_chances_109 f_longs f_letters) H := hP
    have hD : va_D A (w_Mo_readsName ct a_this a_forms a_sizes a_items a_moved a_bytes a_typed a_chances a_longs a_letters a_isThere a_pieceLongs a_pieceLetters a_song a_settings a_guess a_row a_least a_nights f_latest f_at f_names f_pieces f_songLong f_guesses f_todo f_bytes f_typed f_chances_109 f_longs f_letters) := hD
    refine lv_aload_n hx hb dX11_readsName_110 rfl (lv_at hl 0 rfl) ?_
    refine va_get (ci := 11) (v := .ref a_longs) (C := RX11) (T := TX11) (N := 25) hx hb hts inX11 hown hK hP 0 rfl rfl 10 (by decide) (hts _ tw_955) (fun _ h9 => h9) rfl dX11_readsName_111 ?_
    refine lv_aload_n hx hb dX11_readsName_114 rfl (lv_at hl 0 rfl) ?_
    refine va_get (ci := 11) (v := .int f_names) (C := RX11) (T := TX11) (N := 25) hx hb hts inX11 hown hK hP 0 rfl rfl 8 (by decide) (hts _ tw_953) (fun _ h9 => h9) rfl dX11_readsName_115 ?_
    refine lv_iload_n hx hb dX11_readsName_118 rfl (lv_at hl 2 rfl) ?_
    obtain ⟨hin, f_longs_119, ev119, hf⟩ := wr_ex hf
    refine kiast hx hb hK hP hD hS 4 0 rfl rfl hin ev119 dX11_readsName_119 (fun H locs hP hD hS => ?_)
    have hP : va_P D vwCl (w_Mo_readsName ct a_this a_forms a_sizes a_items a_moved a_bytes a_typed a_chances a_longs a_letters a_isThere a_pieceLongs a_pieceLetters a_song a_settings a_guess a_row a_least a_nights f_latest f_at f_names f_pieces f_songLong f_guesses f_todo f_bytes f_typed f_chances_109 f_longs_119 f_letters) H := hP
    have hD : va_D A (w_Mo_readsName ct a_this a_forms a_sizes a_items a_moved a_bytes a_typed a_chances a_longs a_letters a_isThere a_pieceLongs a_pieceLetters a_song a_settings a_guess a_row a_least a_nights f_latest f_at f_names f_pieces f_songLong f_guesses f_todo f_bytes f_typed f_chances_109 f_longs_119 f_letters) := hD
    refine lv_aload_n hx hb dX11_readsName_120 rfl (lv_at hl 0 rfl) ?_
    refine lv_dup hx hb dX11_readsName_121 rfl ?_
    refine va_get (ci := 11) (v := .int f_names) (C := RX11) (T := TX11) (N := 25) hx hb hts inX11 hown hK hP 0 rfl rfl 8 (by decide) (hts _ tw_953) (fun _ h9 => h9) rfl dX11_readsName_122 ?_
    refine lv_iconst (v := 1) hx hb dX11_readsName_125 (by decide) ?_
    refine lv_iadd hx hb dX11_readsName_126 ?_
    refine va_put (ci := 11) (v := .int (f_names + 1)) (ty := .int) (C := RX11) (T := TX11) (N := 25) hx hb hts inX11 tyX11 tyX11_ok nmX11 hown hK hP hD hS 0 rfl rfl 8 (by decide) (hts _ tw_953) (fun _ h9 => h9) rfl (tyX11_ok 8 (by decide)) rfl rfl (Nat.le_of_ble_eq_true rfl) dX11_readsName_127 (fun H locs hP hD hS => ?_)
    have hP : va_P D vwCl (w_Mo_readsName ct a_this a_forms a_sizes a_items a_moved a_bytes a_typed a_chances a_longs a_letters a_isThere a_pieceLongs a_pieceLetters a_song a_settings a_guess a_row a_least a_nights f_latest f_at (f_names + 1) f_pieces f_songLong f_guesses f_todo f_bytes f_typed f_chances_109 f_longs_119 f_letters) H := hP
    have hD : va_D A (w_Mo_readsName ct a_this a_forms a_sizes a_items a_moved a_bytes a_typed a_chances a_longs a_letters a_isThere a_pieceLongs a_pieceLetters a_song a_settings a_guess a_row a_least a_nights f_latest f_at (f_names + 1) f_pieces f_songLong f_guesses f_todo f_bytes f_typed f_chances_109 f_longs_119 f_letters) := hD
    refine lv_iconst (v := 1) hx hb dX11_readsName_130 (by decide) ?_
    obtain ⟨e1, e2, e3, e4, e5, e6⟩ := ti6 hf
    subst e1; subst e2; subst e3; subst e4; subst e5; subst e6
    exact kretMz C (by decide) hP hD hS dX11_readsName_131
  · have hf := kpos hc hf
    refine lv_iconst (v := 0) hx hb dX11_readsName_98 (by decide) ?_
    obtain ⟨e1, e2, e3, e4, e5, e6⟩ := ti6 hf
    subst e1; subst e2; subst e3; subst e4; subst e5; subst e6
    exact kretMz C (by decide) hP hD hS dX11_readsName_99
set_option maxHeartbeats 4000000 in
set_option maxRecDepth 100000 in
theorem t_Mo_readsName_b44 {p : Program} {l : Launch} {e : Env} {s : State} {m : MethodId} {args : Array Value} {below : List Frame} {meth : Method} {c : Code} {D : va_G} {ct : Nat → ClassId} (C : CX p s m args meth c RX11 cX11_readsName 3 (some .boolean) D ct) {A : Nat → Prop} (hA : ∀ q : Nat, s.heap.size ≤ q → A q) (a_this a_forms a_sizes a_items a_moved a_bytes a_typed a_chances a_longs a_letters a_isThere a_pieceLongs a_pieceLetters a_song a_settings a_guess a_row a_least a_nights : Nat) (f_latest : Int32) (f_pieces : Int32) (f_songLong : Int32) (f_guesses : Int32) (f_todo : Int32) (F : Nat) (f_bytes : Nat → Int32) (f_typed : Nat → Int32) (r : Int32) (r_at : Int32) (r_names : Int32) (r_chances : Nat → Int32) (r_longs : Nat → Int32) (r_letters : Nat → Int32) (rec44 : Int32 → Int32 → Int32 → Int32 → (Nat → Int32) → (Nat → Int32) → (Nat → Int32) → Option (Int32 × Int32 × Int32 × (Nat → Int32) × (Nat → Int32) × (Nat → Int32))) (hr44 : ∀ (x1 : Int32) (x2 : Int32) (f_at : Int32) (f_names : Int32) (f_chances : Nat → Int32) (f_longs : Nat → Int32) (f_letters : Nat → Int32), rec44 x1 x2 f_at f_names f_chances f_longs f_letters = some (r, r_at, r_names, r_chances, r_longs, r_letters) → ∀ (H : Heap) (locs : List Loc), va_P D vwCl (w_Mo_readsName ct a_this a_forms a_sizes a_items a_moved a_bytes a_typed a_chances a_longs a_letters a_isThere a_pieceLongs a_pieceLetters a_song a_settings a_guess a_row a_least a_nights f_latest f_at f_names f_pieces f_songLong f_guesses f_todo f_bytes f_typed f_chances f_longs f_letters) H → va_D A (w_Mo_readsName ct a_this a_forms a_sizes a_items a_moved a_bytes a_typed a_chances a_longs a_letters a_isThere a_pieceLongs a_pieceLetters a_song a_settings a_guess a_row a_least a_nights f_latest f_at f_names f_pieces f_songLong f_guesses f_todo f_bytes f_typed f_chances f_longs f_letters) → va_S A s.heap H locs → ∀ ls : Array Slot, lv_has ls 3 [(0, .ref a_this), (1, .int x1), (2, .int x2)] → W p l e RM_Mo_readsName s m args below meth c H locs 0 0 (MQ below (QM D (some (.int r)) (w_Mo_readsName ct a_this a_forms a_sizes a_items a_moved a_bytes a_typed a_chances a_longs a_letters a_isThere a_pieceLongs a_pieceLetters a_song a_settings a_guess a_row a_least a_nights f_latest r_at r_names f_pieces f_songLong f_guesses f_todo f_bytes f_typed r_chances r_longs r_letters) A) args s 0 0 A) (F0 m 44 ls [])) : ∀ (x1 : Int32) (x2 : Int32) (f_at : Int32) (f_names : Int32) (f_chances : Nat → Int32) (f_longs : Nat → Int32) (f_letters : Nat → Int32), Mo_readsName_b44 F f_bytes f_typed rec44 x1 x2 f_at f_names f_chances f_longs f_letters = some (r, r_at, r_names, r_chances, r_longs, r_letters) → ∀ (H : Heap) (locs : List Loc), va_P D vwCl (w_Mo_readsName ct a_this a_forms a_sizes a_items a_moved a_bytes a_typed a_chances a_longs a_letters a_isThere a_pieceLongs a_pieceLetters a_song a_settings a_guess a_row a_least a_nights f_latest f_at f_names f_pieces f_songLong f_guesses f_todo f_bytes f_typed f_chances f_longs f_letters) H → va_D A (w_Mo_readsName ct a_this a_forms a_sizes a_items a_moved a_bytes a_typed a_chances a_longs a_letters a_isThere a_pieceLongs a_pieceLetters a_song a_settings a_guess a_row a_least a_nights f_latest f_at f_names f_pieces f_songLong f_guesses f_todo f_bytes f_typed f_chances f_longs f_letters) → va_S A s.heap H locs → ∀ ls : Array Slot, lv_has ls 3 [(0, .ref a_this), (1, .int x1), (2, .int x2)] → W p l e RM_Mo_readsName s m args below meth c H locs 0 0 (MQ below (QM D (some (.int r)) (w_Mo_readsName ct a_this a_forms a_sizes a_items a_moved a_bytes a_typed a_chances a_longs a_letters a_isThere a_pieceLongs a_pieceLetters a_song a_settings a_guess a_row a_least a_nights f_latest r_at r_names f_pieces f_songLong f_guesses f_todo f_bytes f_typed r_chances r_longs r_letters) A) args s 0 0 A) (F0 m 44 ls []) := by
  obtain ⟨hx, hb, hr, hml, hown, hts, hlk, hK, hN⟩ := id C
  intro x1 x2 f_at f_names f_chances f_longs f_letters hf H locs hP hD hS ls hl
  unfold Mo_readsName_b44 at hf
  refine lv_aload_n hx hb dX11_readsName_44 rfl (lv_at hl 0 rfl) ?_
  refine lv_iconst (v := 0) hx hb dX11_readsName_45 (by decide) ?_
  obtain ⟨v46, hc46, hf⟩ := cb1_some hf
  refine kcRV (q0 := 0) (ci := 11) (As := [.int 0]) (rest := []) (st1 := [.int v46]) C (c_Mo_letter l D ct a_this a_forms a_sizes a_items a_moved a_bytes a_typed a_chances a_longs a_letters a_isThere a_pieceLongs a_pieceLetters a_song a_settings a_guess a_row a_least a_nights f_latest f_names f_pieces f_songLong f_guesses f_todo f_at f_bytes f_typed 0 v46 hc46) ⟨rfl, rfl⟩ yn_yX11_letter tw_1100 tw_31 tw_1098 ⟨Nat.le_of_ble_eq_true rfl, Nat.le_of_ble_eq_true rfl⟩ ⟨Nat.zero_le _, Nat.zero_le _⟩ hP [0, 1, 2] rfl rfl rfl rfl hl.1 rfl rfl (Nat.le_of_ble_eq_true rfl) dX11_readsName_46 rfl ?_
  refine lv_iconst (v := (-1)) hx hb dX11_readsName_49 (by decide) ?_
  refine lv_icmp_eq (tgt := 94) hx hb dX11_readsName_50 (by decide) (fun hc => ?_) (fun hc => ?_)
  · have hf := kpos hc hf
    exact t_Mo_readsName_b94 C hA a_this a_forms a_sizes a_items a_moved a_bytes a_typed a_chances a_longs a_letters a_isThere a_pieceLongs a_pieceLetters a_song a_settings a_guess a_row a_least a_nights f_latest f_pieces f_songLong f_guesses f_todo F f_bytes f_typed r r_at r_names r_chances r_longs r_letters x1 x2 f_at f_names f_chances f_longs f_letters hf _ _ hP hD hS _ (lv_sub hl [0, 1, 2] rfl)
  · have hf := kneg hc hf
    refine lv_iload_n hx hb dX11_readsName_53 rfl (lv_at hl 2 rfl) ?_
    refine lv_bipush (v := 6) hx hb dX11_readsName_54 (by decide) ?_
    refine lv_icmp_ge (tgt := 94) hx hb dX11_readsName_56 (by decide) (fun hc => ?_) (fun hc => ?_)
    · have hf := kpos hc hf
      exact t_Mo_readsName_b94 C hA a_this a_forms a_sizes a_items a_moved a_bytes a_typed a_chances a_longs a_letters a_isThere a_pieceLongs a_pieceLetters a_song a_settings a_guess a_row a_least a_nights f_latest f_pieces f_songLong f_guesses f_todo F f_bytes f_typed r r_at r_names r_chances r_longs r_letters x1 x2 f_at f_names f_chances f_longs f_letters hf _ _ hP hD hS _ (lv_sub hl [0, 1, 2] rfl)
    · have hf := kneg hc hf
      refine lv_aload_n hx hb dX11_readsName_59 rfl (lv_at hl 0 rfl) ?_
      refine va_get (ci := 11) (v := .ref a_letters) (C := RX11) (T := TX11) (N := 25) hx hb hts inX11 hown hK hP 0 rfl rfl 11 (by decide) (hts _ tw_956) (fun _ h9 => h9) rfl dX11_readsName_60 ?_
      refine lv_bipush (v := 6) hx hb dX11_readsName_63 (by decide) ?_
      refine lv_aload_n hx hb dX11_readsName_65 rfl (lv_at hl 0 rfl) ?_
      refine va_get (ci := 11) (v := .int f_names) (C := RX11) (T := TX11) (N := 25) hx hb hts inX11 hown hK hP 0 rfl rfl 8 (by decide) (hts _ tw_953) (fun _ h9 => h9) rfl dX11_readsName_66 ?_
      refine lv_imul hx hb dX11_readsName_69 ?_
      refine lv_iload_n hx hb dX11_readsName_70 rfl (lv_at hl 2 rfl) ?_
      refine lv_iadd hx hb dX11_readsName_71 ?_
      refine lv_aload_n hx hb dX11_readsName_72 rfl (lv_at hl 0 rfl) ?_
      refine lv_iconst (v := 0) hx hb dX11_readsName_73 (by decide) ?_
      obtain ⟨v74, hc74, hf⟩ := cb1_some hf
      refine kcRV (q0 := 0) (ci := 11) (As := [.int 0]) (rest := [.int ((6 * f_names) + x2), .ref a_letters]) (st1 := [.int v74, .int ((6 * f_names) + x2), .ref a_letters]) C (c_Mo_letter l D ct a_this a_forms a_sizes a_items a_moved a_bytes a_typed a_chances a_longs a_letters a_isThere a_pieceLongs a_pieceLetters a_song a_settings a_guess a_row a_least a_nights f_latest f_names f_pieces f_songLong f_guesses f_todo f_at f_bytes f_typed 0 v74 hc74) ⟨rfl, rfl⟩ yn_yX11_letter tw_1100 tw_31 tw_1098 ⟨Nat.le_of_ble_eq_true rfl, Nat.le_of_ble_eq_true rfl⟩ ⟨Nat.zero_le _, Nat.zero_le _⟩ hP [0, 1, 2] rfl rfl rfl rfl hl.1 rfl rfl (Nat.le_of_ble_eq_true rfl) dX11_readsName_74 rfl ?_
      obtain ⟨hin, f_letters_77, ev77, hf⟩ := wr_ex hf
      refine kiast hx hb hK hP hD hS 5 0 rfl rfl hin ev77 dX11_readsName_77 (fun H locs hP hD hS => ?_)
      have hP : va_P D vwCl (w_Mo_readsName ct a_this a_forms a_sizes a_items a_moved a_bytes a_typed a_chances a_longs a_letters a_isThere a_pieceLongs a_pieceLetters a_song a_settings a_guess a_row a_least a_nights f_latest f_at f_names f_pieces f_songLong f_guesses f_todo f_bytes f_typed f_chances f_longs f_letters_77) H := hP
      have hD : va_D A (w_Mo_readsName ct a_this a_forms a_sizes a_items a_moved a_bytes a_typed a_chances a_longs a_letters a_isThere a_pieceLongs a_pieceLetters a_song a_settings a_guess a_row a_least a_nights f_latest f_at f_names f_pieces f_songLong f_guesses f_todo f_bytes f_typed f_chances f_longs f_letters_77) := hD
      refine lv_iinc (v := x2 + 1) (lv' := [(2, .int (x2 + 1)), (0, .ref a_this), (1, .int x1)]) hx hb dX11_readsName_78 hl (k := 2) rfl rfl (by decide) rfl (fun ls hl => ?_)
      refine lv_aload_n hx hb dX11_readsName_81 rfl (lv_at hl 1 rfl) ?_
      refine lv_dup hx hb dX11_readsName_82 rfl ?_
      refine va_get (ci := 11) (v := .int f_at) (C := RX11) (T := TX11) (N := 25) hx hb hts inX11 hown hK hP 0 rfl rfl 7 (by decide) (hts _ tw_952) (fun _ h9 => h9) rfl dX11_readsName_83 ?_
      refine lv_iconst (v := 1) hx hb dX11_readsName_86 (by decide) ?_
      refine lv_iadd hx hb dX11_readsName_87 ?_
      refine va_put (ci := 11) (v := .int (f_at + 1)) (ty := .int) (C := RX11) (T := TX11) (N := 25) hx hb hts inX11 tyX11 tyX11_ok nmX11 hown hK hP hD hS 0 rfl rfl 7 (by decide) (hts _ tw_952) (fun _ h9 => h9) rfl (tyX11_ok 7 (by decide)) rfl rfl (Nat.le_of_ble_eq_true rfl) dX11_readsName_88 (fun H locs hP hD hS => ?_)
      have hP : va_P D vwCl (w_Mo_readsName ct a_this a_forms a_sizes a_items a_moved a_bytes a_typed a_chances a_longs a_letters a_isThere a_pieceLongs a_pieceLetters a_song a_settings a_guess a_row a_least a_nights f_latest (f_at + 1) f_names f_pieces f_songLong f_guesses f_todo f_bytes f_typed f_chances f_longs f_letters_77) H := hP
      have hD : va_D A (w_Mo_readsName ct a_this a_forms a_sizes a_items a_moved a_bytes a_typed a_chances a_longs a_letters a_isThere a_pieceLongs a_pieceLetters a_song a_settings a_guess a_row a_least a_nights f_latest (f_at + 1) f_names f_pieces f_songLong f_guesses f_todo f_bytes f_typed f_chances f_longs f_letters_77) := hD
      refine lv_goto (tgt := 44) hx hb dX11_readsName_91 (by decide) ?_
      exact hr44 x1 (x2 + 1) (f_at + 1) f_names f_chances f_longs f_letters_77 hf _ _ hP hD hS _ (lv_sub hl [1, 2, 0] rfl)
set_option maxHeartbeats 4000000 in
set_option maxRecDepth 100000 in
theorem t_Mo_readsName_l44 {p : Program} {l : Launch} {e : Env} {s : State} {m : MethodId} {args : Array Value} {below : List Frame} {meth : Method} {c : Code} {D : va_G} {ct : Nat → ClassId} (C : CX p s m args meth c RX11 cX11_readsName 3 (some .boolean) D ct) {A : Nat → Prop} (hA : ∀ q : Nat, s.heap.size ≤ q → A q) (a_this a_forms a_sizes a_items a_moved a_bytes a_typed a_chances a_longs a_letters a_isThere a_pieceLongs a_pieceLetters a_song a_settings a_guess a_row a_least a_nights : Nat) (f_latest : Int32) (f_pieces : Int32) (f_songLong : Int32) (f_guesses : Int32) (f_todo : Int32) (F : Nat) (f_bytes : Nat → Int32) (f_typed : Nat → Int32) (r : Int32) (r_at : Int32) (r_names : Int32) (r_chances : Nat → Int32) (r_longs : Nat → Int32) (r_letters : Nat → Int32) : ∀ (n : Nat) (x1 : Int32) (x2 : Int32) (f_at : Int32) (f_names : Int32) (f_chances : Nat → Int32) (f_longs : Nat → Int32) (f_letters : Nat → Int32), Mo_readsName_l44 F f_bytes f_typed n x1 x2 f_at f_names f_chances f_longs f_letters = some (r, r_at, r_names, r_chances, r_longs, r_letters) → ∀ (H : Heap) (locs : List Loc), va_P D vwCl (w_Mo_readsName ct a_this a_forms a_sizes a_items a_moved a_bytes a_typed a_chances a_longs a_letters a_isThere a_pieceLongs a_pieceLetters a_song a_settings a_guess a_row a_least a_nights f_latest f_at f_names f_pieces f_songLong f_guesses f_todo f_bytes f_typed f_chances f_longs f_letters) H → va_D A (w_Mo_readsName ct a_this a_forms a_sizes a_items a_moved a_bytes a_typed a_chances a_longs a_letters a_isThere a_pieceLongs a_pieceLetters a_song a_settings a_guess a_row a_least a_nights f_latest f_at f_names f_pieces f_songLong f_guesses f_todo f_bytes f_typed f_chances f_longs f_letters) → va_S A s.heap H locs → ∀ ls : Array Slot, lv_has ls 3 [(0, .ref a_this), (1, .int x1), (2, .int x2)] → W p l e RM_Mo_readsName s m args below meth c H locs 0 0 (MQ below (QM D (some (.int r)) (w_Mo_readsName ct a_this a_forms a_sizes a_items a_moved a_bytes a_typed a_chances a_longs a_letters a_isThere a_pieceLongs a_pieceLetters a_song a_settings a_guess a_row a_least a_nights f_latest r_at r_names f_pieces f_songLong f_guesses f_todo f_bytes f_typed r_chances r_longs r_letters) A) args s 0 0 A) (F0 m 44 ls []) := by
  intro n
  induction n with
  | zero =>
    intro x1 x2 f_at f_names f_chances f_longs f_letters hf
    exact absurd hf (by simp [Mo_readsName_l44])
  | succ n ih =>
    intro x1 x2 f_at f_names f_chances f_longs f_letters hf
    exact t_Mo_readsName_b44 C hA a_this a_forms a_sizes a_items a_moved a_bytes a_typed a_chances a_longs a_letters a_isThere a_pieceLongs a_pieceLetters a_song a_settings a_guess a_row a_least a_nights f_latest f_pieces f_songLong f_guesses f_todo F f_bytes f_typed r r_at r_names r_chances r_longs r_letters (Mo_readsName_l44 F f_bytes f_typed n) ih x1 x2 f_at f_names f_chances f_longs f_letters hf
set_option maxHeartbeats 4000000 in
set_option maxRecDepth 100000 in
theorem c_Mo_readsName (l : Launch) (D : va_G) (ct : Nat → ClassId) (a_this a_forms a_sizes a_items a_moved a_bytes a_typed a_chances a_longs a_letters a_isThere a_pieceLongs a_pieceLetters a_song a_settings a_guess a_row a_least a_nights : Nat) (f_latest : Int32) (f_pieces : Int32) (f_songLong : Int32) (f_guesses : Int32) (f_todo : Int32) (F : Nat) (f_bytes : Nat → Int32) (f_typed : Nat → Int32) (f_at : Int32) (f_names : Int32) (f_chances : Nat → Int32) (f_longs : Nat → Int32) (f_letters : Nat → Int32) (r : Int32) (r_at : Int32) (r_names : Int32) (r_chances : Nat → Int32) (r_longs : Nat → Int32) (r_letters : Nat → Int32) (sz : Nat) (hf : Mo_readsName F f_bytes f_typed f_at f_names f_chances f_longs f_letters = some (r, r_at, r_names, r_chances, r_longs, r_letters)) : Met l yX11_readsName (WS yX11_readsName cX11_readsName 3 (some .boolean)) RM_Mo_readsName (va_Pc [.ref a_this] (PM D ct sz (w_Mo_readsName ct a_this a_forms a_sizes a_items a_moved a_bytes a_typed a_chances a_longs a_letters a_isThere a_pieceLongs a_pieceLetters a_song a_settings a_guess a_row a_least a_nights f_latest f_at f_names f_pieces f_songLong f_guesses f_todo f_bytes f_typed f_chances f_longs f_letters))) (QM D (some (.int r)) (w_Mo_readsName ct a_this a_forms a_sizes a_items a_moved a_bytes a_typed a_chances a_longs a_letters a_isThere a_pieceLongs a_pieceLetters a_song a_settings a_guess a_row a_least a_nights f_latest r_at r_names f_pieces f_songLong f_guesses f_todo f_bytes f_typed r_chances r_longs r_letters) (va_A (w_Mo_readsName ct a_this a_forms a_sizes a_items a_moved a_bytes a_typed a_chances a_longs a_letters a_isThere a_pieceLongs a_pieceLetters a_song a_settings a_guess a_row a_least a_nights f_latest f_at f_names f_pieces f_songLong f_guesses f_todo f_bytes f_typed f_chances f_longs f_letters) sz)) 0 0 (va_A (w_Mo_readsName ct a_this a_forms a_sizes a_items a_moved a_bytes a_typed a_chances a_longs a_letters a_isThere a_pieceLongs a_pieceLetters a_song a_settings a_guess a_row a_least a_nights f_latest f_at f_names f_pieces f_songLong f_guesses f_todo f_bytes f_typed f_chances f_longs f_letters) sz) := by
  refine kMetM yn_yX11_readsName rfl (Nat.le_of_ble_eq_true rfl) ?_
  intro p e s m args below meth c A C hA hP hD ls hl
  have hl : lv_has ls 3 [(0, .ref a_this)] := hl
  have hS : va_S A s.heap s.heap [] := va_S.rf
  obtain ⟨hx, hb, hr, hml, hown, hts, hlk, hK, hN⟩ := id C
  unfold Mo_readsName at hf
  refine lv_aload_n hx hb dX11_readsName_0 rfl (lv_at hl 0 rfl) ?_
  refine lv_iconst (v := 0) hx hb dX11_readsName_1 (by decide) ?_
  obtain ⟨v2, hc2, hf⟩ := cb1_some hf
  refine kcRV (q0 := 0) (ci := 11) (As := [.int 0]) (rest := []) (st1 := [.int v2]) C (c_Mo_here l D ct a_this a_forms a_sizes a_items a_moved a_bytes a_typed a_chances a_longs a_letters a_isThere a_pieceLongs a_pieceLetters a_song a_settings a_guess a_row a_least a_nights f_latest f_names f_pieces f_songLong f_guesses f_todo f_at f_bytes f_typed 0 v2 hc2) ⟨rfl, rfl⟩ yn_yX11_here tw_1095 tw_30 tw_1093 ⟨Nat.le_of_ble_eq_true rfl, Nat.le_of_ble_eq_true rfl⟩ ⟨Nat.zero_le _, Nat.zero_le _⟩ hP [0, 1, 2] rfl rfl rfl rfl hl.1 rfl rfl (Nat.le_of_ble_eq_true rfl) dX11_readsName_2 rfl ?_
  refine lv_bipush (v := 48) hx hb dX11_readsName_5 (by decide) ?_
  refine lv_isub hx hb dX11_readsName_7 ?_
  refine lv_istore_n (lv' := [(1, .int (v2 - 48)), (0, .ref a_this)]) hx hb dX11_readsName_8 rfl hl (by decide) rfl (fun ls hl => ?_)
  refine lv_aload_n hx hb dX11_readsName_9 rfl (lv_at hl 1 rfl) ?_
  refine va_get (ci := 11) (v := .int f_names) (C := RX11) (T := TX11) (N := 25) hx hb hts inX11 hown hK hP 0 rfl rfl 8 (by decide) (hts _ tw_953) (fun _ h9 => h9) rfl dX11_readsName_10 ?_
  refine lv_bipush (v := 10) hx hb dX11_readsName_13 (by decide) ?_
  refine lv_icmp_eq (tgt := 30) hx hb dX11_readsName_15 (by decide) (fun hc => ?_) (fun hc => ?_)
  · have hf := kpos hc hf
    refine lv_iconst (v := 0) hx hb dX11_readsName_30 (by decide) ?_
    obtain ⟨e1, e2, e3, e4, e5, e6⟩ := ti6 hf
    subst e1; subst e2; subst e3; subst e4; subst e5; subst e6
    exact kretMz C (by decide) hP hD hS dX11_readsName_31
  · have hf := kneg hc hf
    refine lv_iload_n hx hb dX11_readsName_18 rfl (lv_at hl 0 rfl) ?_
    refine lv_i2l (v := Int32.toInt64 (v2 - 48)) hx hb dX11_readsName_19 rfl ?_
    refine lv_lconst (v := 1) hx hb dX11_readsName_20 (by decide) ?_
    refine lv_ldc2 (v := 9) hx hb hown (hts _ tw_1097) dX11_readsName_21 ?_
    obtain ⟨v24, hc24, hf⟩ := cb1_some hf
    refine kcRS (As := [.long (Int32.toInt64 (v2 - 48)), .long 1, .long 9]) (rest := []) (st1 := [.int v24]) C (c_Mo_in l D ct (Int32.toInt64 (v2 - 48)) 1 9 v24 hc24) ⟨rfl, rfl⟩ yn_yX11_in tw_1031 tw_1030 ⟨Nat.le_of_ble_eq_true rfl, Nat.le_of_ble_eq_true rfl⟩ ⟨Nat.zero_le _, Nat.zero_le _⟩ hP [] rfl hl.1 rfl rfl (Nat.le_of_ble_eq_true rfl) dX11_readsName_24 rfl ?_
    refine lv_if_ne (tgt := 32) hx hb dX11_readsName_27 (by decide) (fun hc => ?_) (fun hc => ?_)
    · have hf := kneg hc hf
      refine lv_aload_n hx hb dX11_readsName_32 rfl (lv_at hl 1 rfl) ?_
      refine lv_dup hx hb dX11_readsName_33 rfl ?_
      refine va_get (ci := 11) (v := .int f_at) (C := RX11) (T := TX11) (N := 25) hx hb hts inX11 hown hK hP 0 rfl rfl 7 (by decide) (hts _ tw_952) (fun _ h9 => h9) rfl dX11_readsName_34 ?_
      refine lv_iconst (v := 1) hx hb dX11_readsName_37 (by decide) ?_
      refine lv_iadd hx hb dX11_readsName_38 ?_
      refine va_put (ci := 11) (v := .int (f_at + 1)) (ty := .int) (C := RX11) (T := TX11) (N := 25) hx hb hts inX11 tyX11 tyX11_ok nmX11 hown hK hP hD hS 0 rfl rfl 7 (by decide) (hts _ tw_952) (fun _ h9 => h9) rfl (tyX11_ok 7 (by decide)) rfl rfl (Nat.le_of_ble_eq_true rfl) dX11_readsName_39 (fun H locs hP hD hS => ?_)
      have hP : va_P D vwCl (w_Mo_readsName ct a_this a_forms a_sizes a_items a_moved a_bytes a_typed a_chances a_longs a_letters a_isThere a_pieceLongs a_pieceLetters a_song a_settings a_guess a_row a_least a_nights f_latest (f_at + 1) f_names f_pieces f_songLong f_guesses f_todo f_bytes f_typed f_chances f_longs f_letters) H := hP
      have hD : va_D A (w_Mo_readsName ct a_this a_forms a_sizes a_items a_moved a_bytes a_typed a_chances a_longs a_letters a_isThere a_pieceLongs a_pieceLetters a_song a_settings a_guess a_row a_least a_nights f_latest (f_at + 1) f_names f_pieces f_songLong f_guesses f_todo f_bytes f_typed f_chances f_longs f_letters) := hD
      refine lv_iconst (v := 0) hx hb dX11_readsName_42 (by decide) ?_
      refine lv_istore_n (lv' := [(2, .int 0), (1, .int (v2 - 48)), (0, .ref a_this)]) hx hb dX11_readsName_43 rfl hl (by decide) rfl (fun ls hl => ?_)
      exact t_Mo_readsName_l44 C hA a_this a_forms a_sizes a_items a_moved a_bytes a_typed a_chances a_longs a_letters a_isThere a_pieceLongs a_pieceLetters a_song a_settings a_guess a_row a_least a_nights f_latest f_pieces f_songLong f_guesses f_todo F f_bytes f_typed r r_at r_names r_chances r_longs r_letters F (v2 - 48) 0 (f_at + 1) f_names f_chances f_longs f_letters hf _ _ hP hD hS _ (lv_sub hl [2, 1, 0] rfl)
    · have hf := kpos hc hf
      refine lv_iconst (v := 0) hx hb dX11_readsName_30 (by decide) ?_
      obtain ⟨e1, e2, e3, e4, e5, e6⟩ := ti6 hf
      subst e1; subst e2; subst e3; subst e4; subst e5; subst e6
      exact kretMz C (by decide) hP hD hS dX11_readsName_31
def RM_Mo_readsNames : Room := { frames := 3, cells := 0, slots := 0, locals := 69 }
set_option maxHeartbeats 4000000 in
set_option maxRecDepth 100000 in
theorem t_Mo_readsNames_b99 {p : Program} {l : Launch} {e : Env} {s : State} {m : MethodId} {args : Array Value} {below : List Frame} {meth : Method} {c : Code} {D : va_G} {ct : Nat → ClassId} (C : CX p s m args meth c RX11 cX11_readsNames 3 (some .int) D ct) {A : Nat → Prop} (hA : ∀ q : Nat, s.heap.size ≤ q → A q) (a_this a_forms a_sizes a_items a_moved a_bytes a_typed a_chances a_longs a_letters a_isThere a_pieceLongs a_pieceLetters a_song a_settings a_guess a_row a_least a_nights : Nat) (f_latest : Int32) (f_pieces : Int32) (f_songLong : Int32) (f_guesses : Int32) (f_todo : Int32) (F : Nat) (f_bytes : Nat → Int32) (f_typed : Nat → Int32) (r : Int32) (r_at : Int32) (r_names : Int32) (r_chances : Nat → Int32) (r_longs : Nat → Int32) (r_letters : Nat → Int32) (rec25 : Int32 → Int32 → Int32 → (Nat → Int32) → (Nat → Int32) → (Nat → Int32) → Option (Int32 × Int32 × Int32 × (Nat → Int32) × (Nat → Int32) × (Nat → Int32))) (hr25 : ∀ (x1 : Int32) (f_at : Int32) (f_names : Int32) (f_chances : Nat → Int32) (f_longs : Nat → Int32) (f_letters : Nat → Int32), rec25 x1 f_at f_names f_chances f_longs f_letters = some (r, r_at, r_names, r_chances, r_longs, r_letters) → ∀ (H : Heap) (locs : List Loc), va_P D vwCl (w_Mo_readsNames ct a_this a_forms a_sizes a_items a_moved a_bytes a_typed a_chances a_longs a_letters a_isThere a_pieceLongs a_pieceLetters a_song a_settings a_guess a_row a_least a_nights f_latest f_at f_names f_pieces f_songLong f_guesses f_todo f_bytes f_typed f_chances f_longs f_letters) H → va_D A (w_Mo_readsNames ct a_this a_forms a_sizes a_items a_moved a_bytes a_typed a_chances a_longs a_letters a_isThere a_pieceLongs a_pieceLetters a_song a_settings a_guess a_row a_least a_nights f_latest f_at f_names f_pieces f_songLong f_guesses f_todo f_bytes f_typed f_chances f_longs f_letters) → va_S A s.heap H locs → ∀ ls : Array Slot, lv_has ls 3 [(0, .ref a_this), (1, .int x1)] → W p l e RM_Mo_readsNames s m args below meth c H locs 0 0 (MQ below (QM D (some (.int r)) (w_Mo_readsNames ct a_this a_forms a_sizes a_items a_moved a_bytes a_typed a_chances a_longs a_letters a_isThere a_pieceLongs a_pieceLetters a_song a_settings a_guess a_row a_least a_nights f_latest r_at r_names f_pieces f_songLong f_guesses f_todo f_bytes f_typed r_chances r_longs r_letters) A) args s 0 0 A) (F0 m 25 ls [])) : ∀ (x1 : Int32) (k1 : Int32) (k2 : Int32) (f_at : Int32) (f_names : Int32) (f_chances : Nat → Int32) (f_longs : Nat → Int32) (f_letters : Nat → Int32), Mo_readsNames_b99 F f_bytes f_typed rec25 x1 k1 k2 f_at f_names f_chances f_longs f_letters = some (r, r_at, r_names, r_chances, r_longs, r_letters) → ∀ (H : Heap) (locs : List Loc), va_P D vwCl (w_Mo_readsNames ct a_this a_forms a_sizes a_items a_moved a_bytes a_typed a_chances a_longs a_letters a_isThere a_pieceLongs a_pieceLetters a_song a_settings a_guess a_row a_least a_nights f_latest f_at f_names f_pieces f_songLong f_guesses f_todo f_bytes f_typed f_chances f_longs f_letters) H → va_D A (w_Mo_readsNames ct a_this a_forms a_sizes a_items a_moved a_bytes a_typed a_chances a_longs a_letters a_isThere a_pieceLongs a_pieceLetters a_song a_settings a_guess a_row a_least a_nights f_latest f_at f_names f_pieces f_songLong f_guesses f_todo f_bytes f_typed f_chances f_longs f_letters) → va_S A s.heap H locs → ∀ ls : Array Slot, lv_has ls 3 [(0, .ref a_this), (1, .int x1)] → W p l e RM_Mo_readsNames s m args below meth c H locs 0 0 (MQ below (QM D (some (.int r)) (w_Mo_readsNames ct a_this a_forms a_sizes a_items a_moved a_bytes a_typed a_chances a_longs a_letters a_isThere a_pieceLongs a_pieceLetters a_song a_settings a_guess a_row a_least a_nights f_latest r_at r_names f_pieces f_songLong f_guesses f_todo f_bytes f_typed r_chances r_longs r_letters) A) args s 0 0 A) (F0 m 99 ls [.int k2, .int k1, .ref a_this]) := by
  obtain ⟨hx, hb, hr, hml, hown, hts, hlk, hK, hN⟩ := id C
  intro x1 k1 k2 f_at f_names f_chances f_longs f_letters hf H locs hP hD hS ls hl
  unfold Mo_readsNames_b99 at hf
  refine lv_iadd hx hb dX11_readsNames_99 ?_
  refine va_put (ci := 11) (v := .int (k1 + k2)) (ty := .int) (C := RX11) (T := TX11) (N := 25) hx hb hts inX11 tyX11 tyX11_ok nmX11 hown hK hP hD hS 0 rfl rfl 7 (by decide) (hts _ tw_952) (fun _ h9 => h9) rfl (tyX11_ok 7 (by decide)) rfl rfl (Nat.le_of_ble_eq_true rfl) dX11_readsNames_100 (fun H locs hP hD hS => ?_)
  have hP : va_P D vwCl (w_Mo_readsNames ct a_this a_forms a_sizes a_items a_moved a_bytes a_typed a_chances a_longs a_letters a_isThere a_pieceLongs a_pieceLetters a_song a_settings a_guess a_row a_least a_nights f_latest (k1 + k2) f_names f_pieces f_songLong f_guesses f_todo f_bytes f_typed f_chances f_longs f_letters) H := hP
  have hD : va_D A (w_Mo_readsNames ct a_this a_forms a_sizes a_items a_moved a_bytes a_typed a_chances a_longs a_letters a_isThere a_pieceLongs a_pieceLetters a_song a_settings a_guess a_row a_least a_nights f_latest (k1 + k2) f_names f_pieces f_songLong f_guesses f_todo f_bytes f_typed f_chances f_longs f_letters) := hD
  refine lv_goto (tgt := 25) hx hb dX11_readsNames_103 (by decide) ?_
  exact hr25 x1 (k1 + k2) f_names f_chances f_longs f_letters hf _ _ hP hD hS _ (lv_sub hl [0, 1] rfl)
set_option maxHeartbeats 4000000 in
set_option maxRecDepth 100000 in
theorem t_Mo_readsNames_b85 {p : Program} {l : Launch} {e : Env} {s : State} {m : MethodId} {args : Array Value} {below : List Frame} {meth : Method} {c : Code} {D : va_G} {ct : Nat → ClassId} (C : CX p s m args meth c RX11 cX11_readsNames 3 (some .int) D ct) {A : Nat → Prop} (hA : ∀ q : Nat, s.heap.size ≤ q → A q) (a_this a_forms a_sizes a_items a_moved a_bytes a_typed a_chances a_longs a_letters a_isThere a_pieceLongs a_pieceLetters a_song a_settings a_guess a_row a_least a_nights : Nat) (f_latest : Int32) (f_pieces : Int32) (f_songLong : Int32) (f_guesses : Int32) (f_todo : Int32) (F : Nat) (f_bytes : Nat → Int32) (f_typed : Nat → Int32) (r : Int32) (r_at : Int32) (r_names : Int32) (r_chances : Nat → Int32) (r_longs : Nat → Int32) (r_letters : Nat → Int32) (rec25 : Int32 → Int32 → Int32 → (Nat → Int32) → (Nat → Int32) → (Nat → Int32) → Option (Int32 × Int32 × Int32 × (Nat → Int32) × (Nat → Int32) × (Nat → Int32))) (hr25 : ∀ (x1 : Int32) (f_at : Int32) (f_names : Int32) (f_chances : Nat → Int32) (f_longs : Nat → Int32) (f_letters : Nat → Int32), rec25 x1 f_at f_names f_chances f_longs f_letters = some (r, r_at, r_names, r_chances, r_longs, r_letters) → ∀ (H : Heap) (locs : List Loc), va_P D vwCl (w_Mo_readsNames ct a_this a_forms a_sizes a_items a_moved a_bytes a_typed a_chances a_longs a_letters a_isThere a_pieceLongs a_pieceLetters a_song a_settings a_guess a_row a_least a_nights f_latest f_at f_names f_pieces f_songLong f_guesses f_todo f_bytes f_typed f_chances f_longs f_letters) H → va_D A (w_Mo_readsNames ct a_this a_forms a_sizes a_items a_moved a_bytes a_typed a_chances a_longs a_letters a_isThere a_pieceLongs a_pieceLetters a_song a_settings a_guess a_row a_least a_nights f_latest f_at f_names f_pieces f_songLong f_guesses f_todo f_bytes f_typed f_chances f_longs f_letters) → va_S A s.heap H locs → ∀ ls : Array Slot, lv_has ls 3 [(0, .ref a_this), (1, .int x1)] → W p l e RM_Mo_readsNames s m args below meth c H locs 0 0 (MQ below (QM D (some (.int r)) (w_Mo_readsNames ct a_this a_forms a_sizes a_items a_moved a_bytes a_typed a_chances a_longs a_letters a_isThere a_pieceLongs a_pieceLetters a_song a_settings a_guess a_row a_least a_nights f_latest r_at r_names f_pieces f_songLong f_guesses f_todo f_bytes f_typed r_chances r_longs r_letters) A) args s 0 0 A) (F0 m 25 ls [])) : ∀ (x1 : Int32) (f_at : Int32) (f_names : Int32) (f_chances : Nat → Int32) (f_longs : Nat → Int32) (f_letters : Nat → Int32), Mo_readsNames_b85 F f_bytes f_typed rec25 x1 f_at f_names f_chances f_longs f_letters = some (r, r_at, r_names, r_chances, r_longs, r_letters) → ∀ (H : Heap) (locs : List Loc), va_P D vwCl (w_Mo_readsNames ct a_this a_forms a_sizes a_items a_moved a_bytes a_typed a_chances a_longs a_letters a_isThere a_pieceLongs a_pieceLetters a_song a_settings a_guess a_row a_least a_nights f_latest f_at f_names f_pieces f_songLong f_guesses f_todo f_bytes f_typed f_chances f_longs f_letters) H → va_D A (w_Mo_readsNames ct a_this a_forms a_sizes a_items a_moved a_bytes a_typed a_chances a_longs a_letters a_isThere a_pieceLongs a_pieceLetters a_song a_settings a_guess a_row a_least a_nights f_latest f_at f_names f_pieces f_songLong f_guesses f_todo f_bytes f_typed f_chances f_longs f_letters) → va_S A s.heap H locs → ∀ ls : Array Slot, lv_has ls 3 [(0, .ref a_this), (1, .int x1)] → W p l e RM_Mo_readsNames s m args below meth c H locs 0 0 (MQ below (QM D (some (.int r)) (w_Mo_readsNames ct a_this a_forms a_sizes a_items a_moved a_bytes a_typed a_chances a_longs a_letters a_isThere a_pieceLongs a_pieceLetters a_song a_settings a_guess a_row a_least a_nights f_latest r_at r_names f_pieces f_songLong f_guesses f_todo f_bytes f_typed r_chances r_longs r_letters) A) args s 0 0 A) (F0 m 85 ls []) := by
  obtain ⟨hx, hb, hr, hml, hown, hts, hlk, hK, hN⟩ := id C
  intro x1 f_at f_names f_chances f_longs f_letters hf H locs hP hD hS ls hl
  unfold Mo_readsNames_b85 at hf
  refine lv_aload_n hx hb dX11_readsNames_85 rfl (lv_at hl 0 rfl) ?_
  refine lv_dup hx hb dX11_readsNames_86 rfl ?_
  refine va_get (ci := 11) (v := .int f_at) (C := RX11) (T := TX11) (N := 25) hx hb hts inX11 hown hK hP 0 rfl rfl 7 (by decide) (hts _ tw_952) (fun _ h9 => h9) rfl dX11_readsNames_87 ?_
  refine lv_iload_n hx hb dX11_readsNames_90 rfl (lv_at hl 1 rfl) ?_
  refine lv_if_eq (tgt := 98) hx hb dX11_readsNames_91 (by decide) (fun hc => ?_) (fun hc => ?_)
  · have hf := kpos hc hf
    refine lv_iconst (v := 0) hx hb dX11_readsNames_98 (by decide) ?_
    exact t_Mo_readsNames_b99 C hA a_this a_forms a_sizes a_items a_moved a_bytes a_typed a_chances a_longs a_letters a_isThere a_pieceLongs a_pieceLetters a_song a_settings a_guess a_row a_least a_nights f_latest f_pieces f_songLong f_guesses f_todo F f_bytes f_typed r r_at r_names r_chances r_longs r_letters rec25 hr25 x1 f_at 0 f_at f_names f_chances f_longs f_letters hf _ _ hP hD hS _ (lv_sub hl [0, 1] rfl)
  · have hf := kneg hc hf
    refine lv_iconst (v := 1) hx hb dX11_readsNames_94 (by decide) ?_
    refine lv_goto (tgt := 99) hx hb dX11_readsNames_95 (by decide) ?_
    exact t_Mo_readsNames_b99 C hA a_this a_forms a_sizes a_items a_moved a_bytes a_typed a_chances a_longs a_letters a_isThere a_pieceLongs a_pieceLetters a_song a_settings a_guess a_row a_least a_nights f_latest f_pieces f_songLong f_guesses f_todo F f_bytes f_typed r r_at r_names r_chances r_longs r_letters rec25 hr25 x1 f_at 1 f_at f_names f_chances f_longs f_letters hf _ _ hP hD hS _ (lv_sub hl [0, 1] rfl)
set_option maxHeartbeats 4000000 in
set_option maxRecDepth 100000 in
theorem t_Mo_readsNames_b75 {p : Program} {l : Launch} {e : Env} {s : State} {m : MethodId} {args : Array Value} {below : List Frame} {meth : Method} {c : Code} {D : va_G} {ct : Nat → ClassId} (C : CX p s m args meth c RX11 cX11_readsNames 3 (some .int) D ct) {A : Nat → Prop} (hA : ∀ q : Nat, s.heap.size ≤ q → A q) (a_this a_forms a_sizes a_items a_moved a_bytes a_typed a_chances a_longs a_letters a_isThere a_pieceLongs a_pieceLetters a_song a_settings a_guess a_row a_least a_nights : Nat) (f_latest : Int32) (f_pieces : Int32) (f_songLong : Int32) (f_guesses : Int32) (f_todo : Int32) (F : Nat) (f_bytes : Nat → Int32) (f_typed : Nat → Int32) (r : Int32) (r_at : Int32) (r_names : Int32) (r_chances : Nat → Int32) (r_longs : Nat → Int32) (r_letters : Nat → Int32) : ∀ (f_at : Int32) (f_names : Int32) (f_chances : Nat → Int32) (f_longs : Nat → Int32) (f_letters : Nat → Int32), Mo_readsNames_b75 F f_bytes f_typed f_at f_names f_chances f_longs f_letters = some (r, r_at, r_names, r_chances, r_longs, r_letters) → ∀ (H : Heap) (locs : List Loc), va_P D vwCl (w_Mo_readsNames ct a_this a_forms a_sizes a_items a_moved a_bytes a_typed a_chances a_longs a_letters a_isThere a_pieceLongs a_pieceLetters a_song a_settings a_guess a_row a_least a_nights f_latest f_at f_names f_pieces f_songLong f_guesses f_todo f_bytes f_typed f_chances f_longs f_letters) H → va_D A (w_Mo_readsNames ct a_this a_forms a_sizes a_items a_moved a_bytes a_typed a_chances a_longs a_letters a_isThere a_pieceLongs a_pieceLetters a_song a_settings a_guess a_row a_least a_nights f_latest f_at f_names f_pieces f_songLong f_guesses f_todo f_bytes f_typed f_chances f_longs f_letters) → va_S A s.heap H locs → ∀ ls : Array Slot, lv_has ls 3 [(0, .ref a_this)] → W p l e RM_Mo_readsNames s m args below meth c H locs 0 0 (MQ below (QM D (some (.int r)) (w_Mo_readsNames ct a_this a_forms a_sizes a_items a_moved a_bytes a_typed a_chances a_longs a_letters a_isThere a_pieceLongs a_pieceLetters a_song a_settings a_guess a_row a_least a_nights f_latest r_at r_names f_pieces f_songLong f_guesses f_todo f_bytes f_typed r_chances r_longs r_letters) A) args s 0 0 A) (F0 m 75 ls []) := by
  obtain ⟨hx, hb, hr, hml, hown, hts, hlk, hK, hN⟩ := id C
  intro f_at f_names f_chances f_longs f_letters hf H locs hP hD hS ls hl
  unfold Mo_readsNames_b75 at hf
  refine lv_aload_n hx hb dX11_readsNames_75 rfl (lv_at hl 0 rfl) ?_
  refine lv_iconst (v := 0) hx hb dX11_readsNames_76 (by decide) ?_
  refine va_put (ci := 11) (v := .int 0) (ty := .int) (C := RX11) (T := TX11) (N := 25) hx hb hts inX11 tyX11 tyX11_ok nmX11 hown hK hP hD hS 0 rfl rfl 8 (by decide) (hts _ tw_953) (fun _ h9 => h9) rfl (tyX11_ok 8 (by decide)) rfl rfl (Nat.le_of_ble_eq_true rfl) dX11_readsNames_77 (fun H locs hP hD hS => ?_)
  have hP : va_P D vwCl (w_Mo_readsNames ct a_this a_forms a_sizes a_items a_moved a_bytes a_typed a_chances a_longs a_letters a_isThere a_pieceLongs a_pieceLetters a_song a_settings a_guess a_row a_least a_nights f_latest f_at 0 f_pieces f_songLong f_guesses f_todo f_bytes f_typed f_chances f_longs f_letters) H := hP
  have hD : va_D A (w_Mo_readsNames ct a_this a_forms a_sizes a_items a_moved a_bytes a_typed a_chances a_longs a_letters a_isThere a_pieceLongs a_pieceLetters a_song a_settings a_guess a_row a_least a_nights f_latest f_at 0 f_pieces f_songLong f_guesses f_todo f_bytes f_typed f_chances f_longs f_letters) := hD
  refine lv_aload_n hx hb dX11_readsNames_80 rfl (lv_at hl 0 rfl) ?_
  refine va_get (ci := 11) (v := .int f_at) (C := RX11) (T := TX11) (N := 25) hx hb hts inX11 hown hK hP 0 rfl rfl 7 (by decide) (hts _ tw_952) (fun _ h9 => h9) rfl dX11_readsNames_81 ?_
  obtain ⟨e1, e2, e3, e4, e5, e6⟩ := ti6 hf
  subst e1; subst e2; subst e3; subst e4; subst e5; subst e6
  exact kretM C hP hD hS dX11_readsNames_84
set_option maxHeartbeats 4000000 in
set_option maxRecDepth 100000 in
theorem t_Mo_readsNames_b56 {p : Program} {l : Launch} {e : Env} {s : State} {m : MethodId} {args : Array Value} {below : List Frame} {meth : Method} {c : Code} {D : va_G} {ct : Nat → ClassId} (C : CX p s m args meth c RX11 cX11_readsNames 3 (some .int) D ct) {A : Nat → Prop} (hA : ∀ q : Nat, s.heap.size ≤ q → A q) (a_this a_forms a_sizes a_items a_moved a_bytes a_typed a_chances a_longs a_letters a_isThere a_pieceLongs a_pieceLetters a_song a_settings a_guess a_row a_least a_nights : Nat) (f_latest : Int32) (f_pieces : Int32) (f_songLong : Int32) (f_guesses : Int32) (f_todo : Int32) (F : Nat) (f_bytes : Nat → Int32) (f_typed : Nat → Int32) (r : Int32) (r_at : Int32) (r_names : Int32) (r_chances : Nat → Int32) (r_longs : Nat → Int32) (r_letters : Nat → Int32) (rec25 : Int32 → Int32 → Int32 → (Nat → Int32) → (Nat → Int32) → (Nat → Int32) → Option (Int32 × Int32 × Int32 × (Nat → Int32) × (Nat → Int32) × (Nat → Int32))) (hr25 : ∀ (x1 : Int32) (f_at : Int32) (f_names : Int32) (f_chances : Nat → Int32) (f_longs : Nat → Int32) (f_letters : Nat → Int32), rec25 x1 f_at f_names f_chances f_longs f_letters = some (r, r_at, r_names, r_chances, r_longs, r_letters) → ∀ (H : Heap) (locs : List Loc), va_P D vwCl (w_Mo_readsNames ct a_this a_forms a_sizes a_items a_moved a_bytes a_typed a_chances a_longs a_letters a_isThere a_pieceLongs a_pieceLetters a_song a_settings a_guess a_row a_least a_nights f_latest f_at f_names f_pieces f_songLong f_guesses f_todo f_bytes f_typed f_chances f_longs f_letters) H → va_D A (w_Mo_readsNames ct a_this a_forms a_sizes a_items a_moved a_bytes a_typed a_chances a_longs a_letters a_isThere a_pieceLongs a_pieceLetters a_song a_settings a_guess a_row a_least a_nights f_latest f_at f_names f_pieces f_songLong f_guesses f_todo f_bytes f_typed f_chances f_longs f_letters) → va_S A s.heap H locs → ∀ ls : Array Slot, lv_has ls 3 [(0, .ref a_this), (1, .int x1)] → W p l e RM_Mo_readsNames s m args below meth c H locs 0 0 (MQ below (QM D (some (.int r)) (w_Mo_readsNames ct a_this a_forms a_sizes a_items a_moved a_bytes a_typed a_chances a_longs a_letters a_isThere a_pieceLongs a_pieceLetters a_song a_settings a_guess a_row a_least a_nights f_latest r_at r_names f_pieces f_songLong f_guesses f_todo f_bytes f_typed r_chances r_longs r_letters) A) args s 0 0 A) (F0 m 25 ls [])) : ∀ (x2 : Int32) (k0 : Int32) (f_at : Int32) (f_names : Int32) (f_chances : Nat → Int32) (f_longs : Nat → Int32) (f_letters : Nat → Int32), Mo_readsNames_b56 F f_bytes f_typed rec25 x2 k0 f_at f_names f_chances f_longs f_letters = some (r, r_at, r_names, r_chances, r_longs, r_letters) → ∀ (H : Heap) (locs : List Loc), va_P D vwCl (w_Mo_readsNames ct a_this a_forms a_sizes a_items a_moved a_bytes a_typed a_chances a_longs a_letters a_isThere a_pieceLongs a_pieceLetters a_song a_settings a_guess a_row a_least a_nights f_latest f_at f_names f_pieces f_songLong f_guesses f_todo f_bytes f_typed f_chances f_longs f_letters) H → va_D A (w_Mo_readsNames ct a_this a_forms a_sizes a_items a_moved a_bytes a_typed a_chances a_longs a_letters a_isThere a_pieceLongs a_pieceLetters a_song a_settings a_guess a_row a_least a_nights f_latest f_at f_names f_pieces f_songLong f_guesses f_todo f_bytes f_typed f_chances f_longs f_letters) → va_S A s.heap H locs → ∀ ls : Array Slot, lv_has ls 3 [(0, .ref a_this), (2, .int x2)] → W p l e RM_Mo_readsNames s m args below meth c H locs 0 0 (MQ below (QM D (some (.int r)) (w_Mo_readsNames ct a_this a_forms a_sizes a_items a_moved a_bytes a_typed a_chances a_longs a_letters a_isThere a_pieceLongs a_pieceLetters a_song a_settings a_guess a_row a_least a_nights f_latest r_at r_names f_pieces f_songLong f_guesses f_todo f_bytes f_typed r_chances r_longs r_letters) A) args s 0 0 A) (F0 m 56 ls [.int k0]) := by
  obtain ⟨hx, hb, hr, hml, hown, hts, hlk, hK, hN⟩ := id C
  intro x2 k0 f_at f_names f_chances f_longs f_letters hf H locs hP hD hS ls hl
  unfold Mo_readsNames_b56 at hf
  refine lv_istore_n (lv' := [(1, .int k0), (0, .ref a_this), (2, .int x2)]) hx hb dX11_readsNames_56 rfl hl (by decide) rfl (fun ls hl => ?_)
  refine lv_iload_n hx hb dX11_readsNames_57 rfl (lv_at hl 2 rfl) ?_
  refine lv_if_eq (tgt := 75) hx hb dX11_readsNames_58 (by decide) (fun hc => ?_) (fun hc => ?_)
  · have hf := kpos hc hf
    exact t_Mo_readsNames_b75 C hA a_this a_forms a_sizes a_items a_moved a_bytes a_typed a_chances a_longs a_letters a_isThere a_pieceLongs a_pieceLetters a_song a_settings a_guess a_row a_least a_nights f_latest f_pieces f_songLong f_guesses f_todo F f_bytes f_typed r r_at r_names r_chances r_longs r_letters f_at f_names f_chances f_longs f_letters hf _ _ hP hD hS _ (lv_sub hl [1] rfl)
  · have hf := kneg hc hf
    refine lv_iload_n hx hb dX11_readsNames_61 rfl (lv_at hl 0 rfl) ?_
    refine lv_if_eq (tgt := 85) hx hb dX11_readsNames_62 (by decide) (fun hc => ?_) (fun hc => ?_)
    · have hf := kpos hc hf
      exact t_Mo_readsNames_b85 C hA a_this a_forms a_sizes a_items a_moved a_bytes a_typed a_chances a_longs a_letters a_isThere a_pieceLongs a_pieceLetters a_song a_settings a_guess a_row a_least a_nights f_latest f_pieces f_songLong f_guesses f_todo F f_bytes f_typed r r_at r_names r_chances r_longs r_letters rec25 hr25 k0 f_at f_names f_chances f_longs f_letters hf _ _ hP hD hS _ (lv_sub hl [1, 0] rfl)
    · have hf := kneg hc hf
      refine lv_aload_n hx hb dX11_readsNames_65 rfl (lv_at hl 1 rfl) ?_
      refine lv_iconst (v := 0) hx hb dX11_readsNames_66 (by decide) ?_
      obtain ⟨v67, hc67, hf⟩ := cb1_some hf
      refine kcRV (q0 := 0) (ci := 11) (As := [.int 0]) (rest := []) (st1 := [.int v67]) C (c_Mo_here l D ct a_this a_forms a_sizes a_items a_moved a_bytes a_typed a_chances a_longs a_letters a_isThere a_pieceLongs a_pieceLetters a_song a_settings a_guess a_row a_least a_nights f_latest f_names f_pieces f_songLong f_guesses f_todo f_at f_bytes f_typed 0 v67 hc67) ⟨rfl, rfl⟩ yn_yX11_here tw_1095 tw_30 tw_1093 ⟨Nat.le_of_ble_eq_true rfl, Nat.le_of_ble_eq_true rfl⟩ ⟨Nat.zero_le _, Nat.zero_le _⟩ hP [0, 1, 2] rfl rfl rfl rfl hl.1 rfl rfl (Nat.le_of_ble_eq_true rfl) dX11_readsNames_67 rfl ?_
      refine lv_bipush (v := 59) hx hb dX11_readsNames_70 (by decide) ?_
      refine lv_icmp_eq (tgt := 85) hx hb dX11_readsNames_72 (by decide) (fun hc => ?_) (fun hc => ?_)
      · have hf := kpos hc hf
        exact t_Mo_readsNames_b85 C hA a_this a_forms a_sizes a_items a_moved a_bytes a_typed a_chances a_longs a_letters a_isThere a_pieceLongs a_pieceLetters a_song a_settings a_guess a_row a_least a_nights f_latest f_pieces f_songLong f_guesses f_todo F f_bytes f_typed r r_at r_names r_chances r_longs r_letters rec25 hr25 k0 f_at f_names f_chances f_longs f_letters hf _ _ hP hD hS _ (lv_sub hl [1, 0] rfl)
      · have hf := kneg hc hf
        exact t_Mo_readsNames_b75 C hA a_this a_forms a_sizes a_items a_moved a_bytes a_typed a_chances a_longs a_letters a_isThere a_pieceLongs a_pieceLetters a_song a_settings a_guess a_row a_least a_nights f_latest f_pieces f_songLong f_guesses f_todo F f_bytes f_typed r r_at r_names r_chances r_longs r_letters f_at f_names f_chances f_longs f_letters hf _ _ hP hD hS _ (lv_sub hl [1] rfl)
set_option maxHeartbeats 4000000 in
set_option maxRecDepth 100000 in
theorem t_Mo_readsNames_b55 {p : Program} {l : Launch} {e : Env} {s : State} {m : MethodId} {args : Array Value} {below : List Frame} {meth : Method} {c : Code} {D : va_G} {ct : Nat → ClassId} (C : CX p s m args meth c RX11 cX11_readsNames 3 (some .int) D ct) {A : Nat → Prop} (hA : ∀ q : Nat, s.heap.size ≤ q → A q) (a_this a_forms a_sizes a_items a_moved a_bytes a_typed a_chances a_longs a_letters a_isThere a_pieceLongs a_pieceLetters a_song a_settings a_guess a_row a_least a_nights : Nat) (f_latest : Int32) (f_pieces : Int32) (f_songLong : Int32) (f_guesses : Int32) (f_todo : Int32) (F : Nat) (f_bytes : Nat → Int32) (f_typed : Nat → Int32) (r : Int32) (r_at : Int32) (r_names : Int32) (r_chances : Nat → Int32) (r_longs : Nat → Int32) (r_letters : Nat → Int32) (rec25 : Int32 → Int32 → Int32 → (Nat → Int32) → (Nat → Int32) → (Nat → Int32) → Option (Int32 × Int32 × Int32 × (Nat → Int32) × (Nat → Int32) × (Nat → Int32))) (hr25 : ∀ (x1 : Int32) (f_at : Int32) (f_names : Int32) (f_chances : Nat → Int32) (f_longs : Nat → Int32) (f_letters : Nat → Int32), rec25 x1 f_at f_names f_chances f_longs f_letters = some (r, r_at, r_names, r_chances, r_longs, r_letters) → ∀ (H : Heap) (locs : List Loc), va_P D vwCl (w_Mo_readsNames ct a_this a_forms a_sizes a_items a_moved a_bytes a_typed a_chances a_longs a_letters a_isThere a_pieceLongs a_pieceLetters a_song a_settings a_guess a_row a_least a_nights f_latest f_at f_names f_pieces f_songLong f_guesses f_todo f_bytes f_typed f_chances f_longs f_letters) H → va_D A (w_Mo_readsNames ct a_this a_forms a_sizes a_items a_moved a_bytes a_typed a_chances a_longs a_letters a_isThere a_pieceLongs a_pieceLetters a_song a_settings a_guess a_row a_least a_nights f_latest f_at f_names f_pieces f_songLong f_guesses f_todo f_bytes f_typed f_chances f_longs f_letters) → va_S A s.heap H locs → ∀ ls : Array Slot, lv_has ls 3 [(0, .ref a_this), (1, .int x1)] → W p l e RM_Mo_readsNames s m args below meth c H locs 0 0 (MQ below (QM D (some (.int r)) (w_Mo_readsNames ct a_this a_forms a_sizes a_items a_moved a_bytes a_typed a_chances a_longs a_letters a_isThere a_pieceLongs a_pieceLetters a_song a_settings a_guess a_row a_least a_nights f_latest r_at r_names f_pieces f_songLong f_guesses f_todo f_bytes f_typed r_chances r_longs r_letters) A) args s 0 0 A) (F0 m 25 ls [])) : ∀ (x2 : Int32) (f_at : Int32) (f_names : Int32) (f_chances : Nat → Int32) (f_longs : Nat → Int32) (f_letters : Nat → Int32), Mo_readsNames_b55 F f_bytes f_typed rec25 x2 f_at f_names f_chances f_longs f_letters = some (r, r_at, r_names, r_chances, r_longs, r_letters) → ∀ (H : Heap) (locs : List Loc), va_P D vwCl (w_Mo_readsNames ct a_this a_forms a_sizes a_items a_moved a_bytes a_typed a_chances a_longs a_letters a_isThere a_pieceLongs a_pieceLetters a_song a_settings a_guess a_row a_least a_nights f_latest f_at f_names f_pieces f_songLong f_guesses f_todo f_bytes f_typed f_chances f_longs f_letters) H → va_D A (w_Mo_readsNames ct a_this a_forms a_sizes a_items a_moved a_bytes a_typed a_chances a_longs a_letters a_isThere a_pieceLongs a_pieceLetters a_song a_settings a_guess a_row a_least a_nights f_latest f_at f_names f_pieces f_songLong f_guesses f_todo f_bytes f_typed f_chances f_longs f_letters) → va_S A s.heap H locs → ∀ ls : Array Slot, lv_has ls 3 [(0, .ref a_this), (2, .int x2)] → W p l e RM_Mo_readsNames s m args below meth c H locs 0 0 (MQ below (QM D (some (.int r)) (w_Mo_readsNames ct a_this a_forms a_sizes a_items a_moved a_bytes a_typed a_chances a_longs a_letters a_isThere a_pieceLongs a_pieceLetters a_song a_settings a_guess a_row a_least a_nights f_latest r_at r_names f_pieces f_songLong f_guesses f_todo f_bytes f_typed r_chances r_longs r_letters) A) args s 0 0 A) (F0 m 55 ls []) := by
  obtain ⟨hx, hb, hr, hml, hown, hts, hlk, hK, hN⟩ := id C
  intro x2 f_at f_names f_chances f_longs f_letters hf H locs hP hD hS ls hl
  unfold Mo_readsNames_b55 at hf
  refine lv_iconst (v := 0) hx hb dX11_readsNames_55 (by decide) ?_
  exact t_Mo_readsNames_b56 C hA a_this a_forms a_sizes a_items a_moved a_bytes a_typed a_chances a_longs a_letters a_isThere a_pieceLongs a_pieceLetters a_song a_settings a_guess a_row a_least a_nights f_latest f_pieces f_songLong f_guesses f_todo F f_bytes f_typed r r_at r_names r_chances r_longs r_letters rec25 hr25 x2 0 f_at f_names f_chances f_longs f_letters hf _ _ hP hD hS _ (lv_sub hl [0, 1] rfl)
set_option maxHeartbeats 4000000 in
set_option maxRecDepth 100000 in
theorem t_Mo_readsNames_b25 {p : Program} {l : Launch} {e : Env} {s : State} {m : MethodId} {args : Array Value} {below : List Frame} {meth : Method} {c : Code} {D : va_G} {ct : Nat → ClassId} (C : CX p s m args meth c RX11 cX11_readsNames 3 (some .int) D ct) {A : Nat → Prop} (hA : ∀ q : Nat, s.heap.size ≤ q → A q) (a_this a_forms a_sizes a_items a_moved a_bytes a_typed a_chances a_longs a_letters a_isThere a_pieceLongs a_pieceLetters a_song a_settings a_guess a_row a_least a_nights : Nat) (f_latest : Int32) (f_pieces : Int32) (f_songLong : Int32) (f_guesses : Int32) (f_todo : Int32) (F : Nat) (f_bytes : Nat → Int32) (f_typed : Nat → Int32) (r : Int32) (r_at : Int32) (r_names : Int32) (r_chances : Nat → Int32) (r_longs : Nat → Int32) (r_letters : Nat → Int32) (rec25 : Int32 → Int32 → Int32 → (Nat → Int32) → (Nat → Int32) → (Nat → Int32) → Option (Int32 × Int32 × Int32 × (Nat → Int32) × (Nat → Int32) × (Nat → Int32))) (hr25 : ∀ (x1 : Int32) (f_at : Int32) (f_names : Int32) (f_chances : Nat → Int32) (f_longs : Nat → Int32) (f_letters : Nat → Int32), rec25 x1 f_at f_names f_chances f_longs f_letters = some (r, r_at, r_names, r_chances, r_longs, r_letters) → ∀ (H : Heap) (locs : List Loc), va_P D vwCl (w_Mo_readsNames ct a_this a_forms a_sizes a_items a_moved a_bytes a_typed a_chances a_longs a_letters a_isThere a_pieceLongs a_pieceLetters a_song a_settings a_guess a_row a_least a_nights f_latest f_at f_names f_pieces f_songLong f_guesses f_todo f_bytes f_typed f_chances f_longs f_letters) H → va_D A (w_Mo_readsNames ct a_this a_forms a_sizes a_items a_moved a_bytes a_typed a_chances a_longs a_letters a_isThere a_pieceLongs a_pieceLetters a_song a_settings a_guess a_row a_least a_nights f_latest f_at f_names f_pieces f_songLong f_guesses f_todo f_bytes f_typed f_chances f_longs f_letters) → va_S A s.heap H locs → ∀ ls : Array Slot, lv_has ls 3 [(0, .ref a_this), (1, .int x1)] → W p l e RM_Mo_readsNames s m args below meth c H locs 0 0 (MQ below (QM D (some (.int r)) (w_Mo_readsNames ct a_this a_forms a_sizes a_items a_moved a_bytes a_typed a_chances a_longs a_letters a_isThere a_pieceLongs a_pieceLetters a_song a_settings a_guess a_row a_least a_nights f_latest r_at r_names f_pieces f_songLong f_guesses f_todo f_bytes f_typed r_chances r_longs r_letters) A) args s 0 0 A) (F0 m 25 ls [])) : ∀ (x1 : Int32) (f_at : Int32) (f_names : Int32) (f_chances : Nat → Int32) (f_longs : Nat → Int32) (f_letters : Nat → Int32), Mo_readsNames_b25 F f_bytes f_typed rec25 x1 f_at f_names f_chances f_longs f_letters = some (r, r_at, r_names, r_chances, r_longs, r_letters) → ∀ (H : Heap) (locs : List Loc), va_P D vwCl (w_Mo_readsNames ct a_this a_forms a_sizes a_items a_moved a_bytes a_typed a_chances a_longs a_letters a_isThere a_pieceLongs a_pieceLetters a_song a_settings a_guess a_row a_least a_nights f_latest f_at f_names f_pieces f_songLong f_guesses f_todo f_bytes f_typed f_chances f_longs f_letters) H → va_D A (w_Mo_readsNames ct a_this a_forms a_sizes a_items a_moved a_bytes a_typed a_chances a_longs a_letters a_isThere a_pieceLongs a_pieceLetters a_song a_settings a_guess a_row a_least a_nights f_latest f_at f_names f_pieces f_songLong f_guesses f_todo f_bytes f_typed f_chances f_longs f_letters) → va_S A s.heap H locs → ∀ ls : Array Slot, lv_has ls 3 [(0, .ref a_this), (1, .int x1)] → W p l e RM_Mo_readsNames s m args below meth c H locs 0 0 (MQ below (QM D (some (.int r)) (w_Mo_readsNames ct a_this a_forms a_sizes a_items a_moved a_bytes a_typed a_chances a_longs a_letters a_isThere a_pieceLongs a_pieceLetters a_song a_settings a_guess a_row a_least a_nights f_latest r_at r_names f_pieces f_songLong f_guesses f_todo f_bytes f_typed r_chances r_longs r_letters) A) args s 0 0 A) (F0 m 25 ls []) := by
  obtain ⟨hx, hb, hr, hml, hown, hts, hlk, hK, hN⟩ := id C
  intro x1 f_at f_names f_chances f_longs f_letters hf H locs hP hD hS ls hl
  unfold Mo_readsNames_b25 at hf
  refine lv_iload_n hx hb dX11_readsNames_25 rfl (lv_at hl 1 rfl) ?_
  refine lv_if_eq (tgt := 106) hx hb dX11_readsNames_26 (by decide) (fun hc => ?_) (fun hc => ?_)
  · have hf := kpos hc hf
    refine lv_iconst (v := (-1)) hx hb dX11_readsNames_106 (by decide) ?_
    obtain ⟨e1, e2, e3, e4, e5, e6⟩ := ti6 hf
    subst e1; subst e2; subst e3; subst e4; subst e5; subst e6
    exact kretM C hP hD hS dX11_readsNames_107
  · have hf := kneg hc hf
    refine lv_aload_n hx hb dX11_readsNames_29 rfl (lv_at hl 0 rfl) ?_
    obtain ⟨v30, f_at_30, f_names_30, f_chances_30, f_longs_30, f_letters_30, hc30, hf⟩ := cb6_some hf
    refine kcMV (q0 := 0) (ci := 11) (As := []) (rest := []) (st1 := [.int v30]) (wf := (w_Mo_readsNames ct a_this a_forms a_sizes a_items a_moved a_bytes a_typed a_chances a_longs a_letters a_isThere a_pieceLongs a_pieceLetters a_song a_settings a_guess a_row a_least a_nights f_latest f_at_30 f_names_30 f_pieces f_songLong f_guesses f_todo f_bytes f_typed f_chances_30 f_longs_30 f_letters_30)) C (c_Mo_readsName l D ct a_this a_forms a_sizes a_items a_moved a_bytes a_typed a_chances a_longs a_letters a_isThere a_pieceLongs a_pieceLetters a_song a_settings a_guess a_row a_least a_nights f_latest f_pieces f_songLong f_guesses f_todo F f_bytes f_typed f_at f_names f_chances f_longs f_letters v30 f_at_30 f_names_30 f_chances_30 f_longs_30 f_letters_30 _ hc30) ⟨rfl, rfl⟩ yn_yX11_readsName tw_1091 tw_29 tw_1089 ⟨Nat.le_of_ble_eq_true rfl, Nat.le_of_ble_eq_true rfl⟩ ⟨Nat.zero_le _, Nat.zero_le _⟩ hP hD hS hA [0, 1, 2, 3, 4, 5] [] [0, 1, 2, 3, 4, 5] rfl rfl rfl rfl rfl (by decide) rfl rfl rfl rfl rfl rfl hl.1 rfl rfl (Nat.le_of_ble_eq_true rfl) dX11_readsNames_30 rfl (fun H locs hP hD hS => ?_)
    refine lv_istore_n (lv' := [(2, .int v30), (0, .ref a_this), (1, .int x1)]) hx hb dX11_readsNames_33 rfl hl (by decide) rfl (fun ls hl => ?_)
    refine lv_iload_n hx hb dX11_readsNames_34 rfl (lv_at hl 0 rfl) ?_
    refine lv_if_eq (tgt := 55) hx hb dX11_readsNames_35 (by decide) (fun hc => ?_) (fun hc => ?_)
    · have hf := kpos hc hf
      exact t_Mo_readsNames_b55 C hA a_this a_forms a_sizes a_items a_moved a_bytes a_typed a_chances a_longs a_letters a_isThere a_pieceLongs a_pieceLetters a_song a_settings a_guess a_row a_least a_nights f_latest f_pieces f_songLong f_guesses f_todo F f_bytes f_typed r r_at r_names r_chances r_longs r_letters rec25 hr25 v30 f_at_30 f_names_30 f_chances_30 f_longs_30 f_letters_30 hf _ _ hP hD hS _ (lv_sub hl [1, 0] rfl)
    · have hf := kneg hc hf
      refine lv_aload_n hx hb dX11_readsNames_38 rfl (lv_at hl 1 rfl) ?_
      refine va_get (ci := 11) (v := .int f_at_30) (C := RX11) (T := TX11) (N := 25) hx hb hts inX11 hown hK hP 0 rfl rfl 7 (by decide) (hts _ tw_952) (fun _ h9 => h9) rfl dX11_readsNames_39 ?_
      refine lv_aload_n hx hb dX11_readsNames_42 rfl (lv_at hl 1 rfl) ?_
      refine va_get (ci := 11) (v := .ref a_typed) (C := RX11) (T := TX11) (N := 25) hx hb hts inX11 hown hK hP 0 rfl rfl 6 (by decide) (hts _ tw_951) (fun _ h9 => h9) rfl dX11_readsNames_43 ?_
      refine lv_iconst (v := 0) hx hb dX11_readsNames_46 (by decide) ?_
      obtain ⟨hin, hf⟩ := rd_some hf
      generalize ev47 : f_typed (Int32.toNatClampNeg 0) = v47 at hf
      refine kiald hx hb hK hP 2 0 rfl rfl hin ev47 dX11_readsNames_47 ?_
      refine lv_icmp_ge (tgt := 55) hx hb dX11_readsNames_48 (by decide) (fun hc => ?_) (fun hc => ?_)
      · have hf := kpos hc hf
        exact t_Mo_readsNames_b55 C hA a_this a_forms a_sizes a_items a_moved a_bytes a_typed a_chances a_longs a_letters a_isThere a_pieceLongs a_pieceLetters a_song a_settings a_guess a_row a_least a_nights f_latest f_pieces f_songLong f_guesses f_todo F f_bytes f_typed r r_at r_names r_chances r_longs r_letters rec25 hr25 v30 f_at_30 f_names_30 f_chances_30 f_longs_30 f_letters_30 hf _ _ hP hD hS _ (lv_sub hl [1, 0] rfl)
      · have hf := kneg hc hf
        refine lv_iconst (v := 1) hx hb dX11_readsNames_51 (by decide) ?_
        refine lv_goto (tgt := 56) hx hb dX11_readsNames_52 (by decide) ?_
        exact t_Mo_readsNames_b56 C hA a_this a_forms a_sizes a_items a_moved a_bytes a_typed a_chances a_longs a_letters a_isThere a_pieceLongs a_pieceLetters a_song a_settings a_guess a_row a_least a_nights f_latest f_pieces f_songLong f_guesses f_todo F f_bytes f_typed r r_at r_names r_chances r_longs r_letters rec25 hr25 v30 1 f_at_30 f_names_30 f_chances_30 f_longs_30 f_letters_30 hf _ _ hP hD hS _ (lv_sub hl [1, 0] rfl)
set_option maxHeartbeats 4000000 in
set_option maxRecDepth 100000 in
theorem t_Mo_readsNames_l25 {p : Program} {l : Launch} {e : Env} {s : State} {m : MethodId} {args : Array Value} {below : List Frame} {meth : Method} {c : Code} {D : va_G} {ct : Nat → ClassId} (C : CX p s m args meth c RX11 cX11_readsNames 3 (some .int) D ct) {A : Nat → Prop} (hA : ∀ q : Nat, s.heap.size ≤ q → A q) (a_this a_forms a_sizes a_items a_moved a_bytes a_typed a_chances a_longs a_letters a_isThere a_pieceLongs a_pieceLetters a_song a_settings a_guess a_row a_least a_nights : Nat) (f_latest : Int32) (f_pieces : Int32) (f_songLong : Int32) (f_guesses : Int32) (f_todo : Int32) (F : Nat) (f_bytes : Nat → Int32) (f_typed : Nat → Int32) (r : Int32) (r_at : Int32) (r_names : Int32) (r_chances : Nat → Int32) (r_longs : Nat → Int32) (r_letters : Nat → Int32) : ∀ (n : Nat) (x1 : Int32) (f_at : Int32) (f_names : Int32) (f_chances : Nat → Int32) (f_longs : Nat → Int32) (f_letters : Nat → Int32), Mo_readsNames_l25 F f_bytes f_typed n x1 f_at f_names f_chances f_longs f_letters = some (r, r_at, r_names, r_chances, r_longs, r_letters) → ∀ (H : Heap) (locs : List Loc), va_P D vwCl (w_Mo_readsNames ct a_this a_forms a_sizes a_items a_moved a_bytes a_typed a_chances a_longs a_letters a_isThere a_pieceLongs a_pieceLetters a_song a_settings a_guess a_row a_least a_nights f_latest f_at f_names f_pieces f_songLong f_guesses f_todo f_bytes f_typed f_chances f_longs f_letters) H → va_D A (w_Mo_readsNames ct a_this a_forms a_sizes a_items a_moved a_bytes a_typed a_chances a_longs a_letters a_isThere a_pieceLongs a_pieceLetters a_song a_settings a_guess a_row a_least a_nights f_latest f_at f_names f_pieces f_songLong f_guesses f_todo f_bytes f_typed f_chances f_longs f_letters) → va_S A s.heap H locs → ∀ ls : Array Slot, lv_has ls 3 [(0, .ref a_this), (1, .int x1)] → W p l e RM_Mo_readsNames s m args below meth c H locs 0 0 (MQ below (QM D (some (.int r)) (w_Mo_readsNames ct a_this a_forms a_sizes a_items a_moved a_bytes a_typed a_chances a_longs a_letters a_isThere a_pieceLongs a_pieceLetters a_song a_settings a_guess a_row a_least a_nights f_latest r_at r_names f_pieces f_songLong f_guesses f_todo f_bytes f_typed r_chances r_longs r_letters) A) args s 0 0 A) (F0 m 25 ls []) := by
  intro n
  induction n with
  | zero =>
    intro x1 f_at f_names f_chances f_longs f_letters hf
    exact absurd hf (by simp [Mo_readsNames_l25])
  | succ n ih =>
    intro x1 f_at f_names f_chances f_longs f_letters hf
    exact t_Mo_readsNames_b25 C hA a_this a_forms a_sizes a_items a_moved a_bytes a_typed a_chances a_longs a_letters a_isThere a_pieceLongs a_pieceLetters a_song a_settings a_guess a_row a_least a_nights f_latest f_pieces f_songLong f_guesses f_todo F f_bytes f_typed r r_at r_names r_chances r_longs r_letters (Mo_readsNames_l25 F f_bytes f_typed n) ih x1 f_at f_names f_chances f_longs f_letters hf
set_option maxHeartbeats 4000000 in
set_option maxRecDepth 100000 in
theorem t_Mo_readsNames_b24 {p : Program} {l : Launch} {e : Env} {s : State} {m : MethodId} {args : Array Value} {below : List Frame} {meth : Method} {c : Code} {D : va_G} {ct : Nat → ClassId} (C : CX p s m args meth c RX11 cX11_readsNames 3 (some .int) D ct) {A : Nat → Prop} (hA : ∀ q : Nat, s.heap.size ≤ q → A q) (a_this a_forms a_sizes a_items a_moved a_bytes a_typed a_chances a_longs a_letters a_isThere a_pieceLongs a_pieceLetters a_song a_settings a_guess a_row a_least a_nights : Nat) (f_latest : Int32) (f_pieces : Int32) (f_songLong : Int32) (f_guesses : Int32) (f_todo : Int32) (F : Nat) (f_bytes : Nat → Int32) (f_typed : Nat → Int32) (r : Int32) (r_at : Int32) (r_names : Int32) (r_chances : Nat → Int32) (r_longs : Nat → Int32) (r_letters : Nat → Int32) : ∀ (k0 : Int32) (f_at : Int32) (f_names : Int32) (f_chances : Nat → Int32) (f_longs : Nat → Int32) (f_letters : Nat → Int32), Mo_readsNames_b24 F f_bytes f_typed k0 f_at f_names f_chances f_longs f_letters = some (r, r_at, r_names, r_chances, r_longs, r_letters) → ∀ (H : Heap) (locs : List Loc), va_P D vwCl (w_Mo_readsNames ct a_this a_forms a_sizes a_items a_moved a_bytes a_typed a_chances a_longs a_letters a_isThere a_pieceLongs a_pieceLetters a_song a_settings a_guess a_row a_least a_nights f_latest f_at f_names f_pieces f_songLong f_guesses f_todo f_bytes f_typed f_chances f_longs f_letters) H → va_D A (w_Mo_readsNames ct a_this a_forms a_sizes a_items a_moved a_bytes a_typed a_chances a_longs a_letters a_isThere a_pieceLongs a_pieceLetters a_song a_settings a_guess a_row a_least a_nights f_latest f_at f_names f_pieces f_songLong f_guesses f_todo f_bytes f_typed f_chances f_longs f_letters) → va_S A s.heap H locs → ∀ ls : Array Slot, lv_has ls 3 [(0, .ref a_this)] → W p l e RM_Mo_readsNames s m args below meth c H locs 0 0 (MQ below (QM D (some (.int r)) (w_Mo_readsNames ct a_this a_forms a_sizes a_items a_moved a_bytes a_typed a_chances a_longs a_letters a_isThere a_pieceLongs a_pieceLetters a_song a_settings a_guess a_row a_least a_nights f_latest r_at r_names f_pieces f_songLong f_guesses f_todo f_bytes f_typed r_chances r_longs r_letters) A) args s 0 0 A) (F0 m 24 ls [.int k0]) := by
  obtain ⟨hx, hb, hr, hml, hown, hts, hlk, hK, hN⟩ := id C
  intro k0 f_at f_names f_chances f_longs f_letters hf H locs hP hD hS ls hl
  unfold Mo_readsNames_b24 at hf
  refine lv_istore_n (lv' := [(1, .int k0), (0, .ref a_this)]) hx hb dX11_readsNames_24 rfl hl (by decide) rfl (fun ls hl => ?_)
  exact t_Mo_readsNames_l25 C hA a_this a_forms a_sizes a_items a_moved a_bytes a_typed a_chances a_longs a_letters a_isThere a_pieceLongs a_pieceLetters a_song a_settings a_guess a_row a_least a_nights f_latest f_pieces f_songLong f_guesses f_todo F f_bytes f_typed r r_at r_names r_chances r_longs r_letters F k0 f_at f_names f_chances f_longs f_letters hf _ _ hP hD hS _ (lv_sub hl [1, 0] rfl)
set_option maxHeartbeats 4000000 in
set_option maxRecDepth 100000 in
theorem c_Mo_readsNames (l : Launch) (D : va_G) (ct : Nat → ClassId) (a_this a_forms a_sizes a_items a_moved a_bytes a_typed a_chances a_longs a_letters a_isThere a_pieceLongs a_pieceLetters a_song a_settings a_guess a_row a_least a_nights : Nat) (f_latest : Int32) (f_pieces : Int32) (f_songLong : Int32) (f_guesses : Int32) (f_todo : Int32) (F : Nat) (f_bytes : Nat → Int32) (f_typed : Nat → Int32) (f_at : Int32) (f_names : Int32) (f_chances : Nat → Int32) (f_longs : Nat → Int32) (f_letters : Nat → Int32) (r : Int32) (r_at : Int32) (r_names : Int32) (r_chances : Nat → Int32) (r_longs : Nat → Int32) (r_letters : Nat → Int32) (sz : Nat) (hf : Mo_readsNames F f_bytes f_typed f_at f_names f_chances f_longs f_letters = some (r, r_at, r_names, r_chances, r_longs, r_letters)) : Met l yX11_readsNames (WS yX11_readsNames cX11_readsNames 3 (some .int)) RM_Mo_readsNames (va_Pc [.ref a_this] (PM D ct sz (w_Mo_readsNames ct a_this a_forms a_sizes a_items a_moved a_bytes a_typed a_chances a_longs a_letters a_isThere a_pieceLongs a_pieceLetters a_song a_settings a_guess a_row a_least a_nights f_latest f_at f_names f_pieces f_songLong f_guesses f_todo f_bytes f_typed f_chances f_longs f_letters))) (QM D (some (.int r)) (w_Mo_readsNames ct a_this a_forms a_sizes a_items a_moved a_bytes a_typed a_chances a_longs a_letters a_isThere a_pieceLongs a_pieceLetters a_song a_settings a_guess a_row a_least a_nights f_latest r_at r_names f_pieces f_songLong f_guesses f_todo f_bytes f_typed r_chances r_longs r_letters) (va_A (w_Mo_readsNames ct a_this a_forms a_sizes a_items a_moved a_bytes a_typed a_chances a_longs a_letters a_isThere a_pieceLongs a_pieceLetters a_song a_settings a_guess a_row a_least a_nights f_latest f_at f_names f_pieces f_songLong f_guesses f_todo f_bytes f_typed f_chances f_longs f_letters) sz)) 0 0 (va_A (w_Mo_readsNames ct a_this a_forms a_sizes a_items a_moved a_bytes a_typed a_chances a_longs a_letters a_isThere a_pieceLongs a_pieceLetters a_song a_settings a_guess a_row a_least a_nights f_latest f_at f_names f_pieces f_songLong f_guesses f_todo f_bytes f_typed f_chances f_longs f_letters) sz) := by
  refine kMetM yn_yX11_readsNames rfl (Nat.le_of_ble_eq_true rfl) ?_
  intro p e s m args below meth c A C hA hP hD ls hl
  have hl : lv_has ls 3 [(0, .ref a_this)] := hl
  have hS : va_S A s.heap s.heap [] := va_S.rf
  obtain ⟨hx, hb, hr, hml, hown, hts, hlk, hK, hN⟩ := id C
  unfold Mo_readsNames at hf
  refine lv_aload_n hx hb dX11_readsNames_0 rfl (lv_at hl 0 rfl) ?_
  refine lv_iconst (v := 0) hx hb dX11_readsNames_1 (by decide) ?_
  refine va_put (ci := 11) (v := .int 0) (ty := .int) (C := RX11) (T := TX11) (N := 25) hx hb hts inX11 tyX11 tyX11_ok nmX11 hown hK hP hD hS 0 rfl rfl 7 (by decide) (hts _ tw_952) (fun _ h9 => h9) rfl (tyX11_ok 7 (by decide)) rfl rfl (Nat.le_of_ble_eq_true rfl) dX11_readsNames_2 (fun H locs hP hD hS => ?_)
  have hP : va_P D vwCl (w_Mo_readsNames ct a_this a_forms a_sizes a_items a_moved a_bytes a_typed a_chances a_longs a_letters a_isThere a_pieceLongs a_pieceLetters a_song a_settings a_guess a_row a_least a_nights f_latest 0 f_names f_pieces f_songLong f_guesses f_todo f_bytes f_typed f_chances f_longs f_letters) H := hP
  have hD : va_D A (w_Mo_readsNames ct a_this a_forms a_sizes a_items a_moved a_bytes a_typed a_chances a_longs a_letters a_isThere a_pieceLongs a_pieceLetters a_song a_settings a_guess a_row a_least a_nights f_latest 0 f_names f_pieces f_songLong f_guesses f_todo f_bytes f_typed f_chances f_longs f_letters) := hD
  refine lv_aload_n hx hb dX11_readsNames_5 rfl (lv_at hl 0 rfl) ?_
  refine lv_iconst (v := 0) hx hb dX11_readsNames_6 (by decide) ?_
  refine va_put (ci := 11) (v := .int 0) (ty := .int) (C := RX11) (T := TX11) (N := 25) hx hb hts inX11 tyX11 tyX11_ok nmX11 hown hK hP hD hS 0 rfl rfl 8 (by decide) (hts _ tw_953) (fun _ h9 => h9) rfl (tyX11_ok 8 (by decide)) rfl rfl (Nat.le_of_ble_eq_true rfl) dX11_readsNames_7 (fun H locs hP hD hS => ?_)
  have hP : va_P D vwCl (w_Mo_readsNames ct a_this a_forms a_sizes a_items a_moved a_bytes a_typed a_chances a_longs a_letters a_isThere a_pieceLongs a_pieceLetters a_song a_settings a_guess a_row a_least a_nights f_latest 0 0 f_pieces f_songLong f_guesses f_todo f_bytes f_typed f_chances f_longs f_letters) H := hP
  have hD : va_D A (w_Mo_readsNames ct a_this a_forms a_sizes a_items a_moved a_bytes a_typed a_chances a_longs a_letters a_isThere a_pieceLongs a_pieceLetters a_song a_settings a_guess a_row a_least a_nights f_latest 0 0 f_pieces f_songLong f_guesses f_todo f_bytes f_typed f_chances f_longs f_letters) := hD
  refine lv_aload_n hx hb dX11_readsNames_10 rfl (lv_at hl 0 rfl) ?_
  refine va_get (ci := 11) (v := .ref a_typed) (C := RX11) (T := TX11) (N := 25) hx hb hts inX11 hown hK hP 0 rfl rfl 6 (by decide) (hts _ tw_951) (fun _ h9 => h9) rfl dX11_readsNames_11 ?_
  refine lv_iconst (v := 0) hx hb dX11_readsNames_14 (by decide) ?_
  obtain ⟨hin, hf⟩ := rd_some hf
  generalize ev15 : f_typed (Int32.toNatClampNeg 0) = v15 at hf
  refine kiald hx hb hK hP 2 0 rfl rfl hin ev15 dX11_readsNames_15 ?_
  refine lv_if_le (tgt := 23) hx hb dX11_readsNames_16 (by decide) (fun hc => ?_) (fun hc => ?_)
  · have hf := kpos hc hf
    refine lv_iconst (v := 0) hx hb dX11_readsNames_23 (by decide) ?_
    exact t_Mo_readsNames_b24 C hA a_this a_forms a_sizes a_items a_moved a_bytes a_typed a_chances a_longs a_letters a_isThere a_pieceLongs a_pieceLetters a_song a_settings a_guess a_row a_least a_nights f_latest f_pieces f_songLong f_guesses f_todo F f_bytes f_typed r r_at r_names r_chances r_longs r_letters 0 0 0 f_chances f_longs f_letters hf _ _ hP hD hS _ (lv_sub hl [0] rfl)
  · have hf := kneg hc hf
    refine lv_iconst (v := 1) hx hb dX11_readsNames_19 (by decide) ?_
    refine lv_goto (tgt := 24) hx hb dX11_readsNames_20 (by decide) ?_
    exact t_Mo_readsNames_b24 C hA a_this a_forms a_sizes a_items a_moved a_bytes a_typed a_chances a_longs a_letters a_isThere a_pieceLongs a_pieceLetters a_song a_settings a_guess a_row a_least a_nights f_latest f_pieces f_songLong f_guesses f_todo F f_bytes f_typed r r_at r_names r_chances r_longs r_letters 1 0 0 f_chances f_longs f_letters hf _ _ hP hD hS _ (lv_sub hl [0] rfl)
