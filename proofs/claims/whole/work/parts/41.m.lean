def RM_Mo_readsPiece : Room := { frames := 2, cells := 0, slots := 0, locals := 47 }
set_option maxHeartbeats 4000000 in
set_option maxRecDepth 100000 in
theorem t_Mo_readsPiece_b115 {p : Program} {l : Launch} {e : Env} {s : State} {m : MethodId} {args : Array Value} {below : List Frame} {meth : Method} {c : Code} {D : va_G} {ct : Nat → ClassId} (C : CX p s m args meth c RX11 cX11_readsPiece 2 (some .boolean) D ct) {A : Nat → Prop} (hA : ∀ q : Nat, s.heap.size ≤ q → A q) (a_this a_forms a_sizes a_items a_moved a_bytes a_typed a_chances a_longs a_letters a_isThere a_pieceLongs a_pieceLetters a_song a_settings a_guess a_row a_least a_nights : Nat) (f_latest : Int32) (f_names : Int32) (f_songLong : Int32) (f_guesses : Int32) (f_todo : Int32) (F : Nat) (f_bytes : Nat → Int32) (f_typed : Nat → Int32) (r : Int32) (r_at : Int32) (r_pieces : Int32) (r_isThere : Nat → Int32) (r_pieceLongs : Nat → Int32) (r_pieceLetters : Nat → Int32) : ∀ (x1 : Int32) (f_at : Int32) (f_pieces : Int32) (f_isThere : Nat → Int32) (f_pieceLongs : Nat → Int32) (f_pieceLetters : Nat → Int32), Mo_readsPiece_b115 F f_bytes f_typed x1 f_at f_pieces f_isThere f_pieceLongs f_pieceLetters = some (r, r_at, r_pieces, r_isThere, r_pieceLongs, r_pieceLetters) → ∀ (H : Heap) (locs : List Loc), va_P D vwCl (w_Mo_readsPiece ct a_this a_forms a_sizes a_items a_moved a_bytes a_typed a_chances a_longs a_letters a_isThere a_pieceLongs a_pieceLetters a_song a_settings a_guess a_row a_least a_nights f_latest f_at f_names f_pieces f_songLong f_guesses f_todo f_bytes f_typed f_isThere f_pieceLongs f_pieceLetters) H → va_D A (w_Mo_readsPiece ct a_this a_forms a_sizes a_items a_moved a_bytes a_typed a_chances a_longs a_letters a_isThere a_pieceLongs a_pieceLetters a_song a_settings a_guess a_row a_least a_nights f_latest f_at f_names f_pieces f_songLong f_guesses f_todo f_bytes f_typed f_isThere f_pieceLongs f_pieceLetters) → va_S A s.heap H locs → ∀ ls : Array Slot, lv_has ls 2 [(0, .ref a_this), (1, .int x1)] → W p l e RM_Mo_readsPiece s m args below meth c H locs 0 0 (MQ below (QM D (some (.int r)) (w_Mo_readsPiece ct a_this a_forms a_sizes a_items a_moved a_bytes a_typed a_chances a_longs a_letters a_isThere a_pieceLongs a_pieceLetters a_song a_settings a_guess a_row a_least a_nights f_latest r_at f_names r_pieces f_songLong f_guesses f_todo f_bytes f_typed r_isThere r_pieceLongs r_pieceLetters) A) args s 0 0 A) (F0 m 115 ls []) := by
  obtain ⟨hx, hb, hr, hml, hown, hts, hlk, hK, hN⟩ := id C
  intro x1 f_at f_pieces f_isThere f_pieceLongs f_pieceLetters hf H locs hP hD hS ls hl
  unfold Mo_readsPiece_b115 at hf
  refine lv_iload_n hx hb dX11_readsPiece_115 rfl (lv_at hl 1 rfl) ?_
  refine lv_if_ne (tgt := 121) hx hb dX11_readsPiece_116 (by decide) (fun hc => ?_) (fun hc => ?_)
  · have hf := kneg hc hf
    refine lv_aload_n hx hb dX11_readsPiece_121 rfl (lv_at hl 0 rfl) ?_
    refine va_get (ci := 11) (v := .ref a_pieceLongs) (C := RX11) (T := TX11) (N := 25) hx hb hts inX11 hown hK hP 0 rfl rfl 14 (by decide) (hts _ tw_959) (fun _ h9 => h9) rfl dX11_readsPiece_122 ?_
    refine lv_aload_n hx hb dX11_readsPiece_125 rfl (lv_at hl 0 rfl) ?_
    refine va_get (ci := 11) (v := .int f_pieces) (C := RX11) (T := TX11) (N := 25) hx hb hts inX11 hown hK hP 0 rfl rfl 12 (by decide) (hts _ tw_957) (fun _ h9 => h9) rfl dX11_readsPiece_126 ?_
    refine lv_iload_n hx hb dX11_readsPiece_129 rfl (lv_at hl 1 rfl) ?_
    obtain ⟨hin, f_pieceLongs_130, ev130, hf⟩ := wr_ex hf
    refine kiast hx hb hK hP hD hS 4 0 rfl rfl hin ev130 dX11_readsPiece_130 (fun H locs hP hD hS => ?_)
    have hP : va_P D vwCl (w_Mo_readsPiece ct a_this a_forms a_sizes a_items a_moved a_bytes a_typed a_chances a_longs a_letters a_isThere a_pieceLongs a_pieceLetters a_song a_settings a_guess a_row a_least a_nights f_latest f_at f_names f_pieces f_songLong f_guesses f_todo f_bytes f_typed f_isThere f_pieceLongs_130 f_pieceLetters) H := hP
    have hD : va_D A (w_Mo_readsPiece ct a_this a_forms a_sizes a_items a_moved a_bytes a_typed a_chances a_longs a_letters a_isThere a_pieceLongs a_pieceLetters a_song a_settings a_guess a_row a_least a_nights f_latest f_at f_names f_pieces f_songLong f_guesses f_todo f_bytes f_typed f_isThere f_pieceLongs_130 f_pieceLetters) := hD
    refine lv_aload_n hx hb dX11_readsPiece_131 rfl (lv_at hl 0 rfl) ?_
    refine lv_dup hx hb dX11_readsPiece_132 rfl ?_
    refine va_get (ci := 11) (v := .int f_pieces) (C := RX11) (T := TX11) (N := 25) hx hb hts inX11 hown hK hP 0 rfl rfl 12 (by decide) (hts _ tw_957) (fun _ h9 => h9) rfl dX11_readsPiece_133 ?_
    refine lv_iconst (v := 1) hx hb dX11_readsPiece_136 (by decide) ?_
    refine lv_iadd hx hb dX11_readsPiece_137 ?_
    refine va_put (ci := 11) (v := .int (f_pieces + 1)) (ty := .int) (C := RX11) (T := TX11) (N := 25) hx hb hts inX11 tyX11 tyX11_ok nmX11 hown hK hP hD hS 0 rfl rfl 12 (by decide) (hts _ tw_957) (fun _ h9 => h9) rfl (tyX11_ok 12 (by decide)) rfl rfl (Nat.le_of_ble_eq_true rfl) dX11_readsPiece_138 (fun H locs hP hD hS => ?_)
    have hP : va_P D vwCl (w_Mo_readsPiece ct a_this a_forms a_sizes a_items a_moved a_bytes a_typed a_chances a_longs a_letters a_isThere a_pieceLongs a_pieceLetters a_song a_settings a_guess a_row a_least a_nights f_latest f_at f_names (f_pieces + 1) f_songLong f_guesses f_todo f_bytes f_typed f_isThere f_pieceLongs_130 f_pieceLetters) H := hP
    have hD : va_D A (w_Mo_readsPiece ct a_this a_forms a_sizes a_items a_moved a_bytes a_typed a_chances a_longs a_letters a_isThere a_pieceLongs a_pieceLetters a_song a_settings a_guess a_row a_least a_nights f_latest f_at f_names (f_pieces + 1) f_songLong f_guesses f_todo f_bytes f_typed f_isThere f_pieceLongs_130 f_pieceLetters) := hD
    refine lv_iconst (v := 1) hx hb dX11_readsPiece_141 (by decide) ?_
    obtain ⟨e1, e2, e3, e4, e5, e6⟩ := ti6 hf
    subst e1; subst e2; subst e3; subst e4; subst e5; subst e6
    exact kretMz C (by decide) hP hD hS dX11_readsPiece_142
  · have hf := kpos hc hf
    refine lv_iconst (v := 0) hx hb dX11_readsPiece_119 (by decide) ?_
    obtain ⟨e1, e2, e3, e4, e5, e6⟩ := ti6 hf
    subst e1; subst e2; subst e3; subst e4; subst e5; subst e6
    exact kretMz C (by decide) hP hD hS dX11_readsPiece_120
set_option maxHeartbeats 4000000 in
set_option maxRecDepth 100000 in
theorem t_Mo_readsPiece_b67 {p : Program} {l : Launch} {e : Env} {s : State} {m : MethodId} {args : Array Value} {below : List Frame} {meth : Method} {c : Code} {D : va_G} {ct : Nat → ClassId} (C : CX p s m args meth c RX11 cX11_readsPiece 2 (some .boolean) D ct) {A : Nat → Prop} (hA : ∀ q : Nat, s.heap.size ≤ q → A q) (a_this a_forms a_sizes a_items a_moved a_bytes a_typed a_chances a_longs a_letters a_isThere a_pieceLongs a_pieceLetters a_song a_settings a_guess a_row a_least a_nights : Nat) (f_latest : Int32) (f_names : Int32) (f_songLong : Int32) (f_guesses : Int32) (f_todo : Int32) (F : Nat) (f_bytes : Nat → Int32) (f_typed : Nat → Int32) (r : Int32) (r_at : Int32) (r_pieces : Int32) (r_isThere : Nat → Int32) (r_pieceLongs : Nat → Int32) (r_pieceLetters : Nat → Int32) (rec67 : Int32 → Int32 → Int32 → (Nat → Int32) → (Nat → Int32) → (Nat → Int32) → Option (Int32 × Int32 × Int32 × (Nat → Int32) × (Nat → Int32) × (Nat → Int32))) (hr67 : ∀ (x1 : Int32) (f_at : Int32) (f_pieces : Int32) (f_isThere : Nat → Int32) (f_pieceLongs : Nat → Int32) (f_pieceLetters : Nat → Int32), rec67 x1 f_at f_pieces f_isThere f_pieceLongs f_pieceLetters = some (r, r_at, r_pieces, r_isThere, r_pieceLongs, r_pieceLetters) → ∀ (H : Heap) (locs : List Loc), va_P D vwCl (w_Mo_readsPiece ct a_this a_forms a_sizes a_items a_moved a_bytes a_typed a_chances a_longs a_letters a_isThere a_pieceLongs a_pieceLetters a_song a_settings a_guess a_row a_least a_nights f_latest f_at f_names f_pieces f_songLong f_guesses f_todo f_bytes f_typed f_isThere f_pieceLongs f_pieceLetters) H → va_D A (w_Mo_readsPiece ct a_this a_forms a_sizes a_items a_moved a_bytes a_typed a_chances a_longs a_letters a_isThere a_pieceLongs a_pieceLetters a_song a_settings a_guess a_row a_least a_nights f_latest f_at f_names f_pieces f_songLong f_guesses f_todo f_bytes f_typed f_isThere f_pieceLongs f_pieceLetters) → va_S A s.heap H locs → ∀ ls : Array Slot, lv_has ls 2 [(0, .ref a_this), (1, .int x1)] → W p l e RM_Mo_readsPiece s m args below meth c H locs 0 0 (MQ below (QM D (some (.int r)) (w_Mo_readsPiece ct a_this a_forms a_sizes a_items a_moved a_bytes a_typed a_chances a_longs a_letters a_isThere a_pieceLongs a_pieceLetters a_song a_settings a_guess a_row a_least a_nights f_latest r_at f_names r_pieces f_songLong f_guesses f_todo f_bytes f_typed r_isThere r_pieceLongs r_pieceLetters) A) args s 0 0 A) (F0 m 67 ls [])) : ∀ (x1 : Int32) (f_at : Int32) (f_pieces : Int32) (f_isThere : Nat → Int32) (f_pieceLongs : Nat → Int32) (f_pieceLetters : Nat → Int32), Mo_readsPiece_b67 F f_bytes f_typed rec67 x1 f_at f_pieces f_isThere f_pieceLongs f_pieceLetters = some (r, r_at, r_pieces, r_isThere, r_pieceLongs, r_pieceLetters) → ∀ (H : Heap) (locs : List Loc), va_P D vwCl (w_Mo_readsPiece ct a_this a_forms a_sizes a_items a_moved a_bytes a_typed a_chances a_longs a_letters a_isThere a_pieceLongs a_pieceLetters a_song a_settings a_guess a_row a_least a_nights f_latest f_at f_names f_pieces f_songLong f_guesses f_todo f_bytes f_typed f_isThere f_pieceLongs f_pieceLetters) H → va_D A (w_Mo_readsPiece ct a_this a_forms a_sizes a_items a_moved a_bytes a_typed a_chances a_longs a_letters a_isThere a_pieceLongs a_pieceLetters a_song a_settings a_guess a_row a_least a_nights f_latest f_at f_names f_pieces f_songLong f_guesses f_todo f_bytes f_typed f_isThere f_pieceLongs f_pieceLetters) → va_S A s.heap H locs → ∀ ls : Array Slot, lv_has ls 2 [(0, .ref a_this), (1, .int x1)] → W p l e RM_Mo_readsPiece s m args below meth c H locs 0 0 (MQ below (QM D (some (.int r)) (w_Mo_readsPiece ct a_this a_forms a_sizes a_items a_moved a_bytes a_typed a_chances a_longs a_letters a_isThere a_pieceLongs a_pieceLetters a_song a_settings a_guess a_row a_least a_nights f_latest r_at f_names r_pieces f_songLong f_guesses f_todo f_bytes f_typed r_isThere r_pieceLongs r_pieceLetters) A) args s 0 0 A) (F0 m 67 ls []) := by
  obtain ⟨hx, hb, hr, hml, hown, hts, hlk, hK, hN⟩ := id C
  intro x1 f_at f_pieces f_isThere f_pieceLongs f_pieceLetters hf H locs hP hD hS ls hl
  unfold Mo_readsPiece_b67 at hf
  refine lv_aload_n hx hb dX11_readsPiece_67 rfl (lv_at hl 0 rfl) ?_
  refine lv_iconst (v := 1) hx hb dX11_readsPiece_68 (by decide) ?_
  obtain ⟨v69, hc69, hf⟩ := cb1_some hf
  refine kcRV (q0 := 0) (ci := 11) (As := [.int 1]) (rest := []) (st1 := [.int v69]) C (c_Mo_letter l D ct a_this a_forms a_sizes a_items a_moved a_bytes a_typed a_chances a_longs a_letters a_isThere a_pieceLongs a_pieceLetters a_song a_settings a_guess a_row a_least a_nights f_latest f_names f_pieces f_songLong f_guesses f_todo f_at f_bytes f_typed 1 v69 hc69) ⟨rfl, rfl⟩ yn_yX11_letter tw_1100 tw_31 tw_1098 ⟨Nat.le_of_ble_eq_true rfl, Nat.le_of_ble_eq_true rfl⟩ ⟨Nat.zero_le _, Nat.zero_le _⟩ hP [0, 1, 2] rfl rfl rfl rfl hl.1 rfl rfl (Nat.le_of_ble_eq_true rfl) dX11_readsPiece_69 rfl ?_
  refine lv_iconst (v := (-1)) hx hb dX11_readsPiece_72 (by decide) ?_
  refine lv_icmp_eq (tgt := 115) hx hb dX11_readsPiece_73 (by decide) (fun hc => ?_) (fun hc => ?_)
  · have hf := kpos hc hf
    exact t_Mo_readsPiece_b115 C hA a_this a_forms a_sizes a_items a_moved a_bytes a_typed a_chances a_longs a_letters a_isThere a_pieceLongs a_pieceLetters a_song a_settings a_guess a_row a_least a_nights f_latest f_names f_songLong f_guesses f_todo F f_bytes f_typed r r_at r_pieces r_isThere r_pieceLongs r_pieceLetters x1 f_at f_pieces f_isThere f_pieceLongs f_pieceLetters hf _ _ hP hD hS _ (lv_sub hl [0, 1] rfl)
  · have hf := kneg hc hf
    refine lv_iload_n hx hb dX11_readsPiece_76 rfl (lv_at hl 1 rfl) ?_
    refine lv_iconst (v := 3) hx hb dX11_readsPiece_77 (by decide) ?_
    refine lv_icmp_ge (tgt := 115) hx hb dX11_readsPiece_78 (by decide) (fun hc => ?_) (fun hc => ?_)
    · have hf := kpos hc hf
      exact t_Mo_readsPiece_b115 C hA a_this a_forms a_sizes a_items a_moved a_bytes a_typed a_chances a_longs a_letters a_isThere a_pieceLongs a_pieceLetters a_song a_settings a_guess a_row a_least a_nights f_latest f_names f_songLong f_guesses f_todo F f_bytes f_typed r r_at r_pieces r_isThere r_pieceLongs r_pieceLetters x1 f_at f_pieces f_isThere f_pieceLongs f_pieceLetters hf _ _ hP hD hS _ (lv_sub hl [0, 1] rfl)
    · have hf := kneg hc hf
      refine lv_aload_n hx hb dX11_readsPiece_81 rfl (lv_at hl 0 rfl) ?_
      refine va_get (ci := 11) (v := .ref a_pieceLetters) (C := RX11) (T := TX11) (N := 25) hx hb hts inX11 hown hK hP 0 rfl rfl 15 (by decide) (hts _ tw_960) (fun _ h9 => h9) rfl dX11_readsPiece_82 ?_
      refine lv_iconst (v := 3) hx hb dX11_readsPiece_85 (by decide) ?_
      refine lv_aload_n hx hb dX11_readsPiece_86 rfl (lv_at hl 0 rfl) ?_
      refine va_get (ci := 11) (v := .int f_pieces) (C := RX11) (T := TX11) (N := 25) hx hb hts inX11 hown hK hP 0 rfl rfl 12 (by decide) (hts _ tw_957) (fun _ h9 => h9) rfl dX11_readsPiece_87 ?_
      refine lv_imul hx hb dX11_readsPiece_90 ?_
      refine lv_iload_n hx hb dX11_readsPiece_91 rfl (lv_at hl 1 rfl) ?_
      refine lv_iadd hx hb dX11_readsPiece_92 ?_
      refine lv_aload_n hx hb dX11_readsPiece_93 rfl (lv_at hl 0 rfl) ?_
      refine lv_iconst (v := 1) hx hb dX11_readsPiece_94 (by decide) ?_
      obtain ⟨v95, hc95, hf⟩ := cb1_some hf
      refine kcRV (q0 := 0) (ci := 11) (As := [.int 1]) (rest := [.int ((3 * f_pieces) + x1), .ref a_pieceLetters]) (st1 := [.int v95, .int ((3 * f_pieces) + x1), .ref a_pieceLetters]) C (c_Mo_letter l D ct a_this a_forms a_sizes a_items a_moved a_bytes a_typed a_chances a_longs a_letters a_isThere a_pieceLongs a_pieceLetters a_song a_settings a_guess a_row a_least a_nights f_latest f_names f_pieces f_songLong f_guesses f_todo f_at f_bytes f_typed 1 v95 hc95) ⟨rfl, rfl⟩ yn_yX11_letter tw_1100 tw_31 tw_1098 ⟨Nat.le_of_ble_eq_true rfl, Nat.le_of_ble_eq_true rfl⟩ ⟨Nat.zero_le _, Nat.zero_le _⟩ hP [0, 1, 2] rfl rfl rfl rfl hl.1 rfl rfl (Nat.le_of_ble_eq_true rfl) dX11_readsPiece_95 rfl ?_
      obtain ⟨hin, f_pieceLetters_98, ev98, hf⟩ := wr_ex hf
      refine kiast hx hb hK hP hD hS 5 0 rfl rfl hin ev98 dX11_readsPiece_98 (fun H locs hP hD hS => ?_)
      have hP : va_P D vwCl (w_Mo_readsPiece ct a_this a_forms a_sizes a_items a_moved a_bytes a_typed a_chances a_longs a_letters a_isThere a_pieceLongs a_pieceLetters a_song a_settings a_guess a_row a_least a_nights f_latest f_at f_names f_pieces f_songLong f_guesses f_todo f_bytes f_typed f_isThere f_pieceLongs f_pieceLetters_98) H := hP
      have hD : va_D A (w_Mo_readsPiece ct a_this a_forms a_sizes a_items a_moved a_bytes a_typed a_chances a_longs a_letters a_isThere a_pieceLongs a_pieceLetters a_song a_settings a_guess a_row a_least a_nights f_latest f_at f_names f_pieces f_songLong f_guesses f_todo f_bytes f_typed f_isThere f_pieceLongs f_pieceLetters_98) := hD
      refine lv_iinc (v := x1 + 1) (lv' := [(1, .int (x1 + 1)), (0, .ref a_this)]) hx hb dX11_readsPiece_99 hl (k := 1) rfl rfl (by decide) rfl (fun ls hl => ?_)
      refine lv_aload_n hx hb dX11_readsPiece_102 rfl (lv_at hl 1 rfl) ?_
      refine lv_dup hx hb dX11_readsPiece_103 rfl ?_
      refine va_get (ci := 11) (v := .int f_at) (C := RX11) (T := TX11) (N := 25) hx hb hts inX11 hown hK hP 0 rfl rfl 7 (by decide) (hts _ tw_952) (fun _ h9 => h9) rfl dX11_readsPiece_104 ?_
      refine lv_iconst (v := 1) hx hb dX11_readsPiece_107 (by decide) ?_
      refine lv_iadd hx hb dX11_readsPiece_108 ?_
      refine va_put (ci := 11) (v := .int (f_at + 1)) (ty := .int) (C := RX11) (T := TX11) (N := 25) hx hb hts inX11 tyX11 tyX11_ok nmX11 hown hK hP hD hS 0 rfl rfl 7 (by decide) (hts _ tw_952) (fun _ h9 => h9) rfl (tyX11_ok 7 (by decide)) rfl rfl (Nat.le_of_ble_eq_true rfl) dX11_readsPiece_109 (fun H locs hP hD hS => ?_)
      have hP : va_P D vwCl (w_Mo_readsPiece ct a_this a_forms a_sizes a_items a_moved a_bytes a_typed a_chances a_longs a_letters a_isThere a_pieceLongs a_pieceLetters a_song a_settings a_guess a_row a_least a_nights f_latest (f_at + 1) f_names f_pieces f_songLong f_guesses f_todo f_bytes f_typed f_isThere f_pieceLongs f_pieceLetters_98) H := hP
      have hD : va_D A (w_Mo_readsPiece ct a_this a_forms a_sizes a_items a_moved a_bytes a_typed a_chances a_longs a_letters a_isThere a_pieceLongs a_pieceLetters a_song a_settings a_guess a_row a_least a_nights f_latest (f_at + 1) f_names f_pieces f_songLong f_guesses f_todo f_bytes f_typed f_isThere f_pieceLongs f_pieceLetters_98) := hD
      refine lv_goto (tgt := 67) hx hb dX11_readsPiece_112 (by decide) ?_
      exact hr67 (x1 + 1) (f_at + 1) f_pieces f_isThere f_pieceLongs f_pieceLetters_98 hf _ _ hP hD hS _ (lv_sub hl [1, 0] rfl)
set_option maxHeartbeats 4000000 in
set_option maxRecDepth 100000 in
theorem t_Mo_readsPiece_l67 {p : Program} {l : Launch} {e : Env} {s : State} {m : MethodId} {args : Array Value} {below : List Frame} {meth : Method} {c : Code} {D : va_G} {ct : Nat → ClassId} (C : CX p s m args meth c RX11 cX11_readsPiece 2 (some .boolean) D ct) {A : Nat → Prop} (hA : ∀ q : Nat, s.heap.size ≤ q → A q) (a_this a_forms a_sizes a_items a_moved a_bytes a_typed a_chances a_longs a_letters a_isThere a_pieceLongs a_pieceLetters a_song a_settings a_guess a_row a_least a_nights : Nat) (f_latest : Int32) (f_names : Int32) (f_songLong : Int32) (f_guesses : Int32) (f_todo : Int32) (F : Nat) (f_bytes : Nat → Int32) (f_typed : Nat → Int32) (r : Int32) (r_at : Int32) (r_pieces : Int32) (r_isThere : Nat → Int32) (r_pieceLongs : Nat → Int32) (r_pieceLetters : Nat → Int32) : ∀ (n : Nat) (x1 : Int32) (f_at : Int32) (f_pieces : Int32) (f_isThere : Nat → Int32) (f_pieceLongs : Nat → Int32) (f_pieceLetters : Nat → Int32), Mo_readsPiece_l67 F f_bytes f_typed n x1 f_at f_pieces f_isThere f_pieceLongs f_pieceLetters = some (r, r_at, r_pieces, r_isThere, r_pieceLongs, r_pieceLetters) → ∀ (H : Heap) (locs : List Loc), va_P D vwCl (w_Mo_readsPiece ct a_this a_forms a_sizes a_items a_moved a_bytes a_typed a_chances a_longs a_letters a_isThere a_pieceLongs a_pieceLetters a_song a_settings a_guess a_row a_least a_nights f_latest f_at f_names f_pieces f_songLong f_guesses f_todo f_bytes f_typed f_isThere f_pieceLongs f_pieceLetters) H → va_D A (w_Mo_readsPiece ct a_this a_forms a_sizes a_items a_moved a_bytes a_typed a_chances a_longs a_letters a_isThere a_pieceLongs a_pieceLetters a_song a_settings a_guess a_row a_least a_nights f_latest f_at f_names f_pieces f_songLong f_guesses f_todo f_bytes f_typed f_isThere f_pieceLongs f_pieceLetters) → va_S A s.heap H locs → ∀ ls : Array Slot, lv_has ls 2 [(0, .ref a_this), (1, .int x1)] → W p l e RM_Mo_readsPiece s m args below meth c H locs 0 0 (MQ below (QM D (some (.int r)) (w_Mo_readsPiece ct a_this a_forms a_sizes a_items a_moved a_bytes a_typed a_chances a_longs a_letters a_isThere a_pieceLongs a_pieceLetters a_song a_settings a_guess a_row a_least a_nights f_latest r_at f_names r_pieces f_songLong f_guesses f_todo f_bytes f_typed r_isThere r_pieceLongs r_pieceLetters) A) args s 0 0 A) (F0 m 67 ls []) := by
  intro n
  induction n with
  | zero =>
    intro x1 f_at f_pieces f_isThere f_pieceLongs f_pieceLetters hf
    exact absurd hf (by simp [Mo_readsPiece_l67])
  | succ n ih =>
    intro x1 f_at f_pieces f_isThere f_pieceLongs f_pieceLetters hf
    exact t_Mo_readsPiece_b67 C hA a_this a_forms a_sizes a_items a_moved a_bytes a_typed a_chances a_longs a_letters a_isThere a_pieceLongs a_pieceLetters a_song a_settings a_guess a_row a_least a_nights f_latest f_names f_songLong f_guesses f_todo F f_bytes f_typed r r_at r_pieces r_isThere r_pieceLongs r_pieceLetters (Mo_readsPiece_l67 F f_bytes f_typed n) ih x1 f_at f_pieces f_isThere f_pieceLongs f_pieceLetters hf
set_option maxHeartbeats 4000000 in
set_option maxRecDepth 100000 in
theorem t_Mo_readsPiece_b54 {p : Program} {l : Launch} {e : Env} {s : State} {m : MethodId} {args : Array Value} {below : List Frame} {meth : Method} {c : Code} {D : va_G} {ct : Nat → ClassId} (C : CX p s m args meth c RX11 cX11_readsPiece 2 (some .boolean) D ct) {A : Nat → Prop} (hA : ∀ q : Nat, s.heap.size ≤ q → A q) (a_this a_forms a_sizes a_items a_moved a_bytes a_typed a_chances a_longs a_letters a_isThere a_pieceLongs a_pieceLetters a_song a_settings a_guess a_row a_least a_nights : Nat) (f_latest : Int32) (f_names : Int32) (f_songLong : Int32) (f_guesses : Int32) (f_todo : Int32) (F : Nat) (f_bytes : Nat → Int32) (f_typed : Nat → Int32) (r : Int32) (r_at : Int32) (r_pieces : Int32) (r_isThere : Nat → Int32) (r_pieceLongs : Nat → Int32) (r_pieceLetters : Nat → Int32) : ∀ (k1 : Int32) (k2 : Int32) (f_at : Int32) (f_pieces : Int32) (f_isThere : Nat → Int32) (f_pieceLongs : Nat → Int32) (f_pieceLetters : Nat → Int32), Mo_readsPiece_b54 F f_bytes f_typed k1 k2 f_at f_pieces f_isThere f_pieceLongs f_pieceLetters = some (r, r_at, r_pieces, r_isThere, r_pieceLongs, r_pieceLetters) → ∀ (H : Heap) (locs : List Loc), va_P D vwCl (w_Mo_readsPiece ct a_this a_forms a_sizes a_items a_moved a_bytes a_typed a_chances a_longs a_letters a_isThere a_pieceLongs a_pieceLetters a_song a_settings a_guess a_row a_least a_nights f_latest f_at f_names f_pieces f_songLong f_guesses f_todo f_bytes f_typed f_isThere f_pieceLongs f_pieceLetters) H → va_D A (w_Mo_readsPiece ct a_this a_forms a_sizes a_items a_moved a_bytes a_typed a_chances a_longs a_letters a_isThere a_pieceLongs a_pieceLetters a_song a_settings a_guess a_row a_least a_nights f_latest f_at f_names f_pieces f_songLong f_guesses f_todo f_bytes f_typed f_isThere f_pieceLongs f_pieceLetters) → va_S A s.heap H locs → ∀ ls : Array Slot, lv_has ls 2 [(0, .ref a_this)] → W p l e RM_Mo_readsPiece s m args below meth c H locs 0 0 (MQ below (QM D (some (.int r)) (w_Mo_readsPiece ct a_this a_forms a_sizes a_items a_moved a_bytes a_typed a_chances a_longs a_letters a_isThere a_pieceLongs a_pieceLetters a_song a_settings a_guess a_row a_least a_nights f_latest r_at f_names r_pieces f_songLong f_guesses f_todo f_bytes f_typed r_isThere r_pieceLongs r_pieceLetters) A) args s 0 0 A) (F0 m 54 ls [.int k2, .int k1, .ref a_isThere]) := by
  obtain ⟨hx, hb, hr, hml, hown, hts, hlk, hK, hN⟩ := id C
  intro k1 k2 f_at f_pieces f_isThere f_pieceLongs f_pieceLetters hf H locs hP hD hS ls hl
  unfold Mo_readsPiece_b54 at hf
  obtain ⟨hin, f_isThere_54, ev54, hf⟩ := wrZ_ex hf
  refine kzast hx hb hK hP hD hS 3 1 rfl rfl hin ev54 dX11_readsPiece_54 (fun H locs hP hD hS => ?_)
  have hP : va_P D vwCl (w_Mo_readsPiece ct a_this a_forms a_sizes a_items a_moved a_bytes a_typed a_chances a_longs a_letters a_isThere a_pieceLongs a_pieceLetters a_song a_settings a_guess a_row a_least a_nights f_latest f_at f_names f_pieces f_songLong f_guesses f_todo f_bytes f_typed f_isThere_54 f_pieceLongs f_pieceLetters) H := hP
  have hD : va_D A (w_Mo_readsPiece ct a_this a_forms a_sizes a_items a_moved a_bytes a_typed a_chances a_longs a_letters a_isThere a_pieceLongs a_pieceLetters a_song a_settings a_guess a_row a_least a_nights f_latest f_at f_names f_pieces f_songLong f_guesses f_todo f_bytes f_typed f_isThere_54 f_pieceLongs f_pieceLetters) := hD
  refine lv_aload_n hx hb dX11_readsPiece_55 rfl (lv_at hl 0 rfl) ?_
  refine lv_dup hx hb dX11_readsPiece_56 rfl ?_
  refine va_get (ci := 11) (v := .int f_at) (C := RX11) (T := TX11) (N := 25) hx hb hts inX11 hown hK hP 0 rfl rfl 7 (by decide) (hts _ tw_952) (fun _ h9 => h9) rfl dX11_readsPiece_57 ?_
  refine lv_iconst (v := 1) hx hb dX11_readsPiece_60 (by decide) ?_
  refine lv_iadd hx hb dX11_readsPiece_61 ?_
  refine va_put (ci := 11) (v := .int (f_at + 1)) (ty := .int) (C := RX11) (T := TX11) (N := 25) hx hb hts inX11 tyX11 tyX11_ok nmX11 hown hK hP hD hS 0 rfl rfl 7 (by decide) (hts _ tw_952) (fun _ h9 => h9) rfl (tyX11_ok 7 (by decide)) rfl rfl (Nat.le_of_ble_eq_true rfl) dX11_readsPiece_62 (fun H locs hP hD hS => ?_)
  have hP : va_P D vwCl (w_Mo_readsPiece ct a_this a_forms a_sizes a_items a_moved a_bytes a_typed a_chances a_longs a_letters a_isThere a_pieceLongs a_pieceLetters a_song a_settings a_guess a_row a_least a_nights f_latest (f_at + 1) f_names f_pieces f_songLong f_guesses f_todo f_bytes f_typed f_isThere_54 f_pieceLongs f_pieceLetters) H := hP
  have hD : va_D A (w_Mo_readsPiece ct a_this a_forms a_sizes a_items a_moved a_bytes a_typed a_chances a_longs a_letters a_isThere a_pieceLongs a_pieceLetters a_song a_settings a_guess a_row a_least a_nights f_latest (f_at + 1) f_names f_pieces f_songLong f_guesses f_todo f_bytes f_typed f_isThere_54 f_pieceLongs f_pieceLetters) := hD
  refine lv_iconst (v := 0) hx hb dX11_readsPiece_65 (by decide) ?_
  refine lv_istore_n (lv' := [(1, .int 0), (0, .ref a_this)]) hx hb dX11_readsPiece_66 rfl hl (by decide) rfl (fun ls hl => ?_)
  exact t_Mo_readsPiece_l67 C hA a_this a_forms a_sizes a_items a_moved a_bytes a_typed a_chances a_longs a_letters a_isThere a_pieceLongs a_pieceLetters a_song a_settings a_guess a_row a_least a_nights f_latest f_names f_songLong f_guesses f_todo F f_bytes f_typed r r_at r_pieces r_isThere r_pieceLongs r_pieceLetters F 0 (f_at + 1) f_pieces f_isThere_54 f_pieceLongs f_pieceLetters hf _ _ hP hD hS _ (lv_sub hl [1, 0] rfl)
set_option maxHeartbeats 4000000 in
set_option maxRecDepth 100000 in
theorem t_Mo_readsPiece_b31 {p : Program} {l : Launch} {e : Env} {s : State} {m : MethodId} {args : Array Value} {below : List Frame} {meth : Method} {c : Code} {D : va_G} {ct : Nat → ClassId} (C : CX p s m args meth c RX11 cX11_readsPiece 2 (some .boolean) D ct) {A : Nat → Prop} (hA : ∀ q : Nat, s.heap.size ≤ q → A q) (a_this a_forms a_sizes a_items a_moved a_bytes a_typed a_chances a_longs a_letters a_isThere a_pieceLongs a_pieceLetters a_song a_settings a_guess a_row a_least a_nights : Nat) (f_latest : Int32) (f_names : Int32) (f_songLong : Int32) (f_guesses : Int32) (f_todo : Int32) (F : Nat) (f_bytes : Nat → Int32) (f_typed : Nat → Int32) (r : Int32) (r_at : Int32) (r_pieces : Int32) (r_isThere : Nat → Int32) (r_pieceLongs : Nat → Int32) (r_pieceLetters : Nat → Int32) : ∀ (f_at : Int32) (f_pieces : Int32) (f_isThere : Nat → Int32) (f_pieceLongs : Nat → Int32) (f_pieceLetters : Nat → Int32), Mo_readsPiece_b31 F f_bytes f_typed f_at f_pieces f_isThere f_pieceLongs f_pieceLetters = some (r, r_at, r_pieces, r_isThere, r_pieceLongs, r_pieceLetters) → ∀ (H : Heap) (locs : List Loc), va_P D vwCl (w_Mo_readsPiece ct a_this a_forms a_sizes a_items a_moved a_bytes a_typed a_chances a_longs a_letters a_isThere a_pieceLongs a_pieceLetters a_song a_settings a_guess a_row a_least a_nights f_latest f_at f_names f_pieces f_songLong f_guesses f_todo f_bytes f_typed f_isThere f_pieceLongs f_pieceLetters) H → va_D A (w_Mo_readsPiece ct a_this a_forms a_sizes a_items a_moved a_bytes a_typed a_chances a_longs a_letters a_isThere a_pieceLongs a_pieceLetters a_song a_settings a_guess a_row a_least a_nights f_latest f_at f_names f_pieces f_songLong f_guesses f_todo f_bytes f_typed f_isThere f_pieceLongs f_pieceLetters) → va_S A s.heap H locs → ∀ ls : Array Slot, lv_has ls 2 [(0, .ref a_this)] → W p l e RM_Mo_readsPiece s m args below meth c H locs 0 0 (MQ below (QM D (some (.int r)) (w_Mo_readsPiece ct a_this a_forms a_sizes a_items a_moved a_bytes a_typed a_chances a_longs a_letters a_isThere a_pieceLongs a_pieceLetters a_song a_settings a_guess a_row a_least a_nights f_latest r_at f_names r_pieces f_songLong f_guesses f_todo f_bytes f_typed r_isThere r_pieceLongs r_pieceLetters) A) args s 0 0 A) (F0 m 31 ls []) := by
  obtain ⟨hx, hb, hr, hml, hown, hts, hlk, hK, hN⟩ := id C
  intro f_at f_pieces f_isThere f_pieceLongs f_pieceLetters hf H locs hP hD hS ls hl
  unfold Mo_readsPiece_b31 at hf
  refine lv_aload_n hx hb dX11_readsPiece_31 rfl (lv_at hl 0 rfl) ?_
  refine va_get (ci := 11) (v := .ref a_isThere) (C := RX11) (T := TX11) (N := 25) hx hb hts inX11 hown hK hP 0 rfl rfl 13 (by decide) (hts _ tw_958) (fun _ h9 => h9) rfl dX11_readsPiece_32 ?_
  refine lv_aload_n hx hb dX11_readsPiece_35 rfl (lv_at hl 0 rfl) ?_
  refine va_get (ci := 11) (v := .int f_pieces) (C := RX11) (T := TX11) (N := 25) hx hb hts inX11 hown hK hP 0 rfl rfl 12 (by decide) (hts _ tw_957) (fun _ h9 => h9) rfl dX11_readsPiece_36 ?_
  refine lv_aload_n hx hb dX11_readsPiece_39 rfl (lv_at hl 0 rfl) ?_
  refine lv_iconst (v := 1) hx hb dX11_readsPiece_40 (by decide) ?_
  obtain ⟨v41, hc41, hf⟩ := cb1_some hf
  refine kcRV (q0 := 0) (ci := 11) (As := [.int 1]) (rest := [.int f_pieces, .ref a_isThere]) (st1 := [.int v41, .int f_pieces, .ref a_isThere]) C (c_Mo_here l D ct a_this a_forms a_sizes a_items a_moved a_bytes a_typed a_chances a_longs a_letters a_isThere a_pieceLongs a_pieceLetters a_song a_settings a_guess a_row a_least a_nights f_latest f_names f_pieces f_songLong f_guesses f_todo f_at f_bytes f_typed 1 v41 hc41) ⟨rfl, rfl⟩ yn_yX11_here tw_1095 tw_30 tw_1093 ⟨Nat.le_of_ble_eq_true rfl, Nat.le_of_ble_eq_true rfl⟩ ⟨Nat.zero_le _, Nat.zero_le _⟩ hP [0, 1, 2] rfl rfl rfl rfl hl.1 rfl rfl (Nat.le_of_ble_eq_true rfl) dX11_readsPiece_41 rfl ?_
  refine lv_bipush (v := 43) hx hb dX11_readsPiece_44 (by decide) ?_
  refine lv_icmp_ne (tgt := 53) hx hb dX11_readsPiece_46 (by decide) (fun hc => ?_) (fun hc => ?_)
  · have hf := kneg hc hf
    refine lv_iconst (v := 0) hx hb dX11_readsPiece_53 (by decide) ?_
    exact t_Mo_readsPiece_b54 C hA a_this a_forms a_sizes a_items a_moved a_bytes a_typed a_chances a_longs a_letters a_isThere a_pieceLongs a_pieceLetters a_song a_settings a_guess a_row a_least a_nights f_latest f_names f_songLong f_guesses f_todo F f_bytes f_typed r r_at r_pieces r_isThere r_pieceLongs r_pieceLetters f_pieces 0 f_at f_pieces f_isThere f_pieceLongs f_pieceLetters hf _ _ hP hD hS _ (lv_sub hl [0] rfl)
  · have hf := kpos hc hf
    refine lv_iconst (v := 1) hx hb dX11_readsPiece_49 (by decide) ?_
    refine lv_goto (tgt := 54) hx hb dX11_readsPiece_50 (by decide) ?_
    exact t_Mo_readsPiece_b54 C hA a_this a_forms a_sizes a_items a_moved a_bytes a_typed a_chances a_longs a_letters a_isThere a_pieceLongs a_pieceLetters a_song a_settings a_guess a_row a_least a_nights f_latest f_names f_songLong f_guesses f_todo F f_bytes f_typed r r_at r_pieces r_isThere r_pieceLongs r_pieceLetters f_pieces 1 f_at f_pieces f_isThere f_pieceLongs f_pieceLetters hf _ _ hP hD hS _ (lv_sub hl [0] rfl)
set_option maxHeartbeats 4000000 in
set_option maxRecDepth 100000 in
theorem c_Mo_readsPiece (l : Launch) (D : va_G) (ct : Nat → ClassId) (a_this a_forms a_sizes a_items a_moved a_bytes a_typed a_chances a_longs a_letters a_isThere a_pieceLongs a_pieceLetters a_song a_settings a_guess a_row a_least a_nights : Nat) (f_latest : Int32) (f_names : Int32) (f_songLong : Int32) (f_guesses : Int32) (f_todo : Int32) (F : Nat) (f_bytes : Nat → Int32) (f_typed : Nat → Int32) (f_at : Int32) (f_pieces : Int32) (f_isThere : Nat → Int32) (f_pieceLongs : Nat → Int32) (f_pieceLetters : Nat → Int32) (r : Int32) (r_at : Int32) (r_pieces : Int32) (r_isThere : Nat → Int32) (r_pieceLongs : Nat → Int32) (r_pieceLetters : Nat → Int32) (sz : Nat) (hf : Mo_readsPiece F f_bytes f_typed f_at f_pieces f_isThere f_pieceLongs f_pieceLetters = some (r, r_at, r_pieces, r_isThere, r_pieceLongs, r_pieceLetters)) : Met l yX11_readsPiece (WS yX11_readsPiece cX11_readsPiece 2 (some .boolean)) RM_Mo_readsPiece (va_Pc [.ref a_this] (PM D ct sz (w_Mo_readsPiece ct a_this a_forms a_sizes a_items a_moved a_bytes a_typed a_chances a_longs a_letters a_isThere a_pieceLongs a_pieceLetters a_song a_settings a_guess a_row a_least a_nights f_latest f_at f_names f_pieces f_songLong f_guesses f_todo f_bytes f_typed f_isThere f_pieceLongs f_pieceLetters))) (QM D (some (.int r)) (w_Mo_readsPiece ct a_this a_forms a_sizes a_items a_moved a_bytes a_typed a_chances a_longs a_letters a_isThere a_pieceLongs a_pieceLetters a_song a_settings a_guess a_row a_least a_nights f_latest r_at f_names r_pieces f_songLong f_guesses f_todo f_bytes f_typed r_isThere r_pieceLongs r_pieceLetters) (va_A (w_Mo_readsPiece ct a_this a_forms a_sizes a_items a_moved a_bytes a_typed a_chances a_longs a_letters a_isThere a_pieceLongs a_pieceLetters a_song a_settings a_guess a_row a_least a_nights f_latest f_at f_names f_pieces f_songLong f_guesses f_todo f_bytes f_typed f_isThere f_pieceLongs f_pieceLetters) sz)) 0 0 (va_A (w_Mo_readsPiece ct a_this a_forms a_sizes a_items a_moved a_bytes a_typed a_chances a_longs a_letters a_isThere a_pieceLongs a_pieceLetters a_song a_settings a_guess a_row a_least a_nights f_latest f_at f_names f_pieces f_songLong f_guesses f_todo f_bytes f_typed f_isThere f_pieceLongs f_pieceLetters) sz) := by
  refine kMetM yn_yX11_readsPiece rfl (Nat.le_of_ble_eq_true rfl) ?_
  intro p e s m args below meth c A C hA hP hD ls hl
  have hl : lv_has ls 2 [(0, .ref a_this)] := hl
  have hS : va_S A s.heap s.heap [] := va_S.rf
  obtain ⟨hx, hb, hr, hml, hown, hts, hlk, hK, hN⟩ := id C
  unfold Mo_readsPiece at hf
  refine lv_aload_n hx hb dX11_readsPiece_0 rfl (lv_at hl 0 rfl) ?_
  refine va_get (ci := 11) (v := .int f_pieces) (C := RX11) (T := TX11) (N := 25) hx hb hts inX11 hown hK hP 0 rfl rfl 12 (by decide) (hts _ tw_957) (fun _ h9 => h9) rfl dX11_readsPiece_1 ?_
  refine lv_bipush (v := 6) hx hb dX11_readsPiece_4 (by decide) ?_
  refine lv_icmp_eq (tgt := 29) hx hb dX11_readsPiece_6 (by decide) (fun hc => ?_) (fun hc => ?_)
  · have hf := kpos hc hf
    refine lv_iconst (v := 0) hx hb dX11_readsPiece_29 (by decide) ?_
    obtain ⟨e1, e2, e3, e4, e5, e6⟩ := ti6 hf
    subst e1; subst e2; subst e3; subst e4; subst e5; subst e6
    exact kretMz C (by decide) hP hD hS dX11_readsPiece_30
  · have hf := kneg hc hf
    refine lv_aload_n hx hb dX11_readsPiece_9 rfl (lv_at hl 0 rfl) ?_
    refine lv_iconst (v := 1) hx hb dX11_readsPiece_10 (by decide) ?_
    obtain ⟨v11, hc11, hf⟩ := cb1_some hf
    refine kcRV (q0 := 0) (ci := 11) (As := [.int 1]) (rest := []) (st1 := [.int v11]) C (c_Mo_here l D ct a_this a_forms a_sizes a_items a_moved a_bytes a_typed a_chances a_longs a_letters a_isThere a_pieceLongs a_pieceLetters a_song a_settings a_guess a_row a_least a_nights f_latest f_names f_pieces f_songLong f_guesses f_todo f_at f_bytes f_typed 1 v11 hc11) ⟨rfl, rfl⟩ yn_yX11_here tw_1095 tw_30 tw_1093 ⟨Nat.le_of_ble_eq_true rfl, Nat.le_of_ble_eq_true rfl⟩ ⟨Nat.zero_le _, Nat.zero_le _⟩ hP [0, 1, 2] rfl rfl rfl rfl hl.1 rfl rfl (Nat.le_of_ble_eq_true rfl) dX11_readsPiece_11 rfl ?_
    refine lv_bipush (v := 43) hx hb dX11_readsPiece_14 (by decide) ?_
    refine lv_icmp_eq (tgt := 31) hx hb dX11_readsPiece_16 (by decide) (fun hc => ?_) (fun hc => ?_)
    · have hf := kpos hc hf
      exact t_Mo_readsPiece_b31 C hA a_this a_forms a_sizes a_items a_moved a_bytes a_typed a_chances a_longs a_letters a_isThere a_pieceLongs a_pieceLetters a_song a_settings a_guess a_row a_least a_nights f_latest f_names f_songLong f_guesses f_todo F f_bytes f_typed r r_at r_pieces r_isThere r_pieceLongs r_pieceLetters f_at f_pieces f_isThere f_pieceLongs f_pieceLetters hf _ _ hP hD hS _ (lv_sub hl [0] rfl)
    · have hf := kneg hc hf
      refine lv_aload_n hx hb dX11_readsPiece_19 rfl (lv_at hl 0 rfl) ?_
      refine lv_iconst (v := 1) hx hb dX11_readsPiece_20 (by decide) ?_
      obtain ⟨v21, hc21, hf⟩ := cb1_some hf
      refine kcRV (q0 := 0) (ci := 11) (As := [.int 1]) (rest := []) (st1 := [.int v21]) C (c_Mo_here l D ct a_this a_forms a_sizes a_items a_moved a_bytes a_typed a_chances a_longs a_letters a_isThere a_pieceLongs a_pieceLetters a_song a_settings a_guess a_row a_least a_nights f_latest f_names f_pieces f_songLong f_guesses f_todo f_at f_bytes f_typed 1 v21 hc21) ⟨rfl, rfl⟩ yn_yX11_here tw_1095 tw_30 tw_1093 ⟨Nat.le_of_ble_eq_true rfl, Nat.le_of_ble_eq_true rfl⟩ ⟨Nat.zero_le _, Nat.zero_le _⟩ hP [0, 1, 2] rfl rfl rfl rfl hl.1 rfl rfl (Nat.le_of_ble_eq_true rfl) dX11_readsPiece_21 rfl ?_
      refine lv_bipush (v := 45) hx hb dX11_readsPiece_24 (by decide) ?_
      refine lv_icmp_eq (tgt := 31) hx hb dX11_readsPiece_26 (by decide) (fun hc => ?_) (fun hc => ?_)
      · have hf := kpos hc hf
        exact t_Mo_readsPiece_b31 C hA a_this a_forms a_sizes a_items a_moved a_bytes a_typed a_chances a_longs a_letters a_isThere a_pieceLongs a_pieceLetters a_song a_settings a_guess a_row a_least a_nights f_latest f_names f_songLong f_guesses f_todo F f_bytes f_typed r r_at r_pieces r_isThere r_pieceLongs r_pieceLetters f_at f_pieces f_isThere f_pieceLongs f_pieceLetters hf _ _ hP hD hS _ (lv_sub hl [0] rfl)
      · have hf := kneg hc hf
        refine lv_iconst (v := 0) hx hb dX11_readsPiece_29 (by decide) ?_
        obtain ⟨e1, e2, e3, e4, e5, e6⟩ := ti6 hf
        subst e1; subst e2; subst e3; subst e4; subst e5; subst e6
        exact kretMz C (by decide) hP hD hS dX11_readsPiece_30
def RM_Mo_readsPieces : Room := { frames := 3, cells := 0, slots := 0, locals := 68 }
set_option maxHeartbeats 4000000 in
set_option maxRecDepth 100000 in
theorem t_Mo_readsPieces_b99 {p : Program} {l : Launch} {e : Env} {s : State} {m : MethodId} {args : Array Value} {below : List Frame} {meth : Method} {c : Code} {D : va_G} {ct : Nat → ClassId} (C : CX p s m args meth c RX11 cX11_readsPieces 3 (some .int) D ct) {A : Nat → Prop} (hA : ∀ q : Nat, s.heap.size ≤ q → A q) (a_this a_forms a_sizes a_items a_moved a_bytes a_typed a_chances a_longs a_letters a_isThere a_pieceLongs a_pieceLetters a_song a_settings a_guess a_row a_least a_nights : Nat) (f_latest : Int32) (f_names : Int32) (f_songLong : Int32) (f_guesses : Int32) (f_todo : Int32) (F : Nat) (f_bytes : Nat → Int32) (f_typed : Nat → Int32) (r : Int32) (r_at : Int32) (r_pieces : Int32) (r_isThere : Nat → Int32) (r_pieceLongs : Nat → Int32) (r_pieceLetters : Nat → Int32) (rec25 : Int32 → Int32 → Int32 → (Nat → Int32) → (Nat → Int32) → (Nat → Int32) → Option (Int32 × Int32 × Int32 × (Nat → Int32) × (Nat → Int32) × (Nat → Int32))) (hr25 : ∀ (x1 : Int32) (f_at : Int32) (f_pieces : Int32) (f_isThere : Nat → Int32) (f_pieceLongs : Nat → Int32) (f_pieceLetters : Nat → Int32), rec25 x1 f_at f_pieces f_isThere f_pieceLongs f_pieceLetters = some (r, r_at, r_pieces, r_isThere, r_pieceLongs, r_pieceLetters) → ∀ (H : Heap) (locs : List Loc), va_P D vwCl (w_Mo_readsPieces ct a_this a_forms a_sizes a_items a_moved a_bytes a_typed a_chances a_longs a_letters a_isThere a_pieceLongs a_pieceLetters a_song a_settings a_guess a_row a_least a_nights f_latest f_at f_names f_pieces f_songLong f_guesses f_todo f_bytes f_typed f_isThere f_pieceLongs f_pieceLetters) H → va_D A (w_Mo_readsPieces ct a_this a_forms a_sizes a_items a_moved a_bytes a_typed a_chances a_longs a_letters a_isThere a_pieceLongs a_pieceLetters a_song a_settings a_guess a_row a_least a_nights f_latest f_at f_names f_pieces f_songLong f_guesses f_todo f_bytes f_typed f_isThere f_pieceLongs f_pieceLetters) → va_S A s.heap H locs → ∀ ls : Array Slot, lv_has ls 3 [(0, .ref a_this), (1, .int x1)] → W p l e RM_Mo_readsPieces s m args below meth c H locs 0 0 (MQ below (QM D (some (.int r)) (w_Mo_readsPieces ct a_this a_forms a_sizes a_items a_moved a_bytes a_typed a_chances a_longs a_letters a_isThere a_pieceLongs a_pieceLetters a_song a_settings a_guess a_row a_least a_nights f_latest r_at f_names r_pieces f_songLong f_guesses f_todo f_bytes f_typed r_isThere r_pieceLongs r_pieceLetters) A) args s 0 0 A) (F0 m 25 ls [])) : ∀ (x1 : Int32) (k1 : Int32) (k2 : Int32) (f_at : Int32) (f_pieces : Int32) (f_isThere : Nat → Int32) (f_pieceLongs : Nat → Int32) (f_pieceLetters : Nat → Int32), Mo_readsPieces_b99 F f_bytes f_typed rec25 x1 k1 k2 f_at f_pieces f_isThere f_pieceLongs f_pieceLetters = some (r, r_at, r_pieces, r_isThere, r_pieceLongs, r_pieceLetters) → ∀ (H : Heap) (locs : List Loc), va_P D vwCl (w_Mo_readsPieces ct a_this a_forms a_sizes a_items a_moved a_bytes a_typed a_chances a_longs a_letters a_isThere a_pieceLongs a_pieceLetters a_song a_settings a_guess a_row a_least a_nights f_latest f_at f_names f_pieces f_songLong f_guesses f_todo f_bytes f_typed f_isThere f_pieceLongs f_pieceLetters) H → va_D A (w_Mo_readsPieces ct a_this a_forms a_sizes a_items a_moved a_bytes a_typed a_chances a_longs a_letters a_isThere a_pieceLongs a_pieceLetters a_song a_settings a_guess a_row a_least a_nights f_latest f_at f_names f_pieces f_songLong f_guesses f_todo f_bytes f_typed f_isThere f_pieceLongs f_pieceLetters) → va_S A s.heap H locs → ∀ ls : Array Slot, lv_has ls 3 [(0, .ref a_this), (1, .int x1)] → W p l e RM_Mo_readsPieces s m args below meth c H locs 0 0 (MQ below (QM D (some (.int r)) (w_Mo_readsPieces ct a_this a_forms a_sizes a_items a_moved a_bytes a_typed a_chances a_longs a_letters a_isThere a_pieceLongs a_pieceLetters a_song a_settings a_guess a_row a_least a_nights f_latest r_at f_names r_pieces f_songLong f_guesses f_todo f_bytes f_typed r_isThere r_pieceLongs r_pieceLetters) A) args s 0 0 A) (F0 m 99 ls [.int k2, .int k1, .ref a_this]) := by
  obtain ⟨hx, hb, hr, hml, hown, hts, hlk, hK, hN⟩ := id C
  intro x1 k1 k2 f_at f_pieces f_isThere f_pieceLongs f_pieceLetters hf H locs hP hD hS ls hl
  unfold Mo_readsPieces_b99 at hf
  refine lv_iadd hx hb dX11_readsPieces_99 ?_
  refine va_put (ci := 11) (v := .int (k1 + k2)) (ty := .int) (C := RX11) (T := TX11) (N := 25) hx hb hts inX11 tyX11 tyX11_ok nmX11 hown hK hP hD hS 0 rfl rfl 7 (by decide) (hts _ tw_952) (fun _ h9 => h9) rfl (tyX11_ok 7 (by decide)) rfl rfl (Nat.le_of_ble_eq_true rfl) dX11_readsPieces_100 (fun H locs hP hD hS => ?_)
  have hP : va_P D vwCl (w_Mo_readsPieces ct a_this a_forms a_sizes a_items a_moved a_bytes a_typed a_chances a_longs a_letters a_isThere a_pieceLongs a_pieceLetters a_song a_settings a_guess a_row a_least a_nights f_latest (k1 + k2) f_names f_pieces f_songLong f_guesses f_todo f_bytes f_typed f_isThere f_pieceLongs f_pieceLetters) H := hP
  have hD : va_D A (w_Mo_readsPieces ct a_this a_forms a_sizes a_items a_moved a_bytes a_typed a_chances a_longs a_letters a_isThere a_pieceLongs a_pieceLetters a_song a_settings a_guess a_row a_least a_nights f_latest (k1 + k2) f_names f_pieces f_songLong f_guesses f_todo f_bytes f_typed f_isThere f_pieceLongs f_pieceLetters) := hD
  refine lv_goto (tgt := 25) hx hb dX11_readsPieces_103 (by decide) ?_
  exact hr25 x1 (k1 + k2) f_pieces f_isThere f_pieceLongs f_pieceLetters hf _ _ hP hD hS _ (lv_sub hl [0, 1] rfl)
set_option maxHeartbeats 4000000 in
set_option maxRecDepth 100000 in
theorem t_Mo_readsPieces_b85 {p : Program} {l : Launch} {e : Env} {s : State} {m : MethodId} {args : Array Value} {below : List Frame} {meth : Method} {c : Code} {D : va_G} {ct : Nat → ClassId} (C : CX p s m args meth c RX11 cX11_readsPieces 3 (some .int) D ct) {A : Nat → Prop} (hA : ∀ q : Nat, s.heap.size ≤ q → A q) (a_this a_forms a_sizes a_items a_moved a_bytes a_typed a_chances a_longs a_letters a_isThere a_pieceLongs a_pieceLetters a_song a_settings a_guess a_row a_least a_nights : Nat) (f_latest : Int32) (f_names : Int32) (f_songLong : Int32) (f_guesses : Int32) (f_todo : Int32) (F : Nat) (f_bytes : Nat → Int32) (f_typed : Nat → Int32) (r : Int32) (r_at : Int32) (r_pieces : Int32) (r_isThere : Nat → Int32) (r_pieceLongs : Nat → Int32) (r_pieceLetters : Nat → Int32) (rec25 : Int32 → Int32 → Int32 → (Nat → Int32) → (Nat → Int32) → (Nat → Int32) → Option (Int32 × Int32 × Int32 × (Nat → Int32) × (Nat → Int32) × (Nat → Int32))) (hr25 : ∀ (x1 : Int32) (f_at : Int32) (f_pieces : Int32) (f_isThere : Nat → Int32) (f_pieceLongs : Nat → Int32) (f_pieceLetters : Nat → Int32), rec25 x1 f_at f_pieces f_isThere f_pieceLongs f_pieceLetters = some (r, r_at, r_pieces, r_isThere, r_pieceLongs, r_pieceLetters) → ∀ (H : Heap) (locs : List Loc), va_P D vwCl (w_Mo_readsPieces ct a_this a_forms a_sizes a_items a_moved a_bytes a_typed a_chances a_longs a_letters a_isThere a_pieceLongs a_pieceLetters a_song a_settings a_guess a_row a_least a_nights f_latest f_at f_names f_pieces f_songLong f_guesses f_todo f_bytes f_typed f_isThere f_pieceLongs f_pieceLetters) H → va_D A (w_Mo_readsPieces ct a_this a_forms a_sizes a_items a_moved a_bytes a_typed a_chances a_longs a_letters a_isThere a_pieceLongs a_pieceLetters a_song a_settings a_guess a_row a_least a_nights f_latest f_at f_names f_pieces f_songLong f_guesses f_todo f_bytes f_typed f_isThere f_pieceLongs f_pieceLetters) → va_S A s.heap H locs → ∀ ls : Array Slot, lv_has ls 3 [(0, .ref a_this), (1, .int x1)] → W p l e RM_Mo_readsPieces s m args below meth c H locs 0 0 (MQ below (QM D (some (.int r)) (w_Mo_readsPieces ct a_this a_forms a_sizes a_items a_moved a_bytes a_typed a_chances a_longs a_letters a_isThere a_pieceLongs a_pieceLetters a_song a_settings a_guess a_row a_least a_nights f_latest r_at f_names r_pieces f_songLong f_guesses f_todo f_bytes f_typed r_isThere r_pieceLongs r_pieceLetters) A) args s 0 0 A) (F0 m 25 ls [])) : ∀ (x1 : Int32) (f_at : Int32) (f_pieces : Int32) (f_isThere : Nat → Int32) (f_pieceLongs : Nat → Int32) (f_pieceLetters : Nat → Int32), Mo_readsPieces_b85 F f_bytes f_typed rec25 x1 f_at f_pieces f_isThere f_pieceLongs f_pieceLetters = some (r, r_at, r_pieces, r_isThere, r_pieceLongs, r_pieceLetters) → ∀ (H : Heap) (locs : List Loc), va_P D vwCl (w_Mo_readsPieces ct a_this a_forms a_sizes a_items a_moved a_bytes a_typed a_chances a_longs a_letters a_isThere a_pieceLongs a_pieceLetters a_song a_settings a_guess a_row a_least a_nights f_latest f_at f_names f_pieces f_songLong f_guesses f_todo f_bytes f_typed f_isThere f_pieceLongs f_pieceLetters) H → va_D A (w_Mo_readsPieces ct a_this a_forms a_sizes a_items a_moved a_bytes a_typed a_chances a_longs a_letters a_isThere a_pieceLongs a_pieceLetters a_song a_settings a_guess a_row a_least a_nights f_latest f_at f_names f_pieces f_songLong f_guesses f_todo f_bytes f_typed f_isThere f_pieceLongs f_pieceLetters) → va_S A s.heap H locs → ∀ ls : Array Slot, lv_has ls 3 [(0, .ref a_this), (1, .int x1)] → W p l e RM_Mo_readsPieces s m args below meth c H locs 0 0 (MQ below (QM D (some (.int r)) (w_Mo_readsPieces ct a_this a_forms a_sizes a_items a_moved a_bytes a_typed a_chances a_longs a_letters a_isThere a_pieceLongs a_pieceLetters a_song a_settings a_guess a_row a_least a_nights f_latest r_at f_names r_pieces f_songLong f_guesses f_todo f_bytes f_typed r_isThere r_pieceLongs r_pieceLetters) A) args s 0 0 A) (F0 m 85 ls []) := by
  obtain ⟨hx, hb, hr, hml, hown, hts, hlk, hK, hN⟩ := id C
  intro x1 f_at f_pieces f_isThere f_pieceLongs f_pieceLetters hf H locs hP hD hS ls hl
  unfold Mo_readsPieces_b85 at hf
  refine lv_aload_n hx hb dX11_readsPieces_85 rfl (lv_at hl 0 rfl) ?_
  refine lv_dup hx hb dX11_readsPieces_86 rfl ?_
  refine va_get (ci := 11) (v := .int f_at) (C := RX11) (T := TX11) (N := 25) hx hb hts inX11 hown hK hP 0 rfl rfl 7 (by decide) (hts _ tw_952) (fun _ h9 => h9) rfl dX11_readsPieces_87 ?_
  refine lv_iload_n hx hb dX11_readsPieces_90 rfl (lv_at hl 1 rfl) ?_
  refine lv_if_eq (tgt := 98) hx hb dX11_readsPieces_91 (by decide) (fun hc => ?_) (fun hc => ?_)
  · have hf := kpos hc hf
    refine lv_iconst (v := 0) hx hb dX11_readsPieces_98 (by decide) ?_
    exact t_Mo_readsPieces_b99 C hA a_this a_forms a_sizes a_items a_moved a_bytes a_typed a_chances a_longs a_letters a_isThere a_pieceLongs a_pieceLetters a_song a_settings a_guess a_row a_least a_nights f_latest f_names f_songLong f_guesses f_todo F f_bytes f_typed r r_at r_pieces r_isThere r_pieceLongs r_pieceLetters rec25 hr25 x1 f_at 0 f_at f_pieces f_isThere f_pieceLongs f_pieceLetters hf _ _ hP hD hS _ (lv_sub hl [0, 1] rfl)
  · have hf := kneg hc hf
    refine lv_iconst (v := 1) hx hb dX11_readsPieces_94 (by decide) ?_
    refine lv_goto (tgt := 99) hx hb dX11_readsPieces_95 (by decide) ?_
    exact t_Mo_readsPieces_b99 C hA a_this a_forms a_sizes a_items a_moved a_bytes a_typed a_chances a_longs a_letters a_isThere a_pieceLongs a_pieceLetters a_song a_settings a_guess a_row a_least a_nights f_latest f_names f_songLong f_guesses f_todo F f_bytes f_typed r r_at r_pieces r_isThere r_pieceLongs r_pieceLetters rec25 hr25 x1 f_at 1 f_at f_pieces f_isThere f_pieceLongs f_pieceLetters hf _ _ hP hD hS _ (lv_sub hl [0, 1] rfl)
set_option maxHeartbeats 4000000 in
set_option maxRecDepth 100000 in
theorem t_Mo_readsPieces_b75 {p : Program} {l : Launch} {e : Env} {s : State} {m : MethodId} {args : Array Value} {below : List Frame} {meth : Method} {c : Code} {D : va_G} {ct : Nat → ClassId} (C : CX p s m args meth c RX11 cX11_readsPieces 3 (some .int) D ct) {A : Nat → Prop} (hA : ∀ q : Nat, s.heap.size ≤ q → A q) (a_this a_forms a_sizes a_items a_moved a_bytes a_typed a_chances a_longs a_letters a_isThere a_pieceLongs a_pieceLetters a_song a_settings a_guess a_row a_least a_nights : Nat) (f_latest : Int32) (f_names : Int32) (f_songLong : Int32) (f_guesses : Int32) (f_todo : Int32) (F : Nat) (f_bytes : Nat → Int32) (f_typed : Nat → Int32) (r : Int32) (r_at : Int32) (r_pieces : Int32) (r_isThere : Nat → Int32) (r_pieceLongs : Nat → Int32) (r_pieceLetters : Nat → Int32) : ∀ (f_at : Int32) (f_pieces : Int32) (f_isThere : Nat → Int32) (f_pieceLongs : Nat → Int32) (f_pieceLetters : Nat → Int32), Mo_readsPieces_b75 F f_bytes f_typed f_at f_pieces f_isThere f_pieceLongs f_pieceLetters = some (r, r_at, r_pieces, r_isThere, r_pieceLongs, r_pieceLetters) → ∀ (H : Heap) (locs : List Loc), va_P D vwCl (w_Mo_readsPieces ct a_this a_forms a_sizes a_items a_moved a_bytes a_typed a_chances a_longs a_letters a_isThere a_pieceLongs a_pieceLetters a_song a_settings a_guess a_row a_least a_nights f_latest f_at f_names f_pieces f_songLong f_guesses f_todo f_bytes f_typed f_isThere f_pieceLongs f_pieceLetters) H → va_D A (w_Mo_readsPieces ct a_this a_forms a_sizes a_items a_moved a_bytes a_typed a_chances a_longs a_letters a_isThere a_pieceLongs a_pieceLetters a_song a_settings a_guess a_row a_least a_nights f_latest f_at f_names f_pieces f_songLong f_guesses f_todo f_bytes f_typed f_isThere f_pieceLongs f_pieceLetters) → va_S A s.heap H locs → ∀ ls : Array Slot, lv_has ls 3 [(0, .ref a_this)] → W p l e RM_Mo_readsPieces s m args below meth c H locs 0 0 (MQ below (QM D (some (.int r)) (w_Mo_readsPieces ct a_this a_forms a_sizes a_items a_moved a_bytes a_typed a_chances a_longs a_letters a_isThere a_pieceLongs a_pieceLetters a_song a_settings a_guess a_row a_least a_nights f_latest r_at f_names r_pieces f_songLong f_guesses f_todo f_bytes f_typed r_isThere r_pieceLongs r_pieceLetters) A) args s 0 0 A) (F0 m 75 ls []) := by
  obtain ⟨hx, hb, hr, hml, hown, hts, hlk, hK, hN⟩ := id C
  intro f_at f_pieces f_isThere f_pieceLongs f_pieceLetters hf H locs hP hD hS ls hl
  unfold Mo_readsPieces_b75 at hf
  refine lv_aload_n hx hb dX11_readsPieces_75 rfl (lv_at hl 0 rfl) ?_
  refine lv_iconst (v := 0) hx hb dX11_readsPieces_76 (by decide) ?_
  refine va_put (ci := 11) (v := .int 0) (ty := .int) (C := RX11) (T := TX11) (N := 25) hx hb hts inX11 tyX11 tyX11_ok nmX11 hown hK hP hD hS 0 rfl rfl 12 (by decide) (hts _ tw_957) (fun _ h9 => h9) rfl (tyX11_ok 12 (by decide)) rfl rfl (Nat.le_of_ble_eq_true rfl) dX11_readsPieces_77 (fun H locs hP hD hS => ?_)
  have hP : va_P D vwCl (w_Mo_readsPieces ct a_this a_forms a_sizes a_items a_moved a_bytes a_typed a_chances a_longs a_letters a_isThere a_pieceLongs a_pieceLetters a_song a_settings a_guess a_row a_least a_nights f_latest f_at f_names 0 f_songLong f_guesses f_todo f_bytes f_typed f_isThere f_pieceLongs f_pieceLetters) H := hP
  have hD : va_D A (w_Mo_readsPieces ct a_this a_forms a_sizes a_items a_moved a_bytes a_typed a_chances a_longs a_letters a_isThere a_pieceLongs a_pieceLetters a_song a_settings a_guess a_row a_least a_nights f_latest f_at f_names 0 f_songLong f_guesses f_todo f_bytes f_typed f_isThere f_pieceLongs f_pieceLetters) := hD
  refine lv_aload_n hx hb dX11_readsPieces_80 rfl (lv_at hl 0 rfl) ?_
  refine va_get (ci := 11) (v := .int f_at) (C := RX11) (T := TX11) (N := 25) hx hb hts inX11 hown hK hP 0 rfl rfl 7 (by decide) (hts _ tw_952) (fun _ h9 => h9) rfl dX11_readsPieces_81 ?_
  obtain ⟨e1, e2, e3, e4, e5, e6⟩ := ti6 hf
  subst e1; subst e2; subst e3; subst e4; subst e5; subst e6
  exact kretM C hP hD hS dX11_readsPieces_84
set_option maxHeartbeats 4000000 in
set_option maxRecDepth 100000 in
theorem t_Mo_readsPieces_b56 {p : Program} {l : Launch} {e : Env} {s : State} {m : MethodId} {args : Array Value} {below : List Frame} {meth : Method} {c : Code} {D : va_G} {ct : Nat → ClassId} (C : CX p s m args meth c RX11 cX11_readsPieces 3 (some .int) D ct) {A : Nat → Prop} (hA : ∀ q : Nat, s.heap.size ≤ q → A q) (a_this a_forms a_sizes a_items a_moved a_bytes a_typed a_chances a_longs a_letters a_isThere a_pieceLongs a_pieceLetters a_song a_settings a_guess a_row a_least a_nights : Nat) (f_latest : Int32) (f_names : Int32) (f_songLong : Int32) (f_guesses : Int32) (f_todo : Int32) (F : Nat) (f_bytes : Nat → Int32) (f_typed : Nat → Int32) (r : Int32) (r_at : Int32) (r_pieces : Int32) (r_isThere : Nat → Int32) (r_pieceLongs : Nat → Int32) (r_pieceLetters : Nat → Int32) (rec25 : Int32 → Int32 → Int32 → (Nat → Int32) → (Nat → Int32) → (Nat → Int32) → Option (Int32 × Int32 × Int32 × (Nat → Int32) × (Nat → Int32) × (Nat → Int32))) (hr25 : ∀ (x1 : Int32) (f_at : Int32) (f_pieces : Int32) (f_isThere : Nat → Int32) (f_pieceLongs : Nat → Int32) (f_pieceLetters : Nat → Int32), rec25 x1 f_at f_pieces f_isThere f_pieceLongs f_pieceLetters = some (r, r_at, r_pieces, r_isThere, r_pieceLongs, r_pieceLetters) → ∀ (H : Heap) (locs : List Loc), va_P D vwCl (w_Mo_readsPieces ct a_this a_forms a_sizes a_items a_moved a_bytes a_typed a_chances a_longs a_letters a_isThere a_pieceLongs a_pieceLetters a_song a_settings a_guess a_row a_least a_nights f_latest f_at f_names f_pieces f_songLong f_guesses f_todo f_bytes f_typed f_isThere f_pieceLongs f_pieceLetters) H → va_D A (w_Mo_readsPieces ct a_this a_forms a_sizes a_items a_moved a_bytes a_typed a_chances a_longs a_letters a_isThere a_pieceLongs a_pieceLetters a_song a_settings a_guess a_row a_least a_nights f_latest f_at f_names f_pieces f_songLong f_guesses f_todo f_bytes f_typed f_isThere f_pieceLongs f_pieceLetters) → va_S A s.heap H locs → ∀ ls : Array Slot, lv_has ls 3 [(0, .ref a_this), (1, .int x1)] → W p l e RM_Mo_readsPieces s m args below meth c H locs 0 0 (MQ below (QM D (some (.int r)) (w_Mo_readsPieces ct a_this a_forms a_sizes a_items a_moved a_bytes a_typed a_chances a_longs a_letters a_isThere a_pieceLongs a_pieceLetters a_song a_settings a_guess a_row a_least a_nights f_latest r_at f_names r_pieces f_songLong f_guesses f_todo f_bytes f_typed r_isThere r_pieceLongs r_pieceLetters) A) args s 0 0 A) (F0 m 25 ls [])) : ∀ (x2 : Int32) (k0 : Int32) (f_at : Int32) (f_pieces : Int32) (f_isThere : Nat → Int32) (f_pieceLongs : Nat → Int32) (f_pieceLetters : Nat → Int32), Mo_readsPieces_b56 F f_bytes f_typed rec25 x2 k0 f_at f_pieces f_isThere f_pieceLongs f_pieceLetters = some (r, r_at, r_pieces, r_isThere, r_pieceLongs, r_pieceLetters) → ∀ (H : Heap) (locs : List Loc), va_P D vwCl (w_Mo_readsPieces ct a_this a_forms a_sizes a_items a_moved a_bytes a_typed a_chances a_longs a_letters a_isThere a_pieceLongs a_pieceLetters a_song a_settings a_guess a_row a_least a_nights f_latest f_at f_names f_pieces f_songLong f_guesses f_todo f_bytes f_typed f_isThere f_pieceLongs f_pieceLetters) H → va_D A (w_Mo_readsPieces ct a_this a_forms a_sizes a_items a_moved a_bytes a_typed a_chances a_longs a_letters a_isThere a_pieceLongs a_pieceLetters a_song a_settings a_guess a_row a_least a_nights f_latest f_at f_names f_pieces f_songLong f_guesses f_todo f_bytes f_typed f_isThere f_pieceLongs f_pieceLetters) → va_S A s.heap H locs → ∀ ls : Array Slot, lv_has ls 3 [(0, .ref a_this), (2, .int x2)] → W p l e RM_Mo_readsPieces s m args below meth c H locs 0 0 (MQ below (QM D (some (.int r)) (w_Mo_readsPieces ct a_this a_forms a_sizes a_items a_moved a_bytes a_typed a_chances a_longs a_letters a_isThere a_pieceLongs a_pieceLetters a_song a_settings a_guess a_row a_least a_nights f_latest r_at f_names r_pieces f_songLong f_guesses f_todo f_bytes f_typed r_isThere r_pieceLongs r_pieceLetters) A) args s 0 0 A) (F0 m 56 ls [.int k0]) := by
  obtain ⟨hx, hb, hr, hml, hown, hts, hlk, hK, hN⟩ := id C
  intro x2 k0 f_at f_pieces f_isThere f_pieceLongs f_pieceLetters hf H locs hP hD hS ls hl
  unfold Mo_readsPieces_b56 at hf
  refine lv_istore_n (lv' := [(1, .int k0), (0, .ref a_this), (2, .int x2)]) hx hb dX11_readsPieces_56 rfl hl (by decide) rfl (fun ls hl => ?_)
  refine lv_iload_n hx hb dX11_readsPieces_57 rfl (lv_at hl 2 rfl) ?_
  refine lv_if_eq (tgt := 75) hx hb dX11_readsPieces_58 (by decide) (fun hc => ?_) (fun hc => ?_)
  · have hf := kpos hc hf
    exact t_Mo_readsPieces_b75 C hA a_this a_forms a_sizes a_items a_moved a_bytes a_typed a_chances a_longs a_letters a_isThere a_pieceLongs a_pieceLetters a_song a_settings a_guess a_row a_least a_nights f_latest f_names f_songLong f_guesses f_todo F f_bytes f_typed r r_at r_pieces r_isThere r_pieceLongs r_pieceLetters f_at f_pieces f_isThere f_pieceLongs f_pieceLetters hf _ _ hP hD hS _ (lv_sub hl [1] rfl)
  · have hf := kneg hc hf
    refine lv_iload_n hx hb dX11_readsPieces_61 rfl (lv_at hl 0 rfl) ?_
    refine lv_if_eq (tgt := 85) hx hb dX11_readsPieces_62 (by decide) (fun hc => ?_) (fun hc => ?_)
    · have hf := kpos hc hf
      exact t_Mo_readsPieces_b85 C hA a_this a_forms a_sizes a_items a_moved a_bytes a_typed a_chances a_longs a_letters a_isThere a_pieceLongs a_pieceLetters a_song a_settings a_guess a_row a_least a_nights f_latest f_names f_songLong f_guesses f_todo F f_bytes f_typed r r_at r_pieces r_isThere r_pieceLongs r_pieceLetters rec25 hr25 k0 f_at f_pieces f_isThere f_pieceLongs f_pieceLetters hf _ _ hP hD hS _ (lv_sub hl [1, 0] rfl)
    · have hf := kneg hc hf
      refine lv_aload_n hx hb dX11_readsPieces_65 rfl (lv_at hl 1 rfl) ?_
      refine lv_iconst (v := 1) hx hb dX11_readsPieces_66 (by decide) ?_
      obtain ⟨v67, hc67, hf⟩ := cb1_some hf
      refine kcRV (q0 := 0) (ci := 11) (As := [.int 1]) (rest := []) (st1 := [.int v67]) C (c_Mo_here l D ct a_this a_forms a_sizes a_items a_moved a_bytes a_typed a_chances a_longs a_letters a_isThere a_pieceLongs a_pieceLetters a_song a_settings a_guess a_row a_least a_nights f_latest f_names f_pieces f_songLong f_guesses f_todo f_at f_bytes f_typed 1 v67 hc67) ⟨rfl, rfl⟩ yn_yX11_here tw_1095 tw_30 tw_1093 ⟨Nat.le_of_ble_eq_true rfl, Nat.le_of_ble_eq_true rfl⟩ ⟨Nat.zero_le _, Nat.zero_le _⟩ hP [0, 1, 2] rfl rfl rfl rfl hl.1 rfl rfl (Nat.le_of_ble_eq_true rfl) dX11_readsPieces_67 rfl ?_
      refine lv_bipush (v := 59) hx hb dX11_readsPieces_70 (by decide) ?_
      refine lv_icmp_eq (tgt := 85) hx hb dX11_readsPieces_72 (by decide) (fun hc => ?_) (fun hc => ?_)
      · have hf := kpos hc hf
        exact t_Mo_readsPieces_b85 C hA a_this a_forms a_sizes a_items a_moved a_bytes a_typed a_chances a_longs a_letters a_isThere a_pieceLongs a_pieceLetters a_song a_settings a_guess a_row a_least a_nights f_latest f_names f_songLong f_guesses f_todo F f_bytes f_typed r r_at r_pieces r_isThere r_pieceLongs r_pieceLetters rec25 hr25 k0 f_at f_pieces f_isThere f_pieceLongs f_pieceLetters hf _ _ hP hD hS _ (lv_sub hl [1, 0] rfl)
      · have hf := kneg hc hf
        exact t_Mo_readsPieces_b75 C hA a_this a_forms a_sizes a_items a_moved a_bytes a_typed a_chances a_longs a_letters a_isThere a_pieceLongs a_pieceLetters a_song a_settings a_guess a_row a_least a_nights f_latest f_names f_songLong f_guesses f_todo F f_bytes f_typed r r_at r_pieces r_isThere r_pieceLongs r_pieceLetters f_at f_pieces f_isThere f_pieceLongs f_pieceLetters hf _ _ hP hD hS _ (lv_sub hl [1] rfl)
set_option maxHeartbeats 4000000 in
set_option maxRecDepth 100000 in
theorem t_Mo_readsPieces_b55 {p : Program} {l : Launch} {e : Env} {s : State} {m : MethodId} {args : Array Value} {below : List Frame} {meth : Method} {c : Code} {D : va_G} {ct : Nat → ClassId} (C : CX p s m args meth c RX11 cX11_readsPieces 3 (some .int) D ct) {A : Nat → Prop} (hA : ∀ q : Nat, s.heap.size ≤ q → A q) (a_this a_forms a_sizes a_items a_moved a_bytes a_typed a_chances a_longs a_letters a_isThere a_pieceLongs a_pieceLetters a_song a_settings a_guess a_row a_least a_nights : Nat) (f_latest : Int32) (f_names : Int32) (f_songLong : Int32) (f_guesses : Int32) (f_todo : Int32) (F : Nat) (f_bytes : Nat → Int32) (f_typed : Nat → Int32) (r : Int32) (r_at : Int32) (r_pieces : Int32) (r_isThere : Nat → Int32) (r_pieceLongs : Nat → Int32) (r_pieceLetters : Nat → Int32) (rec25 : Int32 → Int32 → Int32 → (Nat → Int32) → (Nat → Int32) → (Nat → Int32) → Option (Int32 × Int32 × Int32 × (Nat → Int32) × (Nat → Int32) × (Nat → Int32))) (hr25 : ∀ (x1 : Int32) (f_at : Int32) (f_pieces : Int32) (f_isThere : Nat → Int32) (f_pieceLongs : Nat → Int32) (f_pieceLetters : Nat → Int32), rec25 x1 f_at f_pieces f_isThere f_pieceLongs f_pieceLetters = some (r, r_at, r_pieces, r_isThere, r_pieceLongs, r_pieceLetters) → ∀ (H : Heap) (locs : List Loc), va_P D vwCl (w_Mo_readsPieces ct a_this a_forms a_sizes a_items a_moved a_bytes a_typed a_chances a_longs a_letters a_isThere a_pieceLongs a_pieceLetters a_song a_settings a_guess a_row a_least a_nights f_latest f_at f_names f_pieces f_songLong f_guesses f_todo f_bytes f_typed f_isThere f_pieceLongs f_pieceLetters) H → va_D A (w_Mo_readsPieces ct a_this a_forms a_sizes a_items a_moved a_bytes a_typed a_chances a_longs a_letters a_isThere a_pieceLongs a_pieceLetters a_song a_settings a_guess a_row a_least a_nights f_latest f_at f_names f_pieces f_songLong f_guesses f_todo f_bytes f_typed f_isThere f_pieceLongs f_pieceLetters) → va_S A s.heap H locs → ∀ ls : Array Slot, lv_has ls 3 [(0, .ref a_this), (1, .int x1)] → W p l e RM_Mo_readsPieces s m args below meth c H locs 0 0 (MQ below (QM D (some (.int r)) (w_Mo_readsPieces ct a_this a_forms a_sizes a_items a_moved a_bytes a_typed a_chances a_longs a_letters a_isThere a_pieceLongs a_pieceLetters a_song a_settings a_guess a_row a_least a_nights f_latest r_at f_names r_pieces f_songLong f_guesses f_todo f_bytes f_typed r_isThere r_pieceLongs r_pieceLetters) A) args s 0 0 A) (F0 m 25 ls [])) : ∀ (x2 : Int32) (f_at : Int32) (f_pieces : Int32) (f_isThere : Nat → Int32) (f_pieceLongs : Nat → Int32) (f_pieceLetters : Nat → Int32), Mo_readsPieces_b55 F f_bytes f_typed rec25 x2 f_at f_pieces f_isThere f_pieceLongs f_pieceLetters = some (r, r_at, r_pieces, r_isThere, r_pieceLongs, r_pieceLetters) → ∀ (H : Heap) (locs : List Loc), va_P D vwCl (w_Mo_readsPieces ct a_this a_forms a_sizes a_items a_moved a_bytes a_typed a_chances a_longs a_letters a_isThere a_pieceLongs a_pieceLetters a_song a_settings a_guess a_row a_least a_nights f_latest f_at f_names f_pieces f_songLong f_guesses f_todo f_bytes f_typed f_isThere f_pieceLongs f_pieceLetters) H → va_D A (w_Mo_readsPieces ct a_this a_forms a_sizes a_items a_moved a_bytes a_typed a_chances a_longs a_letters a_isThere a_pieceLongs a_pieceLetters a_song a_settings a_guess a_row a_least a_nights f_latest f_at f_names f_pieces f_songLong f_guesses f_todo f_bytes f_typed f_isThere f_pieceLongs f_pieceLetters) → va_S A s.heap H locs → ∀ ls : Array Slot, lv_has ls 3 [(0, .ref a_this), (2, .int x2)] → W p l e RM_Mo_readsPieces s m args below meth c H locs 0 0 (MQ below (QM D (some (.int r)) (w_Mo_readsPieces ct a_this a_forms a_sizes a_items a_moved a_bytes a_typed a_chances a_longs a_letters a_isThere a_pieceLongs a_pieceLetters a_song a_settings a_guess a_row a_least a_nights f_latest r_at f_names r_pieces f_songLong f_guesses f_todo f_bytes f_typed r_isThere r_pieceLongs r_pieceLetters) A) args s 0 0 A) (F0 m 55 ls []) := by
  obtain ⟨hx, hb, hr, hml, hown, hts, hlk, hK, hN⟩ := id C
  intro x2 f_at f_pieces f_isThere f_pieceLongs f_pieceLetters hf H locs hP hD hS ls hl
  unfold Mo_readsPieces_b55 at hf
  refine lv_iconst (v := 0) hx hb dX11_readsPieces_55 (by decide) ?_
  exact t_Mo_readsPieces_b56 C hA a_this a_forms a_sizes a_items a_moved a_bytes a_typed a_chances a_longs a_letters a_isThere a_pieceLongs a_pieceLetters a_song a_settings a_guess a_row a_least a_nights f_latest f_names f_songLong f_guesses f_todo F f_bytes f_typed r r_at r_pieces r_isThere r_pieceLongs r_pieceLetters rec25 hr25 x2 0 f_at f_pieces f_isThere f_pieceLongs f_pieceLetters hf _ _ hP hD hS _ (lv_sub hl [0, 1] rfl)
set_option maxHeartbeats 4000000 in
set_option maxRecDepth 100000 in
theorem t_Mo_readsPieces_b25 {p : Program} {l : Launch} {e : Env} {s : State} {m : MethodId} {args : Array Value} {below : List Frame} {meth : Method} {c : Code} {D : va_G} {ct : Nat → ClassId} (C : CX p s m args meth c RX11 cX11_readsPieces 3 (some .int) D ct) {A : Nat → Prop} (hA : ∀ q : Nat, s.heap.size ≤ q → A q) (a_this a_forms a_sizes a_items a_moved a_bytes a_typed a_chances a_longs a_letters a_isThere a_pieceLongs a_pieceLetters a_song a_settings a_guess a_row a_least a_nights : Nat) (f_latest : Int32) (f_names : Int32) (f_songLong : Int32) (f_guesses : Int32) (f_todo : Int32) (F : Nat) (f_bytes : Nat → Int32) (f_typed : Nat → Int32) (r : Int32) (r_at : Int32) (r_pieces : Int32) (r_isThere : Nat → Int32) (r_pieceLongs : Nat → Int32) (r_pieceLetters : Nat → Int32) (rec25 : Int32 → Int32 → Int32 → (Nat → Int32) → (Nat → Int32) → (Nat → Int32) → Option (Int32 × Int32 × Int32 × (Nat → Int32) × (Nat → Int32) × (Nat → Int32))) (hr25 : ∀ (x1 : Int32) (f_at : Int32) (f_pieces : Int32) (f_isThere : Nat → Int32) (f_pieceLongs : Nat → Int32) (f_pieceLetters : Nat → Int32), rec25 x1 f_at f_pieces f_isThere f_pieceLongs f_pieceLetters = some (r, r_at, r_pieces, r_isThere, r_pieceLongs, r_pieceLetters) → ∀ (H : Heap) (locs : List Loc), va_P D vwCl (w_Mo_readsPieces ct a_this a_forms a_sizes a_items a_moved a_bytes a_typed a_chances a_longs a_letters a_isThere a_pieceLongs a_pieceLetters a_song a_settings a_guess a_row a_least a_nights f_latest f_at f_names f_pieces f_songLong f_guesses f_todo f_bytes f_typed f_isThere f_pieceLongs f_pieceLetters) H → va_D A (w_Mo_readsPieces ct a_this a_forms a_sizes a_items a_moved a_bytes a_typed a_chances a_longs a_letters a_isThere a_pieceLongs a_pieceLetters a_song a_settings a_guess a_row a_least a_nights f_latest f_at f_names f_pieces f_songLong f_guesses f_todo f_bytes f_typed f_isThere f_pieceLongs f_pieceLetters) → va_S A s.heap H locs → ∀ ls : Array Slot, lv_has ls 3 [(0, .ref a_this), (1, .int x1)] → W p l e RM_Mo_readsPieces s m args below meth c H locs 0 0 (MQ below (QM D (some (.int r)) (w_Mo_readsPieces ct a_this a_forms a_sizes a_items a_moved a_bytes a_typed a_chances a_longs a_letters a_isThere a_pieceLongs a_pieceLetters a_song a_settings a_guess a_row a_least a_nights f_latest r_at f_names r_pieces f_songLong f_guesses f_todo f_bytes f_typed r_isThere r_pieceLongs r_pieceLetters) A) args s 0 0 A) (F0 m 25 ls [])) : ∀ (x1 : Int32) (f_at : Int32) (f_pieces : Int32) (f_isThere : Nat → Int32) (f_pieceLongs : Nat → Int32) (f_pieceLetters : Nat → Int32), Mo_readsPieces_b25 F f_bytes f_typed rec25 x1 f_at f_pieces f_isThere f_pieceLongs f_pieceLetters = some (r, r_at, r_pieces, r_isThere, r_pieceLongs, r_pieceLetters) → ∀ (H : Heap) (locs : List Loc), va_P D vwCl (w_Mo_readsPieces ct a_this a_forms a_sizes a_items a_moved a_bytes a_typed a_chances a_longs a_letters a_isThere a_pieceLongs a_pieceLetters a_song a_settings a_guess a_row a_least a_nights f_latest f_at f_names f_pieces f_songLong f_guesses f_todo f_bytes f_typed f_isThere f_pieceLongs f_pieceLetters) H → va_D A (w_Mo_readsPieces ct a_this a_forms a_sizes a_items a_moved a_bytes a_typed a_chances a_longs a_letters a_isThere a_pieceLongs a_pieceLetters a_song a_settings a_guess a_row a_least a_nights f_latest f_at f_names f_pieces f_songLong f_guesses f_todo f_bytes f_typed f_isThere f_pieceLongs f_pieceLetters) → va_S A s.heap H locs → ∀ ls : Array Slot, lv_has ls 3 [(0, .ref a_this), (1, .int x1)] → W p l e RM_Mo_readsPieces s m args below meth c H locs 0 0 (MQ below (QM D (some (.int r)) (w_Mo_readsPieces ct a_this a_forms a_sizes a_items a_moved a_bytes a_typed a_chances a_longs a_letters a_isThere a_pieceLongs a_pieceLetters a_song a_settings a_guess a_row a_least a_nights f_latest r_at f_names r_pieces f_songLong f_guesses f_todo f_bytes f_typed r_isThere r_pieceLongs r_pieceLetters) A) args s 0 0 A) (F0 m 25 ls []) := by
  obtain ⟨hx, hb, hr, hml, hown, hts, hlk, hK, hN⟩ := id C
  intro x1 f_at f_pieces f_isThere f_pieceLongs f_pieceLetters hf H locs hP hD hS ls hl
  unfold Mo_readsPieces_b25 at hf
  refine lv_iload_n hx hb dX11_readsPieces_25 rfl (lv_at hl 1 rfl) ?_
  refine lv_if_eq (tgt := 106) hx hb dX11_readsPieces_26 (by decide) (fun hc => ?_) (fun hc => ?_)
  · have hf := kpos hc hf
    refine lv_iconst (v := (-1)) hx hb dX11_readsPieces_106 (by decide) ?_
    obtain ⟨e1, e2, e3, e4, e5, e6⟩ := ti6 hf
    subst e1; subst e2; subst e3; subst e4; subst e5; subst e6
    exact kretM C hP hD hS dX11_readsPieces_107
  · have hf := kneg hc hf
    refine lv_aload_n hx hb dX11_readsPieces_29 rfl (lv_at hl 0 rfl) ?_
    obtain ⟨v30, f_at_30, f_pieces_30, f_isThere_30, f_pieceLongs_30, f_pieceLetters_30, hc30, hf⟩ := cb6_some hf
    refine kcMV (q0 := 0) (ci := 11) (As := []) (rest := []) (st1 := [.int v30]) (wf := (w_Mo_readsPieces ct a_this a_forms a_sizes a_items a_moved a_bytes a_typed a_chances a_longs a_letters a_isThere a_pieceLongs a_pieceLetters a_song a_settings a_guess a_row a_least a_nights f_latest f_at_30 f_names f_pieces_30 f_songLong f_guesses f_todo f_bytes f_typed f_isThere_30 f_pieceLongs_30 f_pieceLetters_30)) C (c_Mo_readsPiece l D ct a_this a_forms a_sizes a_items a_moved a_bytes a_typed a_chances a_longs a_letters a_isThere a_pieceLongs a_pieceLetters a_song a_settings a_guess a_row a_least a_nights f_latest f_names f_songLong f_guesses f_todo F f_bytes f_typed f_at f_pieces f_isThere f_pieceLongs f_pieceLetters v30 f_at_30 f_pieces_30 f_isThere_30 f_pieceLongs_30 f_pieceLetters_30 _ hc30) ⟨rfl, rfl⟩ yn_yX11_readsPiece tw_1109 tw_33 tw_1107 ⟨Nat.le_of_ble_eq_true rfl, Nat.le_of_ble_eq_true rfl⟩ ⟨Nat.zero_le _, Nat.zero_le _⟩ hP hD hS hA [0, 1, 2, 3, 4, 5] [] [0, 1, 2, 3, 4, 5] rfl rfl rfl rfl rfl (by decide) rfl rfl rfl rfl rfl rfl hl.1 rfl rfl (Nat.le_of_ble_eq_true rfl) dX11_readsPieces_30 rfl (fun H locs hP hD hS => ?_)
    refine lv_istore_n (lv' := [(2, .int v30), (0, .ref a_this), (1, .int x1)]) hx hb dX11_readsPieces_33 rfl hl (by decide) rfl (fun ls hl => ?_)
    refine lv_iload_n hx hb dX11_readsPieces_34 rfl (lv_at hl 0 rfl) ?_
    refine lv_if_eq (tgt := 55) hx hb dX11_readsPieces_35 (by decide) (fun hc => ?_) (fun hc => ?_)
    · have hf := kpos hc hf
      exact t_Mo_readsPieces_b55 C hA a_this a_forms a_sizes a_items a_moved a_bytes a_typed a_chances a_longs a_letters a_isThere a_pieceLongs a_pieceLetters a_song a_settings a_guess a_row a_least a_nights f_latest f_names f_songLong f_guesses f_todo F f_bytes f_typed r r_at r_pieces r_isThere r_pieceLongs r_pieceLetters rec25 hr25 v30 f_at_30 f_pieces_30 f_isThere_30 f_pieceLongs_30 f_pieceLetters_30 hf _ _ hP hD hS _ (lv_sub hl [1, 0] rfl)
    · have hf := kneg hc hf
      refine lv_aload_n hx hb dX11_readsPieces_38 rfl (lv_at hl 1 rfl) ?_
      refine va_get (ci := 11) (v := .int f_at_30) (C := RX11) (T := TX11) (N := 25) hx hb hts inX11 hown hK hP 0 rfl rfl 7 (by decide) (hts _ tw_952) (fun _ h9 => h9) rfl dX11_readsPieces_39 ?_
      refine lv_aload_n hx hb dX11_readsPieces_42 rfl (lv_at hl 1 rfl) ?_
      refine va_get (ci := 11) (v := .ref a_typed) (C := RX11) (T := TX11) (N := 25) hx hb hts inX11 hown hK hP 0 rfl rfl 6 (by decide) (hts _ tw_951) (fun _ h9 => h9) rfl dX11_readsPieces_43 ?_
      refine lv_iconst (v := 1) hx hb dX11_readsPieces_46 (by decide) ?_
      obtain ⟨hin, hf⟩ := rd_some hf
      generalize ev47 : f_typed (Int32.toNatClampNeg 1) = v47 at hf
      refine kiald hx hb hK hP 2 0 rfl rfl hin ev47 dX11_readsPieces_47 ?_
      refine lv_icmp_ge (tgt := 55) hx hb dX11_readsPieces_48 (by decide) (fun hc => ?_) (fun hc => ?_)
      · have hf := kpos hc hf
        exact t_Mo_readsPieces_b55 C hA a_this a_forms a_sizes a_items a_moved a_bytes a_typed a_chances a_longs a_letters a_isThere a_pieceLongs a_pieceLetters a_song a_settings a_guess a_row a_least a_nights f_latest f_names f_songLong f_guesses f_todo F f_bytes f_typed r r_at r_pieces r_isThere r_pieceLongs r_pieceLetters rec25 hr25 v30 f_at_30 f_pieces_30 f_isThere_30 f_pieceLongs_30 f_pieceLetters_30 hf _ _ hP hD hS _ (lv_sub hl [1, 0] rfl)
      · have hf := kneg hc hf
        refine lv_iconst (v := 1) hx hb dX11_readsPieces_51 (by decide) ?_
        refine lv_goto (tgt := 56) hx hb dX11_readsPieces_52 (by decide) ?_
        exact t_Mo_readsPieces_b56 C hA a_this a_forms a_sizes a_items a_moved a_bytes a_typed a_chances a_longs a_letters a_isThere a_pieceLongs a_pieceLetters a_song a_settings a_guess a_row a_least a_nights f_latest f_names f_songLong f_guesses f_todo F f_bytes f_typed r r_at r_pieces r_isThere r_pieceLongs r_pieceLetters rec25 hr25 v30 1 f_at_30 f_pieces_30 f_isThere_30 f_pieceLongs_30 f_pieceLetters_30 hf _ _ hP hD hS _ (lv_sub hl [1, 0] rfl)
set_option maxHeartbeats 4000000 in
set_option maxRecDepth 100000 in
theorem t_Mo_readsPieces_l25 {p : Program} {l : Launch} {e : Env} {s : State} {m : MethodId} {args : Array Value} {below : List Frame} {meth : Method} {c : Code} {D : va_G} {ct : Nat → ClassId} (C : CX p s m args meth c RX11 cX11_readsPieces 3 (some .int) D ct) {A : Nat → Prop} (hA : ∀ q : Nat, s.heap.size ≤ q → A q) (a_this a_forms a_sizes a_items a_moved a_bytes a_typed a_chances a_longs a_letters a_isThere a_pieceLongs a_pieceLetters a_song a_settings a_guess a_row a_least a_nights : Nat) (f_latest : Int32) (f_names : Int32) (f_songLong : Int32) (f_guesses : Int32) (f_todo : Int32) (F : Nat) (f_bytes : Nat → Int32) (f_typed : Nat → Int32) (r : Int32) (r_at : Int32) (r_pieces : Int32) (r_isThere : Nat → Int32) (r_pieceLongs : Nat → Int32) (r_pieceLetters : Nat → Int32) : ∀ (n : Nat) (x1 : Int32) (f_at : Int32) (f_pieces : Int32) (f_isThere : Nat → Int32) (f_pieceLongs : Nat → Int32) (f_pieceLetters : Nat → Int32), Mo_readsPieces_l25 F f_bytes f_typed n x1 f_at f_pieces f_isThere f_pieceLongs f_pieceLetters = some (r, r_at, r_pieces, r_isThere, r_pieceLongs, r_pieceLetters) → ∀ (H : Heap) (locs : List Loc), va_P D vwCl (w_Mo_readsPieces ct a_this a_forms a_sizes a_items a_moved a_bytes a_typed a_chances a_longs a_letters a_isThere a_pieceLongs a_pieceLetters a_song a_settings a_guess a_row a_least a_nights f_latest f_at f_names f_pieces f_songLong f_guesses f_todo f_bytes f_typed f_isThere f_pieceLongs f_pieceLetters) H → va_D A (w_Mo_readsPieces ct a_this a_forms a_sizes a_items a_moved a_bytes a_typed a_chances a_longs a_letters a_isThere a_pieceLongs a_pieceLetters a_song a_settings a_guess a_row a_least a_nights f_latest f_at f_names f_pieces f_songLong f_guesses f_todo f_bytes f_typed f_isThere f_pieceLongs f_pieceLetters) → va_S A s.heap H locs → ∀ ls : Array Slot, lv_has ls 3 [(0, .ref a_this), (1, .int x1)] → W p l e RM_Mo_readsPieces s m args below meth c H locs 0 0 (MQ below (QM D (some (.int r)) (w_Mo_readsPieces ct a_this a_forms a_sizes a_items a_moved a_bytes a_typed a_chances a_longs a_letters a_isThere a_pieceLongs a_pieceLetters a_song a_settings a_guess a_row a_least a_nights f_latest r_at f_names r_pieces f_songLong f_guesses f_todo f_bytes f_typed r_isThere r_pieceLongs r_pieceLetters) A) args s 0 0 A) (F0 m 25 ls []) := by
  intro n
  induction n with
  | zero =>
    intro x1 f_at f_pieces f_isThere f_pieceLongs f_pieceLetters hf
    exact absurd hf (by simp [Mo_readsPieces_l25])
  | succ n ih =>
    intro x1 f_at f_pieces f_isThere f_pieceLongs f_pieceLetters hf
    exact t_Mo_readsPieces_b25 C hA a_this a_forms a_sizes a_items a_moved a_bytes a_typed a_chances a_longs a_letters a_isThere a_pieceLongs a_pieceLetters a_song a_settings a_guess a_row a_least a_nights f_latest f_names f_songLong f_guesses f_todo F f_bytes f_typed r r_at r_pieces r_isThere r_pieceLongs r_pieceLetters (Mo_readsPieces_l25 F f_bytes f_typed n) ih x1 f_at f_pieces f_isThere f_pieceLongs f_pieceLetters hf
set_option maxHeartbeats 4000000 in
set_option maxRecDepth 100000 in
theorem t_Mo_readsPieces_b24 {p : Program} {l : Launch} {e : Env} {s : State} {m : MethodId} {args : Array Value} {below : List Frame} {meth : Method} {c : Code} {D : va_G} {ct : Nat → ClassId} (C : CX p s m args meth c RX11 cX11_readsPieces 3 (some .int) D ct) {A : Nat → Prop} (hA : ∀ q : Nat, s.heap.size ≤ q → A q) (a_this a_forms a_sizes a_items a_moved a_bytes a_typed a_chances a_longs a_letters a_isThere a_pieceLongs a_pieceLetters a_song a_settings a_guess a_row a_least a_nights : Nat) (f_latest : Int32) (f_names : Int32) (f_songLong : Int32) (f_guesses : Int32) (f_todo : Int32) (F : Nat) (f_bytes : Nat → Int32) (f_typed : Nat → Int32) (r : Int32) (r_at : Int32) (r_pieces : Int32) (r_isThere : Nat → Int32) (r_pieceLongs : Nat → Int32) (r_pieceLetters : Nat → Int32) : ∀ (k0 : Int32) (f_at : Int32) (f_pieces : Int32) (f_isThere : Nat → Int32) (f_pieceLongs : Nat → Int32) (f_pieceLetters : Nat → Int32), Mo_readsPieces_b24 F f_bytes f_typed k0 f_at f_pieces f_isThere f_pieceLongs f_pieceLetters = some (r, r_at, r_pieces, r_isThere, r_pieceLongs, r_pieceLetters) → ∀ (H : Heap) (locs : List Loc), va_P D vwCl (w_Mo_readsPieces ct a_this a_forms a_sizes a_items a_moved a_bytes a_typed a_chances a_longs a_letters a_isThere a_pieceLongs a_pieceLetters a_song a_settings a_guess a_row a_least a_nights f_latest f_at f_names f_pieces f_songLong f_guesses f_todo f_bytes f_typed f_isThere f_pieceLongs f_pieceLetters) H → va_D A (w_Mo_readsPieces ct a_this a_forms a_sizes a_items a_moved a_bytes a_typed a_chances a_longs a_letters a_isThere a_pieceLongs a_pieceLetters a_song a_settings a_guess a_row a_least a_nights f_latest f_at f_names f_pieces f_songLong f_guesses f_todo f_bytes f_typed f_isThere f_pieceLongs f_pieceLetters) → va_S A s.heap H locs → ∀ ls : Array Slot, lv_has ls 3 [(0, .ref a_this)] → W p l e RM_Mo_readsPieces s m args below meth c H locs 0 0 (MQ below (QM D (some (.int r)) (w_Mo_readsPieces ct a_this a_forms a_sizes a_items a_moved a_bytes a_typed a_chances a_longs a_letters a_isThere a_pieceLongs a_pieceLetters a_song a_settings a_guess a_row a_least a_nights f_latest r_at f_names r_pieces f_songLong f_guesses f_todo f_bytes f_typed r_isThere r_pieceLongs r_pieceLetters) A) args s 0 0 A) (F0 m 24 ls [.int k0]) := by
  obtain ⟨hx, hb, hr, hml, hown, hts, hlk, hK, hN⟩ := id C
  intro k0 f_at f_pieces f_isThere f_pieceLongs f_pieceLetters hf H locs hP hD hS ls hl
  unfold Mo_readsPieces_b24 at hf
  refine lv_istore_n (lv' := [(1, .int k0), (0, .ref a_this)]) hx hb dX11_readsPieces_24 rfl hl (by decide) rfl (fun ls hl => ?_)
  exact t_Mo_readsPieces_l25 C hA a_this a_forms a_sizes a_items a_moved a_bytes a_typed a_chances a_longs a_letters a_isThere a_pieceLongs a_pieceLetters a_song a_settings a_guess a_row a_least a_nights f_latest f_names f_songLong f_guesses f_todo F f_bytes f_typed r r_at r_pieces r_isThere r_pieceLongs r_pieceLetters F k0 f_at f_pieces f_isThere f_pieceLongs f_pieceLetters hf _ _ hP hD hS _ (lv_sub hl [1, 0] rfl)
set_option maxHeartbeats 4000000 in
set_option maxRecDepth 100000 in
theorem c_Mo_readsPieces (l : Launch) (D : va_G) (ct : Nat → ClassId) (a_this a_forms a_sizes a_items a_moved a_bytes a_typed a_chances a_longs a_letters a_isThere a_pieceLongs a_pieceLetters a_song a_settings a_guess a_row a_least a_nights : Nat) (f_latest : Int32) (f_names : Int32) (f_songLong : Int32) (f_guesses : Int32) (f_todo : Int32) (F : Nat) (f_bytes : Nat → Int32) (f_typed : Nat → Int32) (f_at : Int32) (f_pieces : Int32) (f_isThere : Nat → Int32) (f_pieceLongs : Nat → Int32) (f_pieceLetters : Nat → Int32) (r : Int32) (r_at : Int32) (r_pieces : Int32) (r_isThere : Nat → Int32) (r_pieceLongs : Nat → Int32) (r_pieceLetters : Nat → Int32) (sz : Nat) (hf : Mo_readsPieces F f_bytes f_typed f_at f_pieces f_isThere f_pieceLongs f_pieceLetters = some (r, r_at, r_pieces, r_isThere, r_pieceLongs, r_pieceLetters)) : Met l yX11_readsPieces (WS yX11_readsPieces cX11_readsPieces 3 (some .int)) RM_Mo_readsPieces (va_Pc [.ref a_this] (PM D ct sz (w_Mo_readsPieces ct a_this a_forms a_sizes a_items a_moved a_bytes a_typed a_chances a_longs a_letters a_isThere a_pieceLongs a_pieceLetters a_song a_settings a_guess a_row a_least a_nights f_latest f_at f_names f_pieces f_songLong f_guesses f_todo f_bytes f_typed f_isThere f_pieceLongs f_pieceLetters))) (QM D (some (.int r)) (w_Mo_readsPieces ct a_this a_forms a_sizes a_items a_moved a_bytes a_typed a_chances a_longs a_letters a_isThere a_pieceLongs a_pieceLetters a_song a_settings a_guess a_row a_least a_nights f_latest r_at f_names r_pieces f_songLong f_guesses f_todo f_bytes f_typed r_isThere r_pieceLongs r_pieceLetters) (va_A (w_Mo_readsPieces ct a_this a_forms a_sizes a_items a_moved a_bytes a_typed a_chances a_longs a_letters a_isThere a_pieceLongs a_pieceLetters a_song a_settings a_guess a_row a_least a_nights f_latest f_at f_names f_pieces f_songLong f_guesses f_todo f_bytes f_typed f_isThere f_pieceLongs f_pieceLetters) sz)) 0 0 (va_A (w_Mo_readsPieces ct a_this a_forms a_sizes a_items a_moved a_bytes a_typed a_chances a_longs a_letters a_isThere a_pieceLongs a_pieceLetters a_song a_settings a_guess a_row a_least a_nights f_latest f_at f_names f_pieces f_songLong f_guesses f_todo f_bytes f_typed f_isThere f_pieceLongs f_pieceLetters) sz) := by
  refine kMetM yn_yX11_readsPieces rfl (Nat.le_of_ble_eq_true rfl) ?_
  intro p e s m args below meth c A C hA hP hD ls hl
  have hl : lv_has ls 3 [(0, .ref a_this)] := hl
  have hS : va_S A s.heap s.heap [] := va_S.rf
  obtain ⟨hx, hb, hr, hml, hown, hts, hlk, hK, hN⟩ := id C
  unfold Mo_readsPieces at hf
  refine lv_aload_n hx hb dX11_readsPieces_0 rfl (lv_at hl 0 rfl) ?_
  refine lv_iconst (v := 0) hx hb dX11_readsPieces_1 (by decide) ?_
  refine va_put (ci := 11) (v := .int 0) (ty := .int) (C := RX11) (T := TX11) (N := 25) hx hb hts inX11 tyX11 tyX11_ok nmX11 hown hK hP hD hS 0 rfl rfl 7 (by decide) (hts _ tw_952) (fun _ h9 => h9) rfl (tyX11_ok 7 (by decide)) rfl rfl (Nat.le_of_ble_eq_true rfl) dX11_readsPieces_2 (fun H locs hP hD hS => ?_)
  have hP : va_P D vwCl (w_Mo_readsPieces ct a_this a_forms a_sizes a_items a_moved a_bytes a_typed a_chances a_longs a_letters a_isThere a_pieceLongs a_pieceLetters a_song a_settings a_guess a_row a_least a_nights f_latest 0 f_names f_pieces f_songLong f_guesses f_todo f_bytes f_typed f_isThere f_pieceLongs f_pieceLetters) H := hP
  have hD : va_D A (w_Mo_readsPieces ct a_this a_forms a_sizes a_items a_moved a_bytes a_typed a_chances a_longs a_letters a_isThere a_pieceLongs a_pieceLetters a_song a_settings a_guess a_row a_least a_nights f_latest 0 f_names f_pieces f_songLong f_guesses f_todo f_bytes f_typed f_isThere f_pieceLongs f_pieceLetters) := hD
  refine lv_aload_n hx hb dX11_readsPieces_5 rfl (lv_at hl 0 rfl) ?_
  refine lv_iconst (v := 0) hx hb dX11_readsPieces_6 (by decide) ?_
  refine va_put (ci := 11) (v := .int 0) (ty := .int) (C := RX11) (T := TX11) (N := 25) hx hb hts inX11 tyX11 tyX11_ok nmX11 hown hK hP hD hS 0 rfl rfl 12 (by decide) (hts _ tw_957) (fun _ h9 => h9) rfl (tyX11_ok 12 (by decide)) rfl rfl (Nat.le_of_ble_eq_true rfl) dX11_readsPieces_7 (fun H locs hP hD hS => ?_)
  have hP : va_P D vwCl (w_Mo_readsPieces ct a_this a_forms a_sizes a_items a_moved a_bytes a_typed a_chances a_longs a_letters a_isThere a_pieceLongs a_pieceLetters a_song a_settings a_guess a_row a_least a_nights f_latest 0 f_names 0 f_songLong f_guesses f_todo f_bytes f_typed f_isThere f_pieceLongs f_pieceLetters) H := hP
  have hD : va_D A (w_Mo_readsPieces ct a_this a_forms a_sizes a_items a_moved a_bytes a_typed a_chances a_longs a_letters a_isThere a_pieceLongs a_pieceLetters a_song a_settings a_guess a_row a_least a_nights f_latest 0 f_names 0 f_songLong f_guesses f_todo f_bytes f_typed f_isThere f_pieceLongs f_pieceLetters) := hD
  refine lv_aload_n hx hb dX11_readsPieces_10 rfl (lv_at hl 0 rfl) ?_
  refine va_get (ci := 11) (v := .ref a_typed) (C := RX11) (T := TX11) (N := 25) hx hb hts inX11 hown hK hP 0 rfl rfl 6 (by decide) (hts _ tw_951) (fun _ h9 => h9) rfl dX11_readsPieces_11 ?_
  refine lv_iconst (v := 1) hx hb dX11_readsPieces_14 (by decide) ?_
  obtain ⟨hin, hf⟩ := rd_some hf
  generalize ev15 : f_typed (Int32.toNatClampNeg 1) = v15 at hf
  refine kiald hx hb hK hP 2 0 rfl rfl hin ev15 dX11_readsPieces_15 ?_
  refine lv_if_le (tgt := 23) hx hb dX11_readsPieces_16 (by decide) (fun hc => ?_) (fun hc => ?_)
  · have hf := kpos hc hf
    refine lv_iconst (v := 0) hx hb dX11_readsPieces_23 (by decide) ?_
    exact t_Mo_readsPieces_b24 C hA a_this a_forms a_sizes a_items a_moved a_bytes a_typed a_chances a_longs a_letters a_isThere a_pieceLongs a_pieceLetters a_song a_settings a_guess a_row a_least a_nights f_latest f_names f_songLong f_guesses f_todo F f_bytes f_typed r r_at r_pieces r_isThere r_pieceLongs r_pieceLetters 0 0 0 f_isThere f_pieceLongs f_pieceLetters hf _ _ hP hD hS _ (lv_sub hl [0] rfl)
  · have hf := kneg hc hf
    refine lv_iconst (v := 1) hx hb dX11_readsPieces_19 (by decide) ?_
    refine lv_goto (tgt := 24) hx hb dX11_readsPieces_20 (by decide) ?_
    exact t_Mo_readsPieces_b24 C hA a_this a_forms a_sizes a_items a_moved a_bytes a_typed a_chances a_longs a_letters a_isThere a_pieceLongs a_pieceLetters a_song a_settings a_guess a_row a_least a_nights f_latest f_names f_songLong f_guesses f_todo F f_bytes f_typed r r_at r_pieces r_isThere r_pieceLongs r_pieceLetters 1 0 0 f_isThere f_pieceLongs f_pieceLetters hf _ _ hP hD hS _ (lv_sub hl [0] rfl)
def RM_Mo_readsSong : Room := { frames := 2, cells := 0, slots := 0, locals := 47 }
set_option maxHeartbeats 4000000 in
set_option maxRecDepth 100000 in
theorem t_Mo_readsSong_b52 {p : Program} {l : Launch} {e : Env} {s : State} {m : MethodId} {args : Array Value} {below : List Frame} {meth : Method} {c : Code} {D : va_G} {ct : Nat → ClassId} (C : CX p s m args meth c RX11 cX11_readsSong 1 (some .int) D ct) {A : Nat → Prop} (hA : ∀ q : Nat, s.heap.size ≤ q → A q) (a_this a_forms a_sizes a_items a_moved a_bytes a_typed a_chances a_longs a_letters a_isThere a_pieceLongs a_pieceLetters a_song a_settings a_guess a_row a_least a_nights : Nat) (f_latest : Int32) (f_names : Int32) (f_pieces : Int32) (f_guesses : Int32) (f_todo : Int32) (F : Nat) (f_bytes : Nat → Int32) (f_typed : Nat → Int32) (r : Int32) (r_at : Int32) (r_songLong : Int32) (r_song : Nat → Int32) (rec10 : Int32 → Int32 → (Nat → Int32) → Option (Int32 × Int32 × Int32 × (Nat → Int32))) (hr10 : ∀ (f_at : Int32) (f_songLong : Int32) (f_song : Nat → Int32), rec10 f_at f_songLong f_song = some (r, r_at, r_songLong, r_song) → ∀ (H : Heap) (locs : List Loc), va_P D vwCl (w_Mo_readsSong ct a_this a_forms a_sizes a_items a_moved a_bytes a_typed a_chances a_longs a_letters a_isThere a_pieceLongs a_pieceLetters a_song a_settings a_guess a_row a_least a_nights f_latest f_at f_names f_pieces f_songLong f_guesses f_todo f_bytes f_typed f_song) H → va_D A (w_Mo_readsSong ct a_this a_forms a_sizes a_items a_moved a_bytes a_typed a_chances a_longs a_letters a_isThere a_pieceLongs a_pieceLetters a_song a_settings a_guess a_row a_least a_nights f_latest f_at f_names f_pieces f_songLong f_guesses f_todo f_bytes f_typed f_song) → va_S A s.heap H locs → ∀ ls : Array Slot, lv_has ls 1 [(0, .ref a_this)] → W p l e RM_Mo_readsSong s m args below meth c H locs 0 0 (MQ below (QM D (some (.int r)) (w_Mo_readsSong ct a_this a_forms a_sizes a_items a_moved a_bytes a_typed a_chances a_longs a_letters a_isThere a_pieceLongs a_pieceLetters a_song a_settings a_guess a_row a_least a_nights f_latest r_at f_names f_pieces r_songLong f_guesses f_todo f_bytes f_typed r_song) A) args s 0 0 A) (F0 m 10 ls [])) : ∀ (f_at : Int32) (f_songLong : Int32) (f_song : Nat → Int32), Mo_readsSong_b52 F f_bytes f_typed rec10 f_at f_songLong f_song = some (r, r_at, r_songLong, r_song) → ∀ (H : Heap) (locs : List Loc), va_P D vwCl (w_Mo_readsSong ct a_this a_forms a_sizes a_items a_moved a_bytes a_typed a_chances a_longs a_letters a_isThere a_pieceLongs a_pieceLetters a_song a_settings a_guess a_row a_least a_nights f_latest f_at f_names f_pieces f_songLong f_guesses f_todo f_bytes f_typed f_song) H → va_D A (w_Mo_readsSong ct a_this a_forms a_sizes a_items a_moved a_bytes a_typed a_chances a_longs a_letters a_isThere a_pieceLongs a_pieceLetters a_song a_settings a_guess a_row a_least a_nights f_latest f_at f_names f_pieces f_songLong f_guesses f_todo f_bytes f_typed f_song) → va_S A s.heap H locs → ∀ ls : Array Slot, lv_has ls 1 [(0, .ref a_this)] → W p l e RM_Mo_readsSong s m args below meth c H locs 0 0 (MQ below (QM D (some (.int r)) (w_Mo_readsSong ct a_this a_forms a_sizes a_items a_moved a_bytes a_typed a_chances a_longs a_letters a_isThere a_pieceLongs a_pieceLetters a_song a_settings a_guess a_row a_least a_nights f_latest r_at f_names f_pieces r_songLong f_guesses f_todo f_bytes f_typed r_song) A) args s 0 0 A) (F0 m 52 ls []) := by
  obtain ⟨hx, hb, hr, hml, hown, hts, hlk, hK, hN⟩ := id C
  intro f_at f_songLong f_song hf H locs hP hD hS ls hl
  unfold Mo_readsSong_b52 at hf
  refine lv_aload_n hx hb dX11_readsSong_52 rfl (lv_at hl 0 rfl) ?_
  refine va_get (ci := 11) (v := .ref a_song) (C := RX11) (T := TX11) (N := 25) hx hb hts inX11 hown hK hP 0 rfl rfl 17 (by decide) (hts _ tw_962) (fun _ h9 => h9) rfl dX11_readsSong_53 ?_
  refine lv_aload_n hx hb dX11_readsSong_56 rfl (lv_at hl 0 rfl) ?_
  refine va_get (ci := 11) (v := .int f_songLong) (C := RX11) (T := TX11) (N := 25) hx hb hts inX11 hown hK hP 0 rfl rfl 16 (by decide) (hts _ tw_961) (fun _ h9 => h9) rfl dX11_readsSong_57 ?_
  refine lv_aload_n hx hb dX11_readsSong_60 rfl (lv_at hl 0 rfl) ?_
  refine lv_iconst (v := 2) hx hb dX11_readsSong_61 (by decide) ?_
  obtain ⟨v62, hc62, hf⟩ := cb1_some hf
  refine kcRV (q0 := 0) (ci := 11) (As := [.int 2]) (rest := [.int f_songLong, .ref a_song]) (st1 := [.int v62, .int f_songLong, .ref a_song]) C (c_Mo_letter l D ct a_this a_forms a_sizes a_items a_moved a_bytes a_typed a_chances a_longs a_letters a_isThere a_pieceLongs a_pieceLetters a_song a_settings a_guess a_row a_least a_nights f_latest f_names f_pieces f_songLong f_guesses f_todo f_at f_bytes f_typed 2 v62 hc62) ⟨rfl, rfl⟩ yn_yX11_letter tw_1100 tw_31 tw_1098 ⟨Nat.le_of_ble_eq_true rfl, Nat.le_of_ble_eq_true rfl⟩ ⟨Nat.zero_le _, Nat.zero_le _⟩ hP [0, 1, 2] rfl rfl rfl rfl hl.1 rfl rfl (Nat.le_of_ble_eq_true rfl) dX11_readsSong_62 rfl ?_
  obtain ⟨hin, f_song_65, ev65, hf⟩ := wr_ex hf
  refine kiast hx hb hK hP hD hS 3 0 rfl rfl hin ev65 dX11_readsSong_65 (fun H locs hP hD hS => ?_)
  have hP : va_P D vwCl (w_Mo_readsSong ct a_this a_forms a_sizes a_items a_moved a_bytes a_typed a_chances a_longs a_letters a_isThere a_pieceLongs a_pieceLetters a_song a_settings a_guess a_row a_least a_nights f_latest f_at f_names f_pieces f_songLong f_guesses f_todo f_bytes f_typed f_song_65) H := hP
  have hD : va_D A (w_Mo_readsSong ct a_this a_forms a_sizes a_items a_moved a_bytes a_typed a_chances a_longs a_letters a_isThere a_pieceLongs a_pieceLetters a_song a_settings a_guess a_row a_least a_nights f_latest f_at f_names f_pieces f_songLong f_guesses f_todo f_bytes f_typed f_song_65) := hD
  refine lv_aload_n hx hb dX11_readsSong_66 rfl (lv_at hl 0 rfl) ?_
  refine lv_dup hx hb dX11_readsSong_67 rfl ?_
  refine va_get (ci := 11) (v := .int f_songLong) (C := RX11) (T := TX11) (N := 25) hx hb hts inX11 hown hK hP 0 rfl rfl 16 (by decide) (hts _ tw_961) (fun _ h9 => h9) rfl dX11_readsSong_68 ?_
  refine lv_iconst (v := 1) hx hb dX11_readsSong_71 (by decide) ?_
  refine lv_iadd hx hb dX11_readsSong_72 ?_
  refine va_put (ci := 11) (v := .int (f_songLong + 1)) (ty := .int) (C := RX11) (T := TX11) (N := 25) hx hb hts inX11 tyX11 tyX11_ok nmX11 hown hK hP hD hS 0 rfl rfl 16 (by decide) (hts _ tw_961) (fun _ h9 => h9) rfl (tyX11_ok 16 (by decide)) rfl rfl (Nat.le_of_ble_eq_true rfl) dX11_readsSong_73 (fun H locs hP hD hS => ?_)
  have hP : va_P D vwCl (w_Mo_readsSong ct a_this a_forms a_sizes a_items a_moved a_bytes a_typed a_chances a_longs a_letters a_isThere a_pieceLongs a_pieceLetters a_song a_settings a_guess a_row a_least a_nights f_latest f_at f_names f_pieces (f_songLong + 1) f_guesses f_todo f_bytes f_typed f_song_65) H := hP
  have hD : va_D A (w_Mo_readsSong ct a_this a_forms a_sizes a_items a_moved a_bytes a_typed a_chances a_longs a_letters a_isThere a_pieceLongs a_pieceLetters a_song a_settings a_guess a_row a_least a_nights f_latest f_at f_names f_pieces (f_songLong + 1) f_guesses f_todo f_bytes f_typed f_song_65) := hD
  refine lv_aload_n hx hb dX11_readsSong_76 rfl (lv_at hl 0 rfl) ?_
  refine lv_dup hx hb dX11_readsSong_77 rfl ?_
  refine va_get (ci := 11) (v := .int f_at) (C := RX11) (T := TX11) (N := 25) hx hb hts inX11 hown hK hP 0 rfl rfl 7 (by decide) (hts _ tw_952) (fun _ h9 => h9) rfl dX11_readsSong_78 ?_
  refine lv_iconst (v := 1) hx hb dX11_readsSong_81 (by decide) ?_
  refine lv_iadd hx hb dX11_readsSong_82 ?_
  refine va_put (ci := 11) (v := .int (f_at + 1)) (ty := .int) (C := RX11) (T := TX11) (N := 25) hx hb hts inX11 tyX11 tyX11_ok nmX11 hown hK hP hD hS 0 rfl rfl 7 (by decide) (hts _ tw_952) (fun _ h9 => h9) rfl (tyX11_ok 7 (by decide)) rfl rfl (Nat.le_of_ble_eq_true rfl) dX11_readsSong_83 (fun H locs hP hD hS => ?_)
  have hP : va_P D vwCl (w_Mo_readsSong ct a_this a_forms a_sizes a_items a_moved a_bytes a_typed a_chances a_longs a_letters a_isThere a_pieceLongs a_pieceLetters a_song a_settings a_guess a_row a_least a_nights f_latest (f_at + 1) f_names f_pieces (f_songLong + 1) f_guesses f_todo f_bytes f_typed f_song_65) H := hP
  have hD : va_D A (w_Mo_readsSong ct a_this a_forms a_sizes a_items a_moved a_bytes a_typed a_chances a_longs a_letters a_isThere a_pieceLongs a_pieceLetters a_song a_settings a_guess a_row a_least a_nights f_latest (f_at + 1) f_names f_pieces (f_songLong + 1) f_guesses f_todo f_bytes f_typed f_song_65) := hD
  refine lv_goto (tgt := 10) hx hb dX11_readsSong_86 (by decide) ?_
  exact hr10 (f_at + 1) (f_songLong + 1) f_song_65 hf _ _ hP hD hS _ (lv_sub hl [0] rfl)
set_option maxHeartbeats 4000000 in
set_option maxRecDepth 100000 in
theorem t_Mo_readsSong_b42 {p : Program} {l : Launch} {e : Env} {s : State} {m : MethodId} {args : Array Value} {below : List Frame} {meth : Method} {c : Code} {D : va_G} {ct : Nat → ClassId} (C : CX p s m args meth c RX11 cX11_readsSong 1 (some .int) D ct) {A : Nat → Prop} (hA : ∀ q : Nat, s.heap.size ≤ q → A q) (a_this a_forms a_sizes a_items a_moved a_bytes a_typed a_chances a_longs a_letters a_isThere a_pieceLongs a_pieceLetters a_song a_settings a_guess a_row a_least a_nights : Nat) (f_latest : Int32) (f_names : Int32) (f_pieces : Int32) (f_guesses : Int32) (f_todo : Int32) (F : Nat) (f_bytes : Nat → Int32) (f_typed : Nat → Int32) (r : Int32) (r_at : Int32) (r_songLong : Int32) (r_song : Nat → Int32) : ∀ (f_at : Int32) (f_songLong : Int32) (f_song : Nat → Int32), Mo_readsSong_b42 F f_bytes f_typed f_at f_songLong f_song = some (r, r_at, r_songLong, r_song) → ∀ (H : Heap) (locs : List Loc), va_P D vwCl (w_Mo_readsSong ct a_this a_forms a_sizes a_items a_moved a_bytes a_typed a_chances a_longs a_letters a_isThere a_pieceLongs a_pieceLetters a_song a_settings a_guess a_row a_least a_nights f_latest f_at f_names f_pieces f_songLong f_guesses f_todo f_bytes f_typed f_song) H → va_D A (w_Mo_readsSong ct a_this a_forms a_sizes a_items a_moved a_bytes a_typed a_chances a_longs a_letters a_isThere a_pieceLongs a_pieceLetters a_song a_settings a_guess a_row a_least a_nights f_latest f_at f_names f_pieces f_songLong f_guesses f_todo f_bytes f_typed f_song) → va_S A s.heap H locs → ∀ ls : Array Slot, lv_has ls 1 [(0, .ref a_this)] → W p l e RM_Mo_readsSong s m args below meth c H locs 0 0 (MQ below (QM D (some (.int r)) (w_Mo_readsSong ct a_this a_forms a_sizes a_items a_moved a_bytes a_typed a_chances a_longs a_letters a_isThere a_pieceLongs a_pieceLetters a_song a_settings a_guess a_row a_least a_nights f_latest r_at f_names f_pieces r_songLong f_guesses f_todo f_bytes f_typed r_song) A) args s 0 0 A) (F0 m 42 ls []) := by
  obtain ⟨hx, hb, hr, hml, hown, hts, hlk, hK, hN⟩ := id C
  intro f_at f_songLong f_song hf H locs hP hD hS ls hl
  unfold Mo_readsSong_b42 at hf
  refine lv_aload_n hx hb dX11_readsSong_42 rfl (lv_at hl 0 rfl) ?_
  refine lv_iconst (v := 0) hx hb dX11_readsSong_43 (by decide) ?_
  refine va_put (ci := 11) (v := .int 0) (ty := .int) (C := RX11) (T := TX11) (N := 25) hx hb hts inX11 tyX11 tyX11_ok nmX11 hown hK hP hD hS 0 rfl rfl 16 (by decide) (hts _ tw_961) (fun _ h9 => h9) rfl (tyX11_ok 16 (by decide)) rfl rfl (Nat.le_of_ble_eq_true rfl) dX11_readsSong_44 (fun H locs hP hD hS => ?_)
  have hP : va_P D vwCl (w_Mo_readsSong ct a_this a_forms a_sizes a_items a_moved a_bytes a_typed a_chances a_longs a_letters a_isThere a_pieceLongs a_pieceLetters a_song a_settings a_guess a_row a_least a_nights f_latest f_at f_names f_pieces 0 f_guesses f_todo f_bytes f_typed f_song) H := hP
  have hD : va_D A (w_Mo_readsSong ct a_this a_forms a_sizes a_items a_moved a_bytes a_typed a_chances a_longs a_letters a_isThere a_pieceLongs a_pieceLetters a_song a_settings a_guess a_row a_least a_nights f_latest f_at f_names f_pieces 0 f_guesses f_todo f_bytes f_typed f_song) := hD
  refine lv_aload_n hx hb dX11_readsSong_47 rfl (lv_at hl 0 rfl) ?_
  refine va_get (ci := 11) (v := .int f_at) (C := RX11) (T := TX11) (N := 25) hx hb hts inX11 hown hK hP 0 rfl rfl 7 (by decide) (hts _ tw_952) (fun _ h9 => h9) rfl dX11_readsSong_48 ?_
  obtain ⟨e1, e2, e3, e4⟩ := ti4 hf
  subst e1; subst e2; subst e3; subst e4
  exact kretM C hP hD hS dX11_readsSong_51
set_option maxHeartbeats 4000000 in
set_option maxRecDepth 100000 in
theorem t_Mo_readsSong_b10 {p : Program} {l : Launch} {e : Env} {s : State} {m : MethodId} {args : Array Value} {below : List Frame} {meth : Method} {c : Code} {D : va_G} {ct : Nat → ClassId} (C : CX p s m args meth c RX11 cX11_readsSong 1 (some .int) D ct) {A : Nat → Prop} (hA : ∀ q : Nat, s.heap.size ≤ q → A q) (a_this a_forms a_sizes a_items a_moved a_bytes a_typed a_chances a_longs a_letters a_isThere a_pieceLongs a_pieceLetters a_song a_settings a_guess a_row a_least a_nights : Nat) (f_latest : Int32) (f_names : Int32) (f_pieces : Int32) (f_guesses : Int32) (f_todo : Int32) (F : Nat) (f_bytes : Nat → Int32) (f_typed : Nat → Int32) (r : Int32) (r_at : Int32) (r_songLong : Int32) (r_song : Nat → Int32) (rec10 : Int32 → Int32 → (Nat → Int32) → Option (Int32 × Int32 × Int32 × (Nat → Int32))) (hr10 : ∀ (f_at : Int32) (f_songLong : Int32) (f_song : Nat → Int32), rec10 f_at f_songLong f_song = some (r, r_at, r_songLong, r_song) → ∀ (H : Heap) (locs : List Loc), va_P D vwCl (w_Mo_readsSong ct a_this a_forms a_sizes a_items a_moved a_bytes a_typed a_chances a_longs a_letters a_isThere a_pieceLongs a_pieceLetters a_song a_settings a_guess a_row a_least a_nights f_latest f_at f_names f_pieces f_songLong f_guesses f_todo f_bytes f_typed f_song) H → va_D A (w_Mo_readsSong ct a_this a_forms a_sizes a_items a_moved a_bytes a_typed a_chances a_longs a_letters a_isThere a_pieceLongs a_pieceLetters a_song a_settings a_guess a_row a_least a_nights f_latest f_at f_names f_pieces f_songLong f_guesses f_todo f_bytes f_typed f_song) → va_S A s.heap H locs → ∀ ls : Array Slot, lv_has ls 1 [(0, .ref a_this)] → W p l e RM_Mo_readsSong s m args below meth c H locs 0 0 (MQ below (QM D (some (.int r)) (w_Mo_readsSong ct a_this a_forms a_sizes a_items a_moved a_bytes a_typed a_chances a_longs a_letters a_isThere a_pieceLongs a_pieceLetters a_song a_settings a_guess a_row a_least a_nights f_latest r_at f_names f_pieces r_songLong f_guesses f_todo f_bytes f_typed r_song) A) args s 0 0 A) (F0 m 10 ls [])) : ∀ (f_at : Int32) (f_songLong : Int32) (f_song : Nat → Int32), Mo_readsSong_b10 F f_bytes f_typed rec10 f_at f_songLong f_song = some (r, r_at, r_songLong, r_song) → ∀ (H : Heap) (locs : List Loc), va_P D vwCl (w_Mo_readsSong ct a_this a_forms a_sizes a_items a_moved a_bytes a_typed a_chances a_longs a_letters a_isThere a_pieceLongs a_pieceLetters a_song a_settings a_guess a_row a_least a_nights f_latest f_at f_names f_pieces f_songLong f_guesses f_todo f_bytes f_typed f_song) H → va_D A (w_Mo_readsSong ct a_this a_forms a_sizes a_items a_moved a_bytes a_typed a_chances a_longs a_letters a_isThere a_pieceLongs a_pieceLetters a_song a_settings a_guess a_row a_least a_nights f_latest f_at f_names f_pieces f_songLong f_guesses f_todo f_bytes f_typed f_song) → va_S A s.heap H locs → ∀ ls : Array Slot, lv_has ls 1 [(0, .ref a_this)] → W p l e RM_Mo_readsSong s m args below meth c H locs 0 0 (MQ below (QM D (some (.int r)) (w_Mo_readsSong ct a_this a_forms a_sizes a_items a_moved a_bytes a_typed a_chances a_longs a_letters a_isThere a_pieceLongs a_pieceLetters a_song a_settings a_guess a_row a_least a_nights f_latest r_at f_names f_pieces r_songLong f_guesses f_todo f_bytes f_typed r_song) A) args s 0 0 A) (F0 m 10 ls []) := by
  obtain ⟨hx, hb, hr, hml, hown, hts, hlk, hK, hN⟩ := id C
  intro f_at f_songLong f_song hf H locs hP hD hS ls hl
  unfold Mo_readsSong_b10 at hf
  refine lv_aload_n hx hb dX11_readsSong_10 rfl (lv_at hl 0 rfl) ?_
  refine va_get (ci := 11) (v := .int f_at) (C := RX11) (T := TX11) (N := 25) hx hb hts inX11 hown hK hP 0 rfl rfl 7 (by decide) (hts _ tw_952) (fun _ h9 => h9) rfl dX11_readsSong_11 ?_
  refine lv_aload_n hx hb dX11_readsSong_14 rfl (lv_at hl 0 rfl) ?_
  refine va_get (ci := 11) (v := .ref a_typed) (C := RX11) (T := TX11) (N := 25) hx hb hts inX11 hown hK hP 0 rfl rfl 6 (by decide) (hts _ tw_951) (fun _ h9 => h9) rfl dX11_readsSong_15 ?_
  refine lv_iconst (v := 2) hx hb dX11_readsSong_18 (by decide) ?_
  obtain ⟨hin, hf⟩ := rd_some hf
  generalize ev19 : f_typed (Int32.toNatClampNeg 2) = v19 at hf
  refine kiald hx hb hK hP 2 0 rfl rfl hin ev19 dX11_readsSong_19 ?_
  refine lv_icmp_ge (tgt := 89) hx hb dX11_readsSong_20 (by decide) (fun hc => ?_) (fun hc => ?_)
  · have hf := kpos hc hf
    refine lv_iconst (v := (-1)) hx hb dX11_readsSong_89 (by decide) ?_
    obtain ⟨e1, e2, e3, e4⟩ := ti4 hf
    subst e1; subst e2; subst e3; subst e4
    exact kretM C hP hD hS dX11_readsSong_90
  · have hf := kneg hc hf
    refine lv_aload_n hx hb dX11_readsSong_23 rfl (lv_at hl 0 rfl) ?_
    refine lv_iconst (v := 2) hx hb dX11_readsSong_24 (by decide) ?_
    obtain ⟨v25, hc25, hf⟩ := cb1_some hf
    refine kcRV (q0 := 0) (ci := 11) (As := [.int 2]) (rest := []) (st1 := [.int v25]) C (c_Mo_letter l D ct a_this a_forms a_sizes a_items a_moved a_bytes a_typed a_chances a_longs a_letters a_isThere a_pieceLongs a_pieceLetters a_song a_settings a_guess a_row a_least a_nights f_latest f_names f_pieces f_songLong f_guesses f_todo f_at f_bytes f_typed 2 v25 hc25) ⟨rfl, rfl⟩ yn_yX11_letter tw_1100 tw_31 tw_1098 ⟨Nat.le_of_ble_eq_true rfl, Nat.le_of_ble_eq_true rfl⟩ ⟨Nat.zero_le _, Nat.zero_le _⟩ hP [0, 1, 2] rfl rfl rfl rfl hl.1 rfl rfl (Nat.le_of_ble_eq_true rfl) dX11_readsSong_25 rfl ?_
    refine lv_iconst (v := (-1)) hx hb dX11_readsSong_28 (by decide) ?_
    refine lv_icmp_ne (tgt := 52) hx hb dX11_readsSong_29 (by decide) (fun hc => ?_) (fun hc => ?_)
    · have hf := kneg hc hf
      exact t_Mo_readsSong_b52 C hA a_this a_forms a_sizes a_items a_moved a_bytes a_typed a_chances a_longs a_letters a_isThere a_pieceLongs a_pieceLetters a_song a_settings a_guess a_row a_least a_nights f_latest f_names f_pieces f_guesses f_todo F f_bytes f_typed r r_at r_songLong r_song rec10 hr10 f_at f_songLong f_song hf _ _ hP hD hS _ (lv_sub hl [0] rfl)
    · have hf := kpos hc hf
      refine lv_aload_n hx hb dX11_readsSong_32 rfl (lv_at hl 0 rfl) ?_
      refine lv_iconst (v := 2) hx hb dX11_readsSong_33 (by decide) ?_
      obtain ⟨v34, hc34, hf⟩ := cb1_some hf
      refine kcRV (q0 := 0) (ci := 11) (As := [.int 2]) (rest := []) (st1 := [.int v34]) C (c_Mo_here l D ct a_this a_forms a_sizes a_items a_moved a_bytes a_typed a_chances a_longs a_letters a_isThere a_pieceLongs a_pieceLetters a_song a_settings a_guess a_row a_least a_nights f_latest f_names f_pieces f_songLong f_guesses f_todo f_at f_bytes f_typed 2 v34 hc34) ⟨rfl, rfl⟩ yn_yX11_here tw_1095 tw_30 tw_1093 ⟨Nat.le_of_ble_eq_true rfl, Nat.le_of_ble_eq_true rfl⟩ ⟨Nat.zero_le _, Nat.zero_le _⟩ hP [0, 1, 2] rfl rfl rfl rfl hl.1 rfl rfl (Nat.le_of_ble_eq_true rfl) dX11_readsSong_34 rfl ?_
      refine lv_bipush (v := 46) hx hb dX11_readsSong_37 (by decide) ?_
      refine lv_icmp_eq (tgt := 52) hx hb dX11_readsSong_39 (by decide) (fun hc => ?_) (fun hc => ?_)
      · have hf := kpos hc hf
        exact t_Mo_readsSong_b52 C hA a_this a_forms a_sizes a_items a_moved a_bytes a_typed a_chances a_longs a_letters a_isThere a_pieceLongs a_pieceLetters a_song a_settings a_guess a_row a_least a_nights f_latest f_names f_pieces f_guesses f_todo F f_bytes f_typed r r_at r_songLong r_song rec10 hr10 f_at f_songLong f_song hf _ _ hP hD hS _ (lv_sub hl [0] rfl)
      · have hf := kneg hc hf
        exact t_Mo_readsSong_b42 C hA a_this a_forms a_sizes a_items a_moved a_bytes a_typed a_chances a_longs a_letters a_isThere a_pieceLongs a_pieceLetters a_song a_settings a_guess a_row a_least a_nights f_latest f_names f_pieces f_guesses f_todo F f_bytes f_typed r r_at r_songLong r_song f_at f_songLong f_song hf _ _ hP hD hS _ (lv_sub hl [0] rfl)
set_option maxHeartbeats 4000000 in
set_option maxRecDepth 100000 in
theorem t_Mo_readsSong_l10 {p : Program} {l : Launch} {e : Env} {s : State} {m : MethodId} {args : Array Value} {below : List Frame} {meth : Method} {c : Code} {D : va_G} {ct : Nat → ClassId} (C : CX p s m args meth c RX11 cX11_readsSong 1 (some .int) D ct) {A : Nat → Prop} (hA : ∀ q : Nat, s.heap.size ≤ q → A q) (a_this a_forms a_sizes a_items a_moved a_bytes a_typed a_chances a_longs a_letters a_isThere a_pieceLongs a_pieceLetters a_song a_settings a_guess a_row a_least a_nights : Nat) (f_latest : Int32) (f_names : Int32) (f_pieces : Int32) (f_guesses : Int32) (f_todo : Int32) (F : Nat) (f_bytes : Nat → Int32) (f_typed : Nat → Int32) (r : Int32) (r_at : Int32) (r_songLong : Int32) (r_song : Nat → Int32) : ∀ (n : Nat) (f_at : Int32) (f_songLong : Int32) (f_song : Nat → Int32), Mo_readsSong_l10 F f_bytes f_typed n f_at f_songLong f_song = some (r, r_at, r_songLong, r_song) → ∀ (H : Heap) (locs : List Loc), va_P D vwCl (w_Mo_readsSong ct a_this a_forms a_sizes a_items a_moved a_bytes a_typed a_chances a_longs a_letters a_isThere a_pieceLongs a_pieceLetters a_song a_settings a_guess a_row a_least a_nights f_latest f_at f_names f_pieces f_songLong f_guesses f_todo f_bytes f_typed f_song) H → va_D A (w_Mo_readsSong ct a_this a_forms a_sizes a_items a_moved a_bytes a_typed a_chances a_longs a_letters a_isThere a_pieceLongs a_pieceLetters a_song a_settings a_guess a_row a_least a_nights f_latest f_at f_names f_pieces f_songLong f_guesses f_todo f_bytes f_typed f_song) → va_S A s.heap H locs → ∀ ls : Array Slot, lv_has ls 1 [(0, .ref a_this)] → W p l e RM_Mo_readsSong s m args below meth c H locs 0 0 (MQ below (QM D (some (.int r)) (w_Mo_readsSong ct a_this a_forms a_sizes a_items a_moved a_bytes a_typed a_chances a_longs a_letters a_isThere a_pieceLongs a_pieceLetters a_song a_settings a_guess a_row a_least a_nights f_latest r_at f_names f_pieces r_songLong f_guesses f_todo f_bytes f_typed r_song) A) args s 0 0 A) (F0 m 10 ls []) := by
  intro n
  induction n with
  | zero =>
    intro f_at f_songLong f_song hf
    exact absurd hf (by simp [Mo_readsSong_l10])
  | succ n ih =>
    intro f_at f_songLong f_song hf
    exact t_Mo_readsSong_b10 C hA a_this a_forms a_sizes a_items a_moved a_bytes a_typed a_chances a_longs a_letters a_isThere a_pieceLongs a_pieceLetters a_song a_settings a_guess a_row a_least a_nights f_latest f_names f_pieces f_guesses f_todo F f_bytes f_typed r r_at r_songLong r_song (Mo_readsSong_l10 F f_bytes f_typed n) ih f_at f_songLong f_song hf
set_option maxHeartbeats 4000000 in
set_option maxRecDepth 100000 in
theorem c_Mo_readsSong (l : Launch) (D : va_G) (ct : Nat → ClassId) (a_this a_forms a_sizes a_items a_moved a_bytes a_typed a_chances a_longs a_letters a_isThere a_pieceLongs a_pieceLetters a_song a_settings a_guess a_row a_least a_nights : Nat) (f_latest : Int32) (f_names : Int32) (f_pieces : Int32) (f_guesses : Int32) (f_todo : Int32) (F : Nat) (f_bytes : Nat → Int32) (f_typed : Nat → Int32) (f_at : Int32) (f_songLong : Int32) (f_song : Nat → Int32) (r : Int32) (r_at : Int32) (r_songLong : Int32) (r_song : Nat → Int32) (sz : Nat) (hf : Mo_readsSong F f_bytes f_typed f_at f_songLong f_song = some (r, r_at, r_songLong, r_song)) : Met l yX11_readsSong (WS yX11_readsSong cX11_readsSong 1 (some .int)) RM_Mo_readsSong (va_Pc [.ref a_this] (PM D ct sz (w_Mo_readsSong ct a_this a_forms a_sizes a_items a_moved a_bytes a_typed a_chances a_longs a_letters a_isThere a_pieceLongs a_pieceLetters a_song a_settings a_guess a_row a_least a_nights f_latest f_at f_names f_pieces f_songLong f_guesses f_todo f_bytes f_typed f_song))) (QM D (some (.int r)) (w_Mo_readsSong ct a_this a_forms a_sizes a_items a_moved a_bytes a_typed a_chances a_longs a_letters a_isThere a_pieceLongs a_pieceLetters a_song a_settings a_guess a_row a_least a_nights f_latest r_at f_names f_pieces r_songLong f_guesses f_todo f_bytes f_typed r_song) (va_A (w_Mo_readsSong ct a_this a_forms a_sizes a_items a_moved a_bytes a_typed a_chances a_longs a_letters a_isThere a_pieceLongs a_pieceLetters a_song a_settings a_guess a_row a_least a_nights f_latest f_at f_names f_pieces f_songLong f_guesses f_todo f_bytes f_typed f_song) sz)) 0 0 (va_A (w_Mo_readsSong ct a_this a_forms a_sizes a_items a_moved a_bytes a_typed a_chances a_longs a_letters a_isThere a_pieceLongs a_pieceLetters a_song a_settings a_guess a_row a_least a_nights f_latest f_at f_names f_pieces f_songLong f_guesses f_todo f_bytes f_typed f_song) sz) := by
  refine kMetM yn_yX11_readsSong rfl (Nat.le_of_ble_eq_true rfl) ?_
  intro p e s m args below meth c A C hA hP hD ls hl
  have hl : lv_has ls 1 [(0, .ref a_this)] := hl
  have hS : va_S A s.heap s.heap [] := va_S.rf
  obtain ⟨hx, hb, hr, hml, hown, hts, hlk, hK, hN⟩ := id C
  unfold Mo_readsSong at hf
  refine lv_aload_n hx hb dX11_readsSong_0 rfl (lv_at hl 0 rfl) ?_
  refine lv_iconst (v := 0) hx hb dX11_readsSong_1 (by decide) ?_
  refine va_put (ci := 11) (v := .int 0) (ty := .int) (C := RX11) (T := TX11) (N := 25) hx hb hts inX11 tyX11 tyX11_ok nmX11 hown hK hP hD hS 0 rfl rfl 16 (by decide) (hts _ tw_961) (fun _ h9 => h9) rfl (tyX11_ok 16 (by decide)) rfl rfl (Nat.le_of_ble_eq_true rfl) dX11_readsSong_2 (fun H locs hP hD hS => ?_)
  have hP : va_P D vwCl (w_Mo_readsSong ct a_this a_forms a_sizes a_items a_moved a_bytes a_typed a_chances a_longs a_letters a_isThere a_pieceLongs a_pieceLetters a_song a_settings a_guess a_row a_least a_nights f_latest f_at f_names f_pieces 0 f_guesses f_todo f_bytes f_typed f_song) H := hP
  have hD : va_D A (w_Mo_readsSong ct a_this a_forms a_sizes a_items a_moved a_bytes a_typed a_chances a_longs a_letters a_isThere a_pieceLongs a_pieceLetters a_song a_settings a_guess a_row a_least a_nights f_latest f_at f_names f_pieces 0 f_guesses f_todo f_bytes f_typed f_song) := hD
  refine lv_aload_n hx hb dX11_readsSong_5 rfl (lv_at hl 0 rfl) ?_
  refine lv_iconst (v := 0) hx hb dX11_readsSong_6 (by decide) ?_
  refine va_put (ci := 11) (v := .int 0) (ty := .int) (C := RX11) (T := TX11) (N := 25) hx hb hts inX11 tyX11 tyX11_ok nmX11 hown hK hP hD hS 0 rfl rfl 7 (by decide) (hts _ tw_952) (fun _ h9 => h9) rfl (tyX11_ok 7 (by decide)) rfl rfl (Nat.le_of_ble_eq_true rfl) dX11_readsSong_7 (fun H locs hP hD hS => ?_)
  have hP : va_P D vwCl (w_Mo_readsSong ct a_this a_forms a_sizes a_items a_moved a_bytes a_typed a_chances a_longs a_letters a_isThere a_pieceLongs a_pieceLetters a_song a_settings a_guess a_row a_least a_nights f_latest 0 f_names f_pieces 0 f_guesses f_todo f_bytes f_typed f_song) H := hP
  have hD : va_D A (w_Mo_readsSong ct a_this a_forms a_sizes a_items a_moved a_bytes a_typed a_chances a_longs a_letters a_isThere a_pieceLongs a_pieceLetters a_song a_settings a_guess a_row a_least a_nights f_latest 0 f_names f_pieces 0 f_guesses f_todo f_bytes f_typed f_song) := hD
  exact t_Mo_readsSong_l10 C hA a_this a_forms a_sizes a_items a_moved a_bytes a_typed a_chances a_longs a_letters a_isThere a_pieceLongs a_pieceLetters a_song a_settings a_guess a_row a_least a_nights f_latest f_names f_pieces f_guesses f_todo F f_bytes f_typed r r_at r_songLong r_song F 0 0 f_song hf _ _ hP hD hS _ (lv_sub hl [0] rfl)
def RM_Mo_reads : Room := { frames := 4, cells := 0, slots := 0, locals := 91 }
set_option maxHeartbeats 4000000 in
set_option maxRecDepth 100000 in
theorem c_Mo_reads (l : Launch) (D : va_G) (ct : Nat → ClassId) (a_this a_forms a_sizes a_items a_moved a_bytes a_typed a_chances a_longs a_letters a_isThere a_pieceLongs a_pieceLetters a_song a_settings a_guess a_row a_least a_nights : Nat) (f_latest : Int32) (f_guesses : Int32) (f_todo : Int32) (F : Nat) (f_bytes : Nat → Int32) (f_typed : Nat → Int32) (f_at : Int32) (f_names : Int32) (f_pieces : Int32) (f_songLong : Int32) (f_chances : Nat → Int32) (f_longs : Nat → Int32) (f_letters : Nat → Int32) (f_isThere : Nat → Int32) (f_pieceLongs : Nat → Int32) (f_pieceLetters : Nat → Int32) (f_song : Nat → Int32) (r_at : Int32) (r_names : Int32) (r_pieces : Int32) (r_songLong : Int32) (r_chances : Nat → Int32) (r_longs : Nat → Int32) (r_letters : Nat → Int32) (r_isThere : Nat → Int32) (r_pieceLongs : Nat → Int32) (r_pieceLetters : Nat → Int32) (r_song : Nat → Int32) (sz : Nat) (hf : Mo_reads F f_bytes f_typed f_at f_names f_pieces f_songLong f_chances f_longs f_letters f_isThere f_pieceLongs f_pieceLetters f_song = some (r_at, r_names, r_pieces, r_songLong, r_chances, r_longs, r_letters, r_isThere, r_pieceLongs, r_pieceLetters, r_song)) : Met l yX11_reads (WS yX11_reads cX11_reads 1 none) RM_Mo_reads (va_Pc [.ref a_this] (PM D ct sz (w_Mo_reads ct a_this a_forms a_sizes a_items a_moved a_bytes a_typed a_chances a_longs a_letters a_isThere a_pieceLongs a_pieceLetters a_song a_settings a_guess a_row a_least a_nights f_latest f_at f_names f_pieces f_songLong f_guesses f_todo f_bytes f_typed f_chances f_longs f_letters f_isThere f_pieceLongs f_pieceLetters f_song))) (QM D none (w_Mo_reads ct a_this a_forms a_sizes a_items a_moved a_bytes a_typed a_chances a_longs a_letters a_isThere a_pieceLongs a_pieceLetters a_song a_settings a_guess a_row a_least a_nights f_latest r_at r_names r_pieces r_songLong f_guesses f_todo f_bytes f_typed r_chances r_longs r_letters r_isThere r_pieceLongs r_pieceLetters r_song) (va_A (w_Mo_reads ct a_this a_forms a_sizes a_items a_moved a_bytes a_typed a_chances a_longs a_letters a_isThere a_pieceLongs a_pieceLetters a_song a_settings a_guess a_row a_least a_nights f_latest f_at f_names f_pieces f_songLong f_guesses f_todo f_bytes f_typed f_chances f_longs f_letters f_isThere f_pieceLongs f_pieceLetters f_song) sz)) 0 0 (va_A (w_Mo_reads ct a_this a_forms a_sizes a_items a_moved a_bytes a_typed a_chances a_longs a_letters a_isThere a_pieceLongs a_pieceLetters a_song a_settings a_guess a_row a_least a_nights f_latest f_at f_names f_pieces f_songLong f_guesses f_todo f_bytes f_typed f_chances f_longs f_letters f_isThere f_pieceLongs f_pieceLetters f_song) sz) := by
  refine kMetM yn_yX11_reads rfl (Nat.le_of_ble_eq_true rfl) ?_
  intro p e s m args below meth c A C hA hP hD ls hl
  have hl : lv_has ls 1 [(0, .ref a_this)] := hl
  have hS : va_S A s.heap s.heap [] := va_S.rf
  obtain ⟨hx, hb, hr, hml, hown, hts, hlk, hK, hN⟩ := id C
  unfold Mo_reads at hf
  refine lv_aload_n hx hb dX11_reads_0 rfl (lv_at hl 0 rfl) ?_
  obtain ⟨v1, f_at_1, f_names_1, f_chances_1, f_longs_1, f_letters_1, hc1, hf⟩ := cb6_some hf
  refine kcMV (q0 := 0) (ci := 11) (As := []) (rest := []) (st1 := [.int v1]) (wf := (w_Mo_reads ct a_this a_forms a_sizes a_items a_moved a_bytes a_typed a_chances a_longs a_letters a_isThere a_pieceLongs a_pieceLetters a_song a_settings a_guess a_row a_least a_nights f_latest f_at_1 f_names_1 f_pieces f_songLong f_guesses f_todo f_bytes f_typed f_chances_1 f_longs_1 f_letters_1 f_isThere f_pieceLongs f_pieceLetters f_song)) C (c_Mo_readsNames l D ct a_this a_forms a_sizes a_items a_moved a_bytes a_typed a_chances a_longs a_letters a_isThere a_pieceLongs a_pieceLetters a_song a_settings a_guess a_row a_least a_nights f_latest f_pieces f_songLong f_guesses f_todo F f_bytes f_typed f_at f_names f_chances f_longs f_letters v1 f_at_1 f_names_1 f_chances_1 f_longs_1 f_letters_1 _ hc1) ⟨rfl, rfl⟩ yn_yX11_readsNames tw_1087 tw_28 tw_1085 ⟨Nat.le_of_ble_eq_true rfl, Nat.le_of_ble_eq_true rfl⟩ ⟨Nat.zero_le _, Nat.zero_le _⟩ hP hD hS hA [0, 1, 2, 3, 4, 5] [6, 7, 8, 9] [4, 5, 6, 7, 8, 9, 0, 1, 2, 3] rfl rfl rfl rfl rfl (by decide) rfl rfl rfl rfl rfl rfl hl.1 rfl rfl (Nat.le_of_ble_eq_true rfl) dX11_reads_1 rfl (fun H locs hP hD hS => ?_)
  refine lv_pop hx hb dX11_reads_4 rfl ?_
  refine lv_aload_n hx hb dX11_reads_5 rfl (lv_at hl 0 rfl) ?_
  obtain ⟨v6, f_at_6, f_pieces_6, f_isThere_6, f_pieceLongs_6, f_pieceLetters_6, hc6, hf⟩ := cb6_some hf
  refine kcMV (q0 := 0) (ci := 11) (As := []) (rest := []) (st1 := [.int v6]) (wf := (w_Mo_reads ct a_this a_forms a_sizes a_items a_moved a_bytes a_typed a_chances a_longs a_letters a_isThere a_pieceLongs a_pieceLetters a_song a_settings a_guess a_row a_least a_nights f_latest f_at_6 f_names_1 f_pieces_6 f_songLong f_guesses f_todo f_bytes f_typed f_chances_1 f_longs_1 f_letters_1 f_isThere_6 f_pieceLongs_6 f_pieceLetters_6 f_song)) C (c_Mo_readsPieces l D ct a_this a_forms a_sizes a_items a_moved a_bytes a_typed a_chances a_longs a_letters a_isThere a_pieceLongs a_pieceLetters a_song a_settings a_guess a_row a_least a_nights f_latest f_names_1 f_songLong f_guesses f_todo F f_bytes f_typed f_at_1 f_pieces f_isThere f_pieceLongs f_pieceLetters v6 f_at_6 f_pieces_6 f_isThere_6 f_pieceLongs_6 f_pieceLetters_6 _ hc6) ⟨rfl, rfl⟩ yn_yX11_readsPieces tw_1105 tw_32 tw_1103 ⟨Nat.le_of_ble_eq_true rfl, Nat.le_of_ble_eq_true rfl⟩ ⟨Nat.zero_le _, Nat.zero_le _⟩ hP hD hS hA [0, 1, 2, 6, 7, 8] [3, 4, 5, 9] [4, 5, 6, 0, 1, 2, 7, 8, 9, 3] rfl rfl rfl rfl rfl (by decide) rfl rfl rfl rfl rfl rfl hl.1 rfl rfl (Nat.le_of_ble_eq_true rfl) dX11_reads_6 rfl (fun H locs hP hD hS => ?_)
  refine lv_pop hx hb dX11_reads_9 rfl ?_
  refine lv_aload_n hx hb dX11_reads_10 rfl (lv_at hl 0 rfl) ?_
  obtain ⟨v11, f_at_11, f_songLong_11, f_song_11, hc11, hf⟩ := cb4_some hf
  refine kcMV (q0 := 0) (ci := 11) (As := []) (rest := []) (st1 := [.int v11]) (wf := (w_Mo_reads ct a_this a_forms a_sizes a_items a_moved a_bytes a_typed a_chances a_longs a_letters a_isThere a_pieceLongs a_pieceLetters a_song a_settings a_guess a_row a_least a_nights f_latest f_at_11 f_names_1 f_pieces_6 f_songLong_11 f_guesses f_todo f_bytes f_typed f_chances_1 f_longs_1 f_letters_1 f_isThere_6 f_pieceLongs_6 f_pieceLetters_6 f_song_11)) C (c_Mo_readsSong l D ct a_this a_forms a_sizes a_items a_moved a_bytes a_typed a_chances a_longs a_letters a_isThere a_pieceLongs a_pieceLetters a_song a_settings a_guess a_row a_least a_nights f_latest f_names_1 f_pieces_6 f_guesses f_todo F f_bytes f_typed f_at_6 f_songLong f_song v11 f_at_11 f_songLong_11 f_song_11 _ hc11) ⟨rfl, rfl⟩ yn_yX11_readsSong tw_1113 tw_34 tw_1111 ⟨Nat.le_of_ble_eq_true rfl, Nat.le_of_ble_eq_true rfl⟩ ⟨Nat.zero_le _, Nat.zero_le _⟩ hP hD hS hA [0, 1, 2, 9] [3, 4, 5, 6, 7, 8] [6, 7, 8, 0, 1, 2, 3, 4, 5, 9] rfl rfl rfl rfl rfl (by decide) rfl rfl rfl rfl rfl rfl hl.1 rfl rfl (Nat.le_of_ble_eq_true rfl) dX11_reads_11 rfl (fun H locs hP hD hS => ?_)
  refine lv_pop hx hb dX11_reads_14 rfl ?_
  obtain ⟨e1, e2, e3, e4, e5, e6, e7, e8, e9, e10, e11⟩ := ti11 hf
  subst e1; subst e2; subst e3; subst e4; subst e5; subst e6; subst e7; subst e8; subst e9; subst e10; subst e11
  exact kretMv C hP hD hS dX11_reads_15
def RM_Mo_fault : Room := { frames := 4, cells := 0, slots := 0, locals := 91 }
set_option maxHeartbeats 4000000 in
set_option maxRecDepth 100000 in
theorem c_Mo_fault (l : Launch) (D : va_G) (ct : Nat → ClassId) (a_this a_forms a_sizes a_items a_moved a_bytes a_typed a_chances a_longs a_letters a_isThere a_pieceLongs a_pieceLetters a_song a_settings a_guess a_row a_least a_nights : Nat) (f_latest : Int32) (f_guesses : Int32) (f_todo : Int32) (F : Nat) (f_bytes : Nat → Int32) (f_typed : Nat → Int32) (f_at : Int32) (f_names : Int32) (f_pieces : Int32) (f_songLong : Int32) (f_chances : Nat → Int32) (f_longs : Nat → Int32) (f_letters : Nat → Int32) (f_isThere : Nat → Int32) (f_pieceLongs : Nat → Int32) (f_pieceLetters : Nat → Int32) (f_song : Nat → Int32) (x1 : Int32) (r : Int32) (r_at : Int32) (r_names : Int32) (r_pieces : Int32) (r_songLong : Int32) (r_chances : Nat → Int32) (r_longs : Nat → Int32) (r_letters : Nat → Int32) (r_isThere : Nat → Int32) (r_pieceLongs : Nat → Int32) (r_pieceLetters : Nat → Int32) (r_song : Nat → Int32) (sz : Nat) (hf : Mo_fault F f_bytes f_typed f_at f_names f_pieces f_songLong f_chances f_longs f_letters f_isThere f_pieceLongs f_pieceLetters f_song x1 = some (r, r_at, r_names, r_pieces, r_songLong, r_chances, r_longs, r_letters, r_isThere, r_pieceLongs, r_pieceLetters, r_song)) : Met l yX11_fault (WS yX11_fault cX11_fault 2 (some .int)) RM_Mo_fault (va_Pc [.ref a_this, .int x1] (PM D ct sz (w_Mo_fault ct a_this a_forms a_sizes a_items a_moved a_bytes a_typed a_chances a_longs a_letters a_isThere a_pieceLongs a_pieceLetters a_song a_settings a_guess a_row a_least a_nights f_latest f_at f_names f_pieces f_songLong f_guesses f_todo f_bytes f_typed f_chances f_longs f_letters f_isThere f_pieceLongs f_pieceLetters f_song))) (QM D (some (.int r)) (w_Mo_fault ct a_this a_forms a_sizes a_items a_moved a_bytes a_typed a_chances a_longs a_letters a_isThere a_pieceLongs a_pieceLetters a_song a_settings a_guess a_row a_least a_nights f_latest r_at r_names r_pieces r_songLong f_guesses f_todo f_bytes f_typed r_chances r_longs r_letters r_isThere r_pieceLongs r_pieceLetters r_song) (va_A (w_Mo_fault ct a_this a_forms a_sizes a_items a_moved a_bytes a_typed a_chances a_longs a_letters a_isThere a_pieceLongs a_pieceLetters a_song a_settings a_guess a_row a_least a_nights f_latest f_at f_names f_pieces f_songLong f_guesses f_todo f_bytes f_typed f_chances f_longs f_letters f_isThere f_pieceLongs f_pieceLetters f_song) sz)) 0 0 (va_A (w_Mo_fault ct a_this a_forms a_sizes a_items a_moved a_bytes a_typed a_chances a_longs a_letters a_isThere a_pieceLongs a_pieceLetters a_song a_settings a_guess a_row a_least a_nights f_latest f_at f_names f_pieces f_songLong f_guesses f_todo f_bytes f_typed f_chances f_longs f_letters f_isThere f_pieceLongs f_pieceLetters f_song) sz) := by
  refine kMetM yn_yX11_fault rfl (Nat.le_of_ble_eq_true rfl) ?_
  intro p e s m args below meth c A C hA hP hD ls hl
  have hl : lv_has ls 2 [(0, .ref a_this), (1, .int x1)] := hl
  have hS : va_S A s.heap s.heap [] := va_S.rf
  obtain ⟨hx, hb, hr, hml, hown, hts, hlk, hK, hN⟩ := id C
  unfold Mo_fault at hf
  refine lv_iload_n hx hb dX11_fault_0 rfl (lv_at hl 1 rfl) ?_
  obtain ⟨v1, hc1, hf⟩ := cb1_some hf
  refine kcRS (As := [.int x1]) (rest := []) (st1 := [.int v1]) C (c_Mo_isText l D ct x1 v1 hc1) ⟨rfl, rfl⟩ yn_yX11_isText tw_1067 tw_1066 ⟨Nat.le_of_ble_eq_true rfl, Nat.le_of_ble_eq_true rfl⟩ ⟨Nat.zero_le _, Nat.zero_le _⟩ hP [] rfl hl.1 rfl rfl (Nat.le_of_ble_eq_true rfl) dX11_fault_1 rfl ?_
  refine lv_if_ne (tgt := 12) hx hb dX11_fault_4 (by decide) (fun hc => ?_) (fun hc => ?_)
  · have hf := kneg hc hf
    refine lv_iload_n hx hb dX11_fault_12 rfl (lv_at hl 1 rfl) ?_
    refine lv_if_ne (tgt := 23) hx hb dX11_fault_13 (by decide) (fun hc => ?_) (fun hc => ?_)
    · have hf := kneg hc hf
      refine lv_iload_n hx hb dX11_fault_23 rfl (lv_at hl 1 rfl) ?_
      refine lv_iconst (v := 1) hx hb dX11_fault_24 (by decide) ?_
      refine lv_icmp_ne (tgt := 35) hx hb dX11_fault_25 (by decide) (fun hc => ?_) (fun hc => ?_)
      · have hf := kneg hc hf
        refine lv_aload_n hx hb dX11_fault_35 rfl (lv_at hl 0 rfl) ?_
        obtain ⟨v36, f_at_36, f_songLong_36, f_song_36, hc36, hf⟩ := cb4_some hf
        refine kcMV (q0 := 0) (ci := 11) (As := []) (rest := []) (st1 := [.int v36]) (wf := (w_Mo_fault ct a_this a_forms a_sizes a_items a_moved a_bytes a_typed a_chances a_longs a_letters a_isThere a_pieceLongs a_pieceLetters a_song a_settings a_guess a_row a_least a_nights f_latest f_at_36 f_names f_pieces f_songLong_36 f_guesses f_todo f_bytes f_typed f_chances f_longs f_letters f_isThere f_pieceLongs f_pieceLetters f_song_36)) C (c_Mo_readsSong l D ct a_this a_forms a_sizes a_items a_moved a_bytes a_typed a_chances a_longs a_letters a_isThere a_pieceLongs a_pieceLetters a_song a_settings a_guess a_row a_least a_nights f_latest f_names f_pieces f_guesses f_todo F f_bytes f_typed f_at f_songLong f_song v36 f_at_36 f_songLong_36 f_song_36 _ hc36) ⟨rfl, rfl⟩ yn_yX11_readsSong tw_1113 tw_34 tw_1111 ⟨Nat.le_of_ble_eq_true rfl, Nat.le_of_ble_eq_true rfl⟩ ⟨Nat.zero_le _, Nat.zero_le _⟩ hP hD hS hA [0, 1, 2, 9] [3, 4, 5, 6, 7, 8] [6, 7, 8, 0, 1, 2, 3, 4, 5, 9] rfl rfl rfl rfl rfl (by decide) rfl rfl rfl rfl rfl rfl hl.1 rfl rfl (Nat.le_of_ble_eq_true rfl) dX11_fault_36 rfl (fun H locs hP hD hS => ?_)
        obtain ⟨e1, e2, e3, e4, e5, e6, e7, e8, e9, e10, e11, e12⟩ := ti12 hf
        subst e1; subst e2; subst e3; subst e4; subst e5; subst e6; subst e7; subst e8; subst e9; subst e10; subst e11; subst e12
        exact kretM C hP hD hS dX11_fault_39
      · have hf := kpos hc hf
        refine lv_aload_n hx hb dX11_fault_28 rfl (lv_at hl 0 rfl) ?_
        obtain ⟨v29, f_at_29, f_pieces_29, f_isThere_29, f_pieceLongs_29, f_pieceLetters_29, hc29, hf⟩ := cb6_some hf
        refine kcMV (q0 := 0) (ci := 11) (As := []) (rest := []) (st1 := [.int v29]) (wf := (w_Mo_fault ct a_this a_forms a_sizes a_items a_moved a_bytes a_typed a_chances a_longs a_letters a_isThere a_pieceLongs a_pieceLetters a_song a_settings a_guess a_row a_least a_nights f_latest f_at_29 f_names f_pieces_29 f_songLong f_guesses f_todo f_bytes f_typed f_chances f_longs f_letters f_isThere_29 f_pieceLongs_29 f_pieceLetters_29 f_song)) C (c_Mo_readsPieces l D ct a_this a_forms a_sizes a_items a_moved a_bytes a_typed a_chances a_longs a_letters a_isThere a_pieceLongs a_pieceLetters a_song a_settings a_guess a_row a_least a_nights f_latest f_names f_songLong f_guesses f_todo F f_bytes f_typed f_at f_pieces f_isThere f_pieceLongs f_pieceLetters v29 f_at_29 f_pieces_29 f_isThere_29 f_pieceLongs_29 f_pieceLetters_29 _ hc29) ⟨rfl, rfl⟩ yn_yX11_readsPieces tw_1105 tw_32 tw_1103 ⟨Nat.le_of_ble_eq_true rfl, Nat.le_of_ble_eq_true rfl⟩ ⟨Nat.zero_le _, Nat.zero_le _⟩ hP hD hS hA [0, 1, 2, 6, 7, 8] [3, 4, 5, 9] [4, 5, 6, 0, 1, 2, 7, 8, 9, 3] rfl rfl rfl rfl rfl (by decide) rfl rfl rfl rfl rfl rfl hl.1 rfl rfl (Nat.le_of_ble_eq_true rfl) dX11_fault_29 rfl (fun H locs hP hD hS => ?_)
        refine lv_goto (tgt := 39) hx hb dX11_fault_32 (by decide) ?_
        obtain ⟨e1, e2, e3, e4, e5, e6, e7, e8, e9, e10, e11, e12⟩ := ti12 hf
        subst e1; subst e2; subst e3; subst e4; subst e5; subst e6; subst e7; subst e8; subst e9; subst e10; subst e11; subst e12
        exact kretM C hP hD hS dX11_fault_39
    · have hf := kpos hc hf
      refine lv_aload_n hx hb dX11_fault_16 rfl (lv_at hl 0 rfl) ?_
      obtain ⟨v17, f_at_17, f_names_17, f_chances_17, f_longs_17, f_letters_17, hc17, hf⟩ := cb6_some hf
      refine kcMV (q0 := 0) (ci := 11) (As := []) (rest := []) (st1 := [.int v17]) (wf := (w_Mo_fault ct a_this a_forms a_sizes a_items a_moved a_bytes a_typed a_chances a_longs a_letters a_isThere a_pieceLongs a_pieceLetters a_song a_settings a_guess a_row a_least a_nights f_latest f_at_17 f_names_17 f_pieces f_songLong f_guesses f_todo f_bytes f_typed f_chances_17 f_longs_17 f_letters_17 f_isThere f_pieceLongs f_pieceLetters f_song)) C (c_Mo_readsNames l D ct a_this a_forms a_sizes a_items a_moved a_bytes a_typed a_chances a_longs a_letters a_isThere a_pieceLongs a_pieceLetters a_song a_settings a_guess a_row a_least a_nights f_latest f_pieces f_songLong f_guesses f_todo F f_bytes f_typed f_at f_names f_chances f_longs f_letters v17 f_at_17 f_names_17 f_chances_17 f_longs_17 f_letters_17 _ hc17) ⟨rfl, rfl⟩ yn_yX11_readsNames tw_1087 tw_28 tw_1085 ⟨Nat.le_of_ble_eq_true rfl, Nat.le_of_ble_eq_true rfl⟩ ⟨Nat.zero_le _, Nat.zero_le _⟩ hP hD hS hA [0, 1, 2, 3, 4, 5] [6, 7, 8, 9] [4, 5, 6, 7, 8, 9, 0, 1, 2, 3] rfl rfl rfl rfl rfl (by decide) rfl rfl rfl rfl rfl rfl hl.1 rfl rfl (Nat.le_of_ble_eq_true rfl) dX11_fault_17 rfl (fun H locs hP hD hS => ?_)
      refine lv_goto (tgt := 39) hx hb dX11_fault_20 (by decide) ?_
      obtain ⟨e1, e2, e3, e4, e5, e6, e7, e8, e9, e10, e11, e12⟩ := ti12 hf
      subst e1; subst e2; subst e3; subst e4; subst e5; subst e6; subst e7; subst e8; subst e9; subst e10; subst e11; subst e12
      exact kretM C hP hD hS dX11_fault_39
  · have hf := kpos hc hf
    refine lv_bipush (v := (-2)) hx hb dX11_fault_7 (by decide) ?_
    refine lv_goto (tgt := 39) hx hb dX11_fault_9 (by decide) ?_
    obtain ⟨e1, e2, e3, e4, e5, e6, e7, e8, e9, e10, e11, e12⟩ := ti12 hf
    subst e1; subst e2; subst e3; subst e4; subst e5; subst e6; subst e7; subst e8; subst e9; subst e10; subst e11; subst e12
    exact kretM C hP hD hS dX11_fault_39
def RM_Mo_isName : Room := { frames := 1, cells := 0, slots := 0, locals := 25 }
set_option maxHeartbeats 4000000 in
set_option maxRecDepth 100000 in
theorem c_Mo_isName (l : Launch) (D : va_G) (ct : Nat → ClassId) (a_this a_forms a_sizes a_items a_moved a_bytes a_typed a_chances a_longs a_letters a_isThere a_pieceLongs a_pieceLetters a_song a_settings a_guess a_row a_least a_nights : Nat) (f_latest : Int32) (f_at : Int32) (f_pieces : Int32) (f_songLong : Int32) (f_guesses : Int32) (f_todo : Int32) (f_names : Int32) (x1 : Int32) (r : Int32) (hf : Mo_isName f_names x1 = some r) : Met l yX11_isName (WS yX11_isName cX11_isName 2 (some .boolean)) RM_Mo_isName (va_Pc [.ref a_this, .int x1] (PR D ct (w_Mo_isName ct a_this a_forms a_sizes a_items a_moved a_bytes a_typed a_chances a_longs a_letters a_isThere a_pieceLongs a_pieceLetters a_song a_settings a_guess a_row a_least a_nights f_latest f_at f_names f_pieces f_songLong f_guesses f_todo))) (QR (some (.int r))) 0 0 (fun _ => False) := by
  refine kMetR yn_yX11_isName rfl (Nat.le_of_ble_eq_true rfl) ?_
  intro p e s m args below meth c C hP ls hl
  have hl : lv_has ls 2 [(0, .ref a_this), (1, .int x1)] := hl
  obtain ⟨hx, hb, hr, hml, hown, hts, hlk, hK, hN⟩ := id C
  unfold Mo_isName at hf
  refine lv_iload_n hx hb dX11_isName_0 rfl (lv_at hl 1 rfl) ?_
  refine lv_i2l (v := Int32.toInt64 x1) hx hb dX11_isName_1 rfl ?_
  refine lv_lconst (v := 0) hx hb dX11_isName_2 (by decide) ?_
  refine lv_aload_n hx hb dX11_isName_3 rfl (lv_at hl 0 rfl) ?_
  refine va_get (ci := 11) (v := .int f_names) (C := RX11) (T := TX11) (N := 25) hx hb hts inX11 hown hK hP 0 rfl rfl 8 (by decide) (hts _ tw_953) (fun _ h9 => h9) rfl dX11_isName_4 ?_
  refine lv_iconst (v := 1) hx hb dX11_isName_7 (by decide) ?_
  refine lv_isub hx hb dX11_isName_8 ?_
  refine lv_i2l (v := Int32.toInt64 (f_names - 1)) hx hb dX11_isName_9 rfl ?_
  obtain ⟨v10, hc10, hf⟩ := cb1_some hf
  refine kcRS (As := [.long (Int32.toInt64 x1), .long 0, .long (Int32.toInt64 (f_names - 1))]) (rest := []) (st1 := [.int v10]) C (c_Mo_in l D ct (Int32.toInt64 x1) 0 (Int32.toInt64 (f_names - 1)) v10 hc10) ⟨rfl, rfl⟩ yn_yX11_in tw_1031 tw_1030 ⟨Nat.le_of_ble_eq_true rfl, Nat.le_of_ble_eq_true rfl⟩ ⟨Nat.zero_le _, Nat.zero_le _⟩ hP [] rfl hl.1 rfl rfl (Nat.le_of_ble_eq_true rfl) dX11_isName_10 rfl ?_
  obtain ⟨hz, hf⟩ := gd_some hf
  have e1 := Option.some.inj hf
  subst e1
  exact kretRz C hz dX11_isName_13
def RM_Mo_nameOf : Room := { frames := 0, cells := 0, slots := 0, locals := 0 }
set_option maxHeartbeats 4000000 in
set_option maxRecDepth 100000 in
theorem c_Mo_nameOf (l : Launch) (D : va_G) (ct : Nat → ClassId) (a_this a_forms a_sizes a_items a_moved a_bytes a_typed a_chances a_longs a_letters a_isThere a_pieceLongs a_pieceLetters a_song a_settings a_guess a_row a_least a_nights : Nat) (f_latest : Int32) (f_at : Int32) (f_names : Int32) (f_pieces : Int32) (f_songLong : Int32) (f_guesses : Int32) (f_todo : Int32) (f_chances : Nat → Int32) (f_longs : Nat → Int32) (f_letters : Nat → Int32) (x1 : Int32) (x2 : Int32) (r : Int32) (hf : Mo_nameOf f_chances f_longs f_letters x1 x2 = some r) : Met l yX11_nameOf (WS yX11_nameOf cX11_nameOf 3 (some .int)) RM_Mo_nameOf (va_Pc [.ref a_this, .int x1, .int x2] (PR D ct (w_Mo_nameOf ct a_this a_forms a_sizes a_items a_moved a_bytes a_typed a_chances a_longs a_letters a_isThere a_pieceLongs a_pieceLetters a_song a_settings a_guess a_row a_least a_nights f_latest f_at f_names f_pieces f_songLong f_guesses f_todo f_chances f_longs f_letters))) (QR (some (.int r))) 0 0 (fun _ => False) := by
  refine kMetR yn_yX11_nameOf rfl (Nat.le_of_ble_eq_true rfl) ?_
  intro p e s m args below meth c C hP ls hl
  have hl : lv_has ls 3 [(0, .ref a_this), (1, .int x1), (2, .int x2)] := hl
  obtain ⟨hx, hb, hr, hml, hown, hts, hlk, hK, hN⟩ := id C
  unfold Mo_nameOf at hf
  refine lv_iload_n hx hb dX11_nameOf_0 rfl (lv_at hl 2 rfl) ?_
  refine lv_iconst (v := (-1)) hx hb dX11_nameOf_1 (by decide) ?_
  refine lv_icmp_ne (tgt := 14) hx hb dX11_nameOf_2 (by decide) (fun hc => ?_) (fun hc => ?_)
  · have hf := kneg hc hf
    refine lv_iload_n hx hb dX11_nameOf_14 rfl (lv_at hl 2 rfl) ?_
    refine lv_bipush (v := (-2)) hx hb dX11_nameOf_15 (by decide) ?_
    refine lv_icmp_ne (tgt := 29) hx hb dX11_nameOf_17 (by decide) (fun hc => ?_) (fun hc => ?_)
    · have hf := kneg hc hf
      refine lv_iload_n hx hb dX11_nameOf_29 rfl (lv_at hl 2 rfl) ?_
      refine lv_aload_n hx hb dX11_nameOf_30 rfl (lv_at hl 0 rfl) ?_
      refine va_get (ci := 11) (v := .ref a_longs) (C := RX11) (T := TX11) (N := 25) hx hb hts inX11 hown hK hP 0 rfl rfl 10 (by decide) (hts _ tw_955) (fun _ h9 => h9) rfl dX11_nameOf_31 ?_
      refine lv_iload_n hx hb dX11_nameOf_34 rfl (lv_at hl 1 rfl) ?_
      obtain ⟨hin, hf⟩ := rd_some hf
      generalize ev35 : f_longs (Int32.toNatClampNeg x1) = v35 at hf
      refine kiald hx hb hK hP 2 0 rfl rfl hin ev35 dX11_nameOf_35 ?_
      refine lv_icmp_ge (tgt := 53) hx hb dX11_nameOf_36 (by decide) (fun hc => ?_) (fun hc => ?_)
      · have hf := kpos hc hf
        refine lv_iconst (v := (-1)) hx hb dX11_nameOf_53 (by decide) ?_
        have e1 := Option.some.inj hf
        subst e1
        exact kretR C dX11_nameOf_54
      · have hf := kneg hc hf
        refine lv_aload_n hx hb dX11_nameOf_39 rfl (lv_at hl 0 rfl) ?_
        refine va_get (ci := 11) (v := .ref a_letters) (C := RX11) (T := TX11) (N := 25) hx hb hts inX11 hown hK hP 0 rfl rfl 11 (by decide) (hts _ tw_956) (fun _ h9 => h9) rfl dX11_nameOf_40 ?_
        refine lv_bipush (v := 6) hx hb dX11_nameOf_43 (by decide) ?_
        refine lv_iload_n hx hb dX11_nameOf_45 rfl (lv_at hl 1 rfl) ?_
        refine lv_imul hx hb dX11_nameOf_46 ?_
        refine lv_iload_n hx hb dX11_nameOf_47 rfl (lv_at hl 2 rfl) ?_
        refine lv_iadd hx hb dX11_nameOf_48 ?_
        obtain ⟨hin, hf⟩ := rd_some hf
        generalize ev49 : f_letters (Int32.toNatClampNeg ((6 * x1) + x2)) = v49 at hf
        refine kiald hx hb hK hP 3 0 rfl rfl hin ev49 dX11_nameOf_49 ?_
        refine lv_goto (tgt := 54) hx hb dX11_nameOf_50 (by decide) ?_
        have e1 := Option.some.inj hf
        subst e1
        exact kretR C dX11_nameOf_54
    · have hf := kpos hc hf
      refine lv_aload_n hx hb dX11_nameOf_20 rfl (lv_at hl 0 rfl) ?_
      refine va_get (ci := 11) (v := .ref a_longs) (C := RX11) (T := TX11) (N := 25) hx hb hts inX11 hown hK hP 0 rfl rfl 10 (by decide) (hts _ tw_955) (fun _ h9 => h9) rfl dX11_nameOf_21 ?_
      refine lv_iload_n hx hb dX11_nameOf_24 rfl (lv_at hl 1 rfl) ?_
      obtain ⟨hin, hf⟩ := rd_some hf
      generalize ev25 : f_longs (Int32.toNatClampNeg x1) = v25 at hf
      refine kiald hx hb hK hP 2 0 rfl rfl hin ev25 dX11_nameOf_25 ?_
      refine lv_goto (tgt := 54) hx hb dX11_nameOf_26 (by decide) ?_
      have e1 := Option.some.inj hf
      subst e1
      exact kretR C dX11_nameOf_54
  · have hf := kpos hc hf
    refine lv_aload_n hx hb dX11_nameOf_5 rfl (lv_at hl 0 rfl) ?_
    refine va_get (ci := 11) (v := .ref a_chances) (C := RX11) (T := TX11) (N := 25) hx hb hts inX11 hown hK hP 0 rfl rfl 9 (by decide) (hts _ tw_954) (fun _ h9 => h9) rfl dX11_nameOf_6 ?_
    refine lv_iload_n hx hb dX11_nameOf_9 rfl (lv_at hl 1 rfl) ?_
    obtain ⟨hin, hf⟩ := rd_some hf
    generalize ev10 : f_chances (Int32.toNatClampNeg x1) = v10 at hf
    refine kiald hx hb hK hP 1 0 rfl rfl hin ev10 dX11_nameOf_10 ?_
    refine lv_goto (tgt := 54) hx hb dX11_nameOf_11 (by decide) ?_
    have e1 := Option.some.inj hf
    subst e1
    exact kretR C dX11_nameOf_54
def RM_Mo_name : Room := { frames := 5, cells := 0, slots := 0, locals := 111 }
set_option maxHeartbeats 4000000 in
set_option maxRecDepth 100000 in
theorem c_Mo_name (l : Launch) (D : va_G) (ct : Nat → ClassId) (a_this a_forms a_sizes a_items a_moved a_bytes a_typed a_chances a_longs a_letters a_isThere a_pieceLongs a_pieceLetters a_song a_settings a_guess a_row a_least a_nights : Nat) (f_latest : Int32) (f_guesses : Int32) (f_todo : Int32) (F : Nat) (f_bytes : Nat → Int32) (f_typed : Nat → Int32) (f_at : Int32) (f_names : Int32) (f_pieces : Int32) (f_songLong : Int32) (f_chances : Nat → Int32) (f_longs : Nat → Int32) (f_letters : Nat → Int32) (f_isThere : Nat → Int32) (f_pieceLongs : Nat → Int32) (f_pieceLetters : Nat → Int32) (f_song : Nat → Int32) (x1 : Int32) (x2 : Int32) (r : Int32) (r_at : Int32) (r_names : Int32) (r_pieces : Int32) (r_songLong : Int32) (r_chances : Nat → Int32) (r_longs : Nat → Int32) (r_letters : Nat → Int32) (r_isThere : Nat → Int32) (r_pieceLongs : Nat → Int32) (r_pieceLetters : Nat → Int32) (r_song : Nat → Int32) (sz : Nat) (hf : Mo_name F f_bytes f_typed f_at f_names f_pieces f_songLong f_chances f_longs f_letters f_isThere f_pieceLongs f_pieceLetters f_song x1 x2 = some (r, r_at, r_names, r_pieces, r_songLong, r_chances, r_longs, r_letters, r_isThere, r_pieceLongs, r_pieceLetters, r_song)) : Met l yX11_name (WS yX11_name cX11_name 3 (some .int)) RM_Mo_name (va_Pc [.ref a_this, .int x1, .int x2] (PM D ct sz (w_Mo_name ct a_this a_forms a_sizes a_items a_moved a_bytes a_typed a_chances a_longs a_letters a_isThere a_pieceLongs a_pieceLetters a_song a_settings a_guess a_row a_least a_nights f_latest f_at f_names f_pieces f_songLong f_guesses f_todo f_bytes f_typed f_chances f_longs f_letters f_isThere f_pieceLongs f_pieceLetters f_song))) (QM D (some (.int r)) (w_Mo_name ct a_this a_forms a_sizes a_items a_moved a_bytes a_typed a_chances a_longs a_letters a_isThere a_pieceLongs a_pieceLetters a_song a_settings a_guess a_row a_least a_nights f_latest r_at r_names r_pieces r_songLong f_guesses f_todo f_bytes f_typed r_chances r_longs r_letters r_isThere r_pieceLongs r_pieceLetters r_song) (va_A (w_Mo_name ct a_this a_forms a_sizes a_items a_moved a_bytes a_typed a_chances a_longs a_letters a_isThere a_pieceLongs a_pieceLetters a_song a_settings a_guess a_row a_least a_nights f_latest f_at f_names f_pieces f_songLong f_guesses f_todo f_bytes f_typed f_chances f_longs f_letters f_isThere f_pieceLongs f_pieceLetters f_song) sz)) 0 0 (va_A (w_Mo_name ct a_this a_forms a_sizes a_items a_moved a_bytes a_typed a_chances a_longs a_letters a_isThere a_pieceLongs a_pieceLetters a_song a_settings a_guess a_row a_least a_nights f_latest f_at f_names f_pieces f_songLong f_guesses f_todo f_bytes f_typed f_chances f_longs f_letters f_isThere f_pieceLongs f_pieceLetters f_song) sz) := by
  refine kMetM yn_yX11_name rfl (Nat.le_of_ble_eq_true rfl) ?_
  intro p e s m args below meth c A C hA hP hD ls hl
  have hl : lv_has ls 3 [(0, .ref a_this), (1, .int x1), (2, .int x2)] := hl
  have hS : va_S A s.heap s.heap [] := va_S.rf
  obtain ⟨hx, hb, hr, hml, hown, hts, hlk, hK, hN⟩ := id C
  unfold Mo_name at hf
  refine lv_aload_n hx hb dX11_name_0 rfl (lv_at hl 0 rfl) ?_
  obtain ⟨f_at_1, f_names_1, f_pieces_1, f_songLong_1, f_chances_1, f_longs_1, f_letters_1, f_isThere_1, f_pieceLongs_1, f_pieceLetters_1, f_song_1, hc1, hf⟩ := cb11_some hf
  refine kcMV (q0 := 0) (ci := 11) (As := []) (rest := []) (st1 := []) (wf := (w_Mo_name ct a_this a_forms a_sizes a_items a_moved a_bytes a_typed a_chances a_longs a_letters a_isThere a_pieceLongs a_pieceLetters a_song a_settings a_guess a_row a_least a_nights f_latest f_at_1 f_names_1 f_pieces_1 f_songLong_1 f_guesses f_todo f_bytes f_typed f_chances_1 f_longs_1 f_letters_1 f_isThere_1 f_pieceLongs_1 f_pieceLetters_1 f_song_1)) C (c_Mo_reads l D ct a_this a_forms a_sizes a_items a_moved a_bytes a_typed a_chances a_longs a_letters a_isThere a_pieceLongs a_pieceLetters a_song a_settings a_guess a_row a_least a_nights f_latest f_guesses f_todo F f_bytes f_typed f_at f_names f_pieces f_songLong f_chances f_longs f_letters f_isThere f_pieceLongs f_pieceLetters f_song f_at_1 f_names_1 f_pieces_1 f_songLong_1 f_chances_1 f_longs_1 f_letters_1 f_isThere_1 f_pieceLongs_1 f_pieceLetters_1 f_song_1 _ hc1) ⟨rfl, rfl⟩ yn_yX11_reads tw_1121 tw_35 tw_1119 ⟨Nat.le_of_ble_eq_true rfl, Nat.le_of_ble_eq_true rfl⟩ ⟨Nat.zero_le _, Nat.zero_le _⟩ hP hD hS hA [0, 1, 2, 3, 4, 5, 6, 7, 8, 9] [] [0, 1, 2, 3, 4, 5, 6, 7, 8, 9] rfl rfl rfl rfl rfl (by decide) rfl rfl rfl rfl rfl rfl hl.1 rfl rfl (Nat.le_of_ble_eq_true rfl) dX11_name_1 rfl (fun H locs hP hD hS => ?_)
  refine lv_aload_n hx hb dX11_name_4 rfl (lv_at hl 0 rfl) ?_
  refine lv_iload_n hx hb dX11_name_5 rfl (lv_at hl 1 rfl) ?_
  obtain ⟨v6, hc6, hf⟩ := cb1_some hf
  refine kcRV (q0 := 0) (ci := 11) (As := [.int x1]) (rest := []) (st1 := [.int v6]) C (c_Mo_isName l D ct a_this a_forms a_sizes a_items a_moved a_bytes a_typed a_chances a_longs a_letters a_isThere a_pieceLongs a_pieceLetters a_song a_settings a_guess a_row a_least a_nights f_latest f_at_1 f_pieces_1 f_songLong_1 f_guesses f_todo f_names_1 x1 v6 hc6) ⟨rfl, rfl⟩ yn_yX11_isName tw_1125 tw_36 tw_1123 ⟨Nat.le_of_ble_eq_true rfl, Nat.le_of_ble_eq_true rfl⟩ ⟨Nat.zero_le _, Nat.zero_le _⟩ hP [0] rfl rfl rfl rfl hl.1 rfl rfl (Nat.le_of_ble_eq_true rfl) dX11_name_6 rfl ?_
  refine lv_if_eq (tgt := 35) hx hb dX11_name_9 (by decide) (fun hc => ?_) (fun hc => ?_)
  · have hf := kpos hc hf
    refine lv_bipush (v := (-2)) hx hb dX11_name_35 (by decide) ?_
    obtain ⟨e1, e2, e3, e4, e5, e6, e7, e8, e9, e10, e11, e12⟩ := ti12 hf
    subst e1; subst e2; subst e3; subst e4; subst e5; subst e6; subst e7; subst e8; subst e9; subst e10; subst e11; subst e12
    exact kretM C hP hD hS dX11_name_37
  · have hf := kneg hc hf
    refine lv_iload_n hx hb dX11_name_12 rfl (lv_at hl 2 rfl) ?_
    refine lv_i2l (v := Int32.toInt64 x2) hx hb dX11_name_13 rfl ?_
    refine lv_ldc2 (v := (-2)) hx hb hown (hts _ tw_1127) dX11_name_14 ?_
    refine lv_ldc2 (v := 5) hx hb hown (hts _ tw_1102) dX11_name_17 ?_
    obtain ⟨v20, hc20, hf⟩ := cb1_some hf
    refine kcRS (As := [.long (Int32.toInt64 x2), .long (-2), .long 5]) (rest := []) (st1 := [.int v20]) C (c_Mo_in l D ct (Int32.toInt64 x2) (-2) 5 v20 hc20) ⟨rfl, rfl⟩ yn_yX11_in tw_1031 tw_1030 ⟨Nat.le_of_ble_eq_true rfl, Nat.le_of_ble_eq_true rfl⟩ ⟨Nat.zero_le _, Nat.zero_le _⟩ hP [] rfl hl.1 rfl rfl (Nat.le_of_ble_eq_true rfl) dX11_name_20 rfl ?_
    refine lv_if_eq (tgt := 35) hx hb dX11_name_23 (by decide) (fun hc => ?_) (fun hc => ?_)
    · have hf := kpos hc hf
      refine lv_bipush (v := (-2)) hx hb dX11_name_35 (by decide) ?_
      obtain ⟨e1, e2, e3, e4, e5, e6, e7, e8, e9, e10, e11, e12⟩ := ti12 hf
      subst e1; subst e2; subst e3; subst e4; subst e5; subst e6; subst e7; subst e8; subst e9; subst e10; subst e11; subst e12
      exact kretM C hP hD hS dX11_name_37
    · have hf := kneg hc hf
      refine lv_aload_n hx hb dX11_name_26 rfl (lv_at hl 0 rfl) ?_
      refine lv_iload_n hx hb dX11_name_27 rfl (lv_at hl 1 rfl) ?_
      refine lv_iload_n hx hb dX11_name_28 rfl (lv_at hl 2 rfl) ?_
      obtain ⟨v29, hc29, hf⟩ := cb1_some hf
      refine kcRV (q0 := 0) (ci := 11) (As := [.int x1, .int x2]) (rest := []) (st1 := [.int v29]) C (c_Mo_nameOf l D ct a_this a_forms a_sizes a_items a_moved a_bytes a_typed a_chances a_longs a_letters a_isThere a_pieceLongs a_pieceLetters a_song a_settings a_guess a_row a_least a_nights f_latest f_at_1 f_names_1 f_pieces_1 f_songLong_1 f_guesses f_todo f_chances_1 f_longs_1 f_letters_1 x1 x2 v29 hc29) ⟨rfl, rfl⟩ yn_yX11_nameOf tw_1130 tw_37 tw_1128 ⟨Nat.le_of_ble_eq_true rfl, Nat.le_of_ble_eq_true rfl⟩ ⟨Nat.zero_le _, Nat.zero_le _⟩ hP [0, 3, 4, 5] rfl rfl rfl rfl hl.1 rfl rfl (Nat.le_of_ble_eq_true rfl) dX11_name_29 rfl ?_
      refine lv_goto (tgt := 37) hx hb dX11_name_32 (by decide) ?_
      obtain ⟨e1, e2, e3, e4, e5, e6, e7, e8, e9, e10, e11, e12⟩ := ti12 hf
      subst e1; subst e2; subst e3; subst e4; subst e5; subst e6; subst e7; subst e8; subst e9; subst e10; subst e11; subst e12
      exact kretM C hP hD hS dX11_name_37
def RM_Mo_most : Room := { frames := 0, cells := 0, slots := 0, locals := 0 }
set_option maxHeartbeats 4000000 in
set_option maxRecDepth 100000 in
theorem c_Mo_most (l : Launch) (D : va_G) (ct : Nat → ClassId) (x0 : Int32) (r : Int32) (hf : Mo_most x0 = some r) : Met l yX11_most (WS yX11_most cX11_most 1 (some .int)) RM_Mo_most (va_Pc [.int x0] (PR D ct (w_Mo_most ct))) (QR (some (.int r))) 0 0 (fun _ => False) := by
  refine kMetR yn_yX11_most rfl (Nat.le_of_ble_eq_true rfl) ?_
  intro p e s m args below meth c C hP ls hl
  have hl : lv_has ls 1 [(0, .int x0)] := hl
  obtain ⟨hx, hb, hr, hml, hown, hts, hlk, hK, hN⟩ := id C
  unfold Mo_most at hf
  refine lv_iload_n hx hb dX11_most_0 rfl (lv_at hl 0 rfl) ?_
  refine lv_iconst (v := 2) hx hb dX11_most_1 (by decide) ?_
  refine lv_icmp_ge (tgt := 10) hx hb dX11_most_2 (by decide) (fun hc => ?_) (fun hc => ?_)
  · have hf := kpos hc hf
    refine lv_iload_n hx hb dX11_most_10 rfl (lv_at hl 0 rfl) ?_
    refine lv_iconst (v := 2) hx hb dX11_most_11 (by decide) ?_
    refine lv_icmp_ne (tgt := 20) hx hb dX11_most_12 (by decide) (fun hc => ?_) (fun hc => ?_)
    · have hf := kneg hc hf
      refine lv_iload_n hx hb dX11_most_20 rfl (lv_at hl 0 rfl) ?_
      refine lv_iconst (v := 3) hx hb dX11_most_21 (by decide) ?_
      refine lv_icmp_ne (tgt := 31) hx hb dX11_most_22 (by decide) (fun hc => ?_) (fun hc => ?_)
      · have hf := kneg hc hf
        refine lv_iconst (v := 3) hx hb dX11_most_31 (by decide) ?_
        have e1 := Option.some.inj hf
        subst e1
        exact kretR C dX11_most_32
      · have hf := kpos hc hf
        refine lv_sipush (v := 9999) hx hb dX11_most_25 (by decide) ?_
        refine lv_goto (tgt := 32) hx hb dX11_most_28 (by decide) ?_
        have e1 := Option.some.inj hf
        subst e1
        exact kretR C dX11_most_32
    · have hf := kpos hc hf
      refine lv_bipush (v := 12) hx hb dX11_most_15 (by decide) ?_
      refine lv_goto (tgt := 32) hx hb dX11_most_17 (by decide) ?_
      have e1 := Option.some.inj hf
      subst e1
      exact kretR C dX11_most_32
  · have hf := kneg hc hf
    refine lv_bipush (v := 99) hx hb dX11_most_5 (by decide) ?_
    refine lv_goto (tgt := 32) hx hb dX11_most_7 (by decide) ?_
    have e1 := Option.some.inj hf
    subst e1
    exact kretR C dX11_most_32
def RM_Mo_set : Room := { frames := 1, cells := 0, slots := 0, locals := 25 }
set_option maxHeartbeats 4000000 in
set_option maxRecDepth 100000 in
theorem t_Mo_set_b29 {p : Program} {l : Launch} {e : Env} {s : State} {m : MethodId} {args : Array Value} {below : List Frame} {meth : Method} {c : Code} {D : va_G} {ct : Nat → ClassId} (C : CX p s m args meth c RX11 cX11_set 4 (some .int) D ct) {A : Nat → Prop} (hA : ∀ q : Nat, s.heap.size ≤ q → A q) (a_this a_forms a_sizes a_items a_moved a_bytes a_typed a_chances a_longs a_letters a_isThere a_pieceLongs a_pieceLetters a_song a_settings a_guess a_row a_least a_nights : Nat) (f_latest : Int32) (f_at : Int32) (f_names : Int32) (f_pieces : Int32) (f_songLong : Int32) (f_guesses : Int32) (f_todo : Int32) (x1 : Int32) (x2 : Int32) (r : Int32) (r_settings : Nat → Int32) : ∀ (k0 : Int64) (k1 : Int64) (f_settings : Nat → Int32), Mo_set_b29 x1 x2 k0 k1 f_settings = some (r, r_settings) → ∀ (H : Heap) (locs : List Loc), va_P D vwCl (w_Mo_set ct a_this a_forms a_sizes a_items a_moved a_bytes a_typed a_chances a_longs a_letters a_isThere a_pieceLongs a_pieceLetters a_song a_settings a_guess a_row a_least a_nights f_latest f_at f_names f_pieces f_songLong f_guesses f_todo f_settings) H → va_D A (w_Mo_set ct a_this a_forms a_sizes a_items a_moved a_bytes a_typed a_chances a_longs a_letters a_isThere a_pieceLongs a_pieceLetters a_song a_settings a_guess a_row a_least a_nights f_latest f_at f_names f_pieces f_songLong f_guesses f_todo f_settings) → va_S A s.heap H locs → ∀ ls : Array Slot, lv_has ls 4 [(0, .ref a_this), (1, .int x1), (2, .int x2)] → W p l e RM_Mo_set s m args below meth c H locs 0 0 (MQ below (QM D (some (.int r)) (w_Mo_set ct a_this a_forms a_sizes a_items a_moved a_bytes a_typed a_chances a_longs a_letters a_isThere a_pieceLongs a_pieceLetters a_song a_settings a_guess a_row a_least a_nights f_latest f_at f_names f_pieces f_songLong f_guesses f_todo r_settings) A) args s 0 0 A) (F0 m 29 ls [.long k1, .long k0]) := by
  obtain ⟨hx, hb, hr, hml, hown, hts, hlk, hK, hN⟩ := id C
  intro k0 k1 f_settings hf H locs hP hD hS ls hl
  unfold Mo_set_b29 at hf
  refine lv_iload_n hx hb dX11_set_29 rfl (lv_at hl 1 rfl) ?_
  obtain ⟨v30, hc30, hf⟩ := cb1_some hf
  refine kcRS (As := [.int x1]) (rest := [.long k1, .long k0]) (st1 := [.int v30, .long k1, .long k0]) C (c_Mo_most l D ct x1 v30 hc30) ⟨rfl, rfl⟩ yn_yX11_most tw_1138 tw_1137 ⟨Nat.le_of_ble_eq_true rfl, Nat.le_of_ble_eq_true rfl⟩ ⟨Nat.zero_le _, Nat.zero_le _⟩ hP [] rfl hl.1 rfl rfl (Nat.le_of_ble_eq_true rfl) dX11_set_30 rfl ?_
  refine lv_i2l (v := Int32.toInt64 v30) hx hb dX11_set_33 rfl ?_
  obtain ⟨v34, hc34, hf⟩ := cb1_some hf
  refine kcRS (As := [.long k0, .long k1, .long (Int32.toInt64 v30)]) (rest := []) (st1 := [.int v34]) C (c_Mo_in l D ct k0 k1 (Int32.toInt64 v30) v34 hc34) ⟨rfl, rfl⟩ yn_yX11_in tw_1031 tw_1030 ⟨Nat.le_of_ble_eq_true rfl, Nat.le_of_ble_eq_true rfl⟩ ⟨Nat.zero_le _, Nat.zero_le _⟩ hP [] rfl hl.1 rfl rfl (Nat.le_of_ble_eq_true rfl) dX11_set_34 rfl ?_
  refine lv_if_ne (tgt := 43) hx hb dX11_set_37 (by decide) (fun hc => ?_) (fun hc => ?_)
  · have hf := kneg hc hf
    refine lv_aload_n hx hb dX11_set_43 rfl (lv_at hl 0 rfl) ?_
    refine va_get (ci := 11) (v := .ref a_settings) (C := RX11) (T := TX11) (N := 25) hx hb hts inX11 hown hK hP 0 rfl rfl 18 (by decide) (hts _ tw_963) (fun _ h9 => h9) rfl dX11_set_44 ?_
    refine lv_iload_n hx hb dX11_set_47 rfl (lv_at hl 1 rfl) ?_
    obtain ⟨hin, hf⟩ := rd_some hf
    generalize ev48 : f_settings (Int32.toNatClampNeg x1) = v48 at hf
    refine kiald hx hb hK hP 1 0 rfl rfl hin ev48 dX11_set_48 ?_
    refine lv_istore_n (lv' := [(3, .int v48), (0, .ref a_this), (1, .int x1), (2, .int x2)]) hx hb dX11_set_49 rfl hl (by decide) rfl (fun ls hl => ?_)
    refine lv_aload_n hx hb dX11_set_50 rfl (lv_at hl 1 rfl) ?_
    refine va_get (ci := 11) (v := .ref a_settings) (C := RX11) (T := TX11) (N := 25) hx hb hts inX11 hown hK hP 0 rfl rfl 18 (by decide) (hts _ tw_963) (fun _ h9 => h9) rfl dX11_set_51 ?_
    refine lv_iload_n hx hb dX11_set_54 rfl (lv_at hl 2 rfl) ?_
    refine lv_iload_n hx hb dX11_set_55 rfl (lv_at hl 3 rfl) ?_
    obtain ⟨hin, f_settings_56, ev56, hf⟩ := wr_ex hf
    refine kiast hx hb hK hP hD hS 1 0 rfl rfl hin ev56 dX11_set_56 (fun H locs hP hD hS => ?_)
    have hP : va_P D vwCl (w_Mo_set ct a_this a_forms a_sizes a_items a_moved a_bytes a_typed a_chances a_longs a_letters a_isThere a_pieceLongs a_pieceLetters a_song a_settings a_guess a_row a_least a_nights f_latest f_at f_names f_pieces f_songLong f_guesses f_todo f_settings_56) H := hP
    have hD : va_D A (w_Mo_set ct a_this a_forms a_sizes a_items a_moved a_bytes a_typed a_chances a_longs a_letters a_isThere a_pieceLongs a_pieceLetters a_song a_settings a_guess a_row a_least a_nights f_latest f_at f_names f_pieces f_songLong f_guesses f_todo f_settings_56) := hD
    refine lv_iload_n hx hb dX11_set_57 rfl (lv_at hl 0 rfl) ?_
    obtain ⟨e1, e2⟩ := ti2 hf
    subst e1; subst e2
    exact kretM C hP hD hS dX11_set_58
  · have hf := kpos hc hf
    refine lv_bipush (v := (-2)) hx hb dX11_set_40 (by decide) ?_
    obtain ⟨e1, e2⟩ := ti2 hf
    subst e1; subst e2
    exact kretM C hP hD hS dX11_set_42
set_option maxHeartbeats 4000000 in
set_option maxRecDepth 100000 in
theorem t_Mo_set_b24 {p : Program} {l : Launch} {e : Env} {s : State} {m : MethodId} {args : Array Value} {below : List Frame} {meth : Method} {c : Code} {D : va_G} {ct : Nat → ClassId} (C : CX p s m args meth c RX11 cX11_set 4 (some .int) D ct) {A : Nat → Prop} (hA : ∀ q : Nat, s.heap.size ≤ q → A q) (a_this a_forms a_sizes a_items a_moved a_bytes a_typed a_chances a_longs a_letters a_isThere a_pieceLongs a_pieceLetters a_song a_settings a_guess a_row a_least a_nights : Nat) (f_latest : Int32) (f_at : Int32) (f_names : Int32) (f_pieces : Int32) (f_songLong : Int32) (f_guesses : Int32) (f_todo : Int32) (x1 : Int32) (x2 : Int32) (r : Int32) (r_settings : Nat → Int32) : ∀ (k0 : Int64) (f_settings : Nat → Int32), Mo_set_b24 x1 x2 k0 f_settings = some (r, r_settings) → ∀ (H : Heap) (locs : List Loc), va_P D vwCl (w_Mo_set ct a_this a_forms a_sizes a_items a_moved a_bytes a_typed a_chances a_longs a_letters a_isThere a_pieceLongs a_pieceLetters a_song a_settings a_guess a_row a_least a_nights f_latest f_at f_names f_pieces f_songLong f_guesses f_todo f_settings) H → va_D A (w_Mo_set ct a_this a_forms a_sizes a_items a_moved a_bytes a_typed a_chances a_longs a_letters a_isThere a_pieceLongs a_pieceLetters a_song a_settings a_guess a_row a_least a_nights f_latest f_at f_names f_pieces f_songLong f_guesses f_todo f_settings) → va_S A s.heap H locs → ∀ ls : Array Slot, lv_has ls 4 [(0, .ref a_this), (1, .int x1), (2, .int x2)] → W p l e RM_Mo_set s m args below meth c H locs 0 0 (MQ below (QM D (some (.int r)) (w_Mo_set ct a_this a_forms a_sizes a_items a_moved a_bytes a_typed a_chances a_longs a_letters a_isThere a_pieceLongs a_pieceLetters a_song a_settings a_guess a_row a_least a_nights f_latest f_at f_names f_pieces f_songLong f_guesses f_todo r_settings) A) args s 0 0 A) (F0 m 24 ls [.long k0]) := by
  obtain ⟨hx, hb, hr, hml, hown, hts, hlk, hK, hN⟩ := id C
  intro k0 f_settings hf H locs hP hD hS ls hl
  unfold Mo_set_b24 at hf
  refine lv_lconst (v := 0) hx hb dX11_set_24 (by decide) ?_
  refine lv_goto (tgt := 29) hx hb dX11_set_25 (by decide) ?_
  exact t_Mo_set_b29 C hA a_this a_forms a_sizes a_items a_moved a_bytes a_typed a_chances a_longs a_letters a_isThere a_pieceLongs a_pieceLetters a_song a_settings a_guess a_row a_least a_nights f_latest f_at f_names f_pieces f_songLong f_guesses f_todo x1 x2 r r_settings k0 0 f_settings hf _ _ hP hD hS _ (lv_sub hl [0, 1, 2] rfl)
set_option maxHeartbeats 4000000 in
set_option maxRecDepth 100000 in
theorem c_Mo_set (l : Launch) (D : va_G) (ct : Nat → ClassId) (a_this a_forms a_sizes a_items a_moved a_bytes a_typed a_chances a_longs a_letters a_isThere a_pieceLongs a_pieceLetters a_song a_settings a_guess a_row a_least a_nights : Nat) (f_latest : Int32) (f_at : Int32) (f_names : Int32) (f_pieces : Int32) (f_songLong : Int32) (f_guesses : Int32) (f_todo : Int32) (f_settings : Nat → Int32) (x1 : Int32) (x2 : Int32) (r : Int32) (r_settings : Nat → Int32) (sz : Nat) (hf : Mo_set f_settings x1 x2 = some (r, r_settings)) : Met l yX11_set (WS yX11_set cX11_set 4 (some .int)) RM_Mo_set (va_Pc [.ref a_this, .int x1, .int x2] (PM D ct sz (w_Mo_set ct a_this a_forms a_sizes a_items a_moved a_bytes a_typed a_chances a_longs a_letters a_isThere a_pieceLongs a_pieceLetters a_song a_settings a_guess a_row a_least a_nights f_latest f_at f_names f_pieces f_songLong f_guesses f_todo f_settings))) (QM D (some (.int r)) (w_Mo_set ct a_this a_forms a_sizes a_items a_moved a_bytes a_typed a_chances a_longs a_letters a_isThere a_pieceLongs a_pieceLetters a_song a_settings a_guess a_row a_least a_nights f_latest f_at f_names f_pieces f_songLong f_guesses f_todo r_settings) (va_A (w_Mo_set ct a_this a_forms a_sizes a_items a_moved a_bytes a_typed a_chances a_longs a_letters a_isThere a_pieceLongs a_pieceLetters a_song a_settings a_guess a_row a_least a_nights f_latest f_at f_names f_pieces f_songLong f_guesses f_todo f_settings) sz)) 0 0 (va_A (w_Mo_set ct a_this a_forms a_sizes a_items a_moved a_bytes a_typed a_chances a_longs a_letters a_isThere a_pieceLongs a_pieceLetters a_song a_settings a_guess a_row a_least a_nights f_latest f_at f_names f_pieces f_songLong f_guesses f_todo f_settings) sz) := by
  refine kMetM yn_yX11_set rfl (Nat.le_of_ble_eq_true rfl) ?_
  intro p e s m args below meth c A C hA hP hD ls hl
  have hl : lv_has ls 4 [(0, .ref a_this), (1, .int x1), (2, .int x2)] := hl
  have hS : va_S A s.heap s.heap [] := va_S.rf
  obtain ⟨hx, hb, hr, hml, hown, hts, hlk, hK, hN⟩ := id C
  unfold Mo_set at hf
  refine lv_iload_n hx hb dX11_set_0 rfl (lv_at hl 1 rfl) ?_
  refine lv_i2l (v := Int32.toInt64 x1) hx hb dX11_set_1 rfl ?_
  refine lv_lconst (v := 0) hx hb dX11_set_2 (by decide) ?_
  refine lv_ldc2 (v := 4) hx hb hown (hts _ tw_1136) dX11_set_3 ?_
  obtain ⟨v6, hc6, hf⟩ := cb1_some hf
  refine kcRS (As := [.long (Int32.toInt64 x1), .long 0, .long 4]) (rest := []) (st1 := [.int v6]) C (c_Mo_in l D ct (Int32.toInt64 x1) 0 4 v6 hc6) ⟨rfl, rfl⟩ yn_yX11_in tw_1031 tw_1030 ⟨Nat.le_of_ble_eq_true rfl, Nat.le_of_ble_eq_true rfl⟩ ⟨Nat.zero_le _, Nat.zero_le _⟩ hP [] rfl hl.1 rfl rfl (Nat.le_of_ble_eq_true rfl) dX11_set_6 rfl ?_
  refine lv_if_eq (tgt := 40) hx hb dX11_set_9 (by decide) (fun hc => ?_) (fun hc => ?_)
  · have hf := kpos hc hf
    refine lv_bipush (v := (-2)) hx hb dX11_set_40 (by decide) ?_
    obtain ⟨e1, e2⟩ := ti2 hf
    subst e1; subst e2
    exact kretM C hP hD hS dX11_set_42
  · have hf := kneg hc hf
    refine lv_iload_n hx hb dX11_set_12 rfl (lv_at hl 2 rfl) ?_
    refine lv_i2l (v := Int32.toInt64 x2) hx hb dX11_set_13 rfl ?_
    refine lv_iload_n hx hb dX11_set_14 rfl (lv_at hl 1 rfl) ?_
    refine lv_iconst (v := 1) hx hb dX11_set_15 (by decide) ?_
    refine lv_icmp_eq (tgt := 24) hx hb dX11_set_16 (by decide) (fun hc => ?_) (fun hc => ?_)
    · have hf := kpos hc hf
      exact t_Mo_set_b24 C hA a_this a_forms a_sizes a_items a_moved a_bytes a_typed a_chances a_longs a_letters a_isThere a_pieceLongs a_pieceLetters a_song a_settings a_guess a_row a_least a_nights f_latest f_at f_names f_pieces f_songLong f_guesses f_todo x1 x2 r r_settings (Int32.toInt64 x2) f_settings hf _ _ hP hD hS _ (lv_sub hl [0, 1, 2] rfl)
    · have hf := kneg hc hf
      refine lv_iload_n hx hb dX11_set_19 rfl (lv_at hl 1 rfl) ?_
      refine lv_iconst (v := 3) hx hb dX11_set_20 (by decide) ?_
      refine lv_icmp_ne (tgt := 28) hx hb dX11_set_21 (by decide) (fun hc => ?_) (fun hc => ?_)
      · have hf := kneg hc hf
        refine lv_lconst (v := 1) hx hb dX11_set_28 (by decide) ?_
        exact t_Mo_set_b29 C hA a_this a_forms a_sizes a_items a_moved a_bytes a_typed a_chances a_longs a_letters a_isThere a_pieceLongs a_pieceLetters a_song a_settings a_guess a_row a_least a_nights f_latest f_at f_names f_pieces f_songLong f_guesses f_todo x1 x2 r r_settings (Int32.toInt64 x2) 1 f_settings hf _ _ hP hD hS _ (lv_sub hl [0, 1, 2] rfl)
      · have hf := kpos hc hf
        exact t_Mo_set_b24 C hA a_this a_forms a_sizes a_items a_moved a_bytes a_typed a_chances a_longs a_letters a_isThere a_pieceLongs a_pieceLetters a_song a_settings a_guess a_row a_least a_nights f_latest f_at f_names f_pieces f_songLong f_guesses f_todo x1 x2 r r_settings (Int32.toInt64 x2) f_settings hf _ _ hP hD hS _ (lv_sub hl [0, 1, 2] rfl)
def RM_Mo_guess : Room := { frames := 1, cells := 0, slots := 0, locals := 25 }
set_option maxHeartbeats 4000000 in
set_option maxRecDepth 100000 in
theorem c_Mo_guess (l : Launch) (D : va_G) (ct : Nat → ClassId) (a_this a_forms a_sizes a_items a_moved a_bytes a_typed a_chances a_longs a_letters a_isThere a_pieceLongs a_pieceLetters a_song a_settings a_guess a_row a_least a_nights : Nat) (f_latest : Int32) (f_at : Int32) (f_names : Int32) (f_pieces : Int32) (f_songLong : Int32) (f_todo : Int32) (f_guesses : Int32) (f_guess : Nat → Int32) (x1 : Int32) (r : Int32) (r_guesses : Int32) (r_guess : Nat → Int32) (sz : Nat) (hf : Mo_guess f_guesses f_guess x1 = some (r, r_guesses, r_guess)) : Met l yX11_guess (WS yX11_guess cX11_guess 2 (some .int)) RM_Mo_guess (va_Pc [.ref a_this, .int x1] (PM D ct sz (w_Mo_guess ct a_this a_forms a_sizes a_items a_moved a_bytes a_typed a_chances a_longs a_letters a_isThere a_pieceLongs a_pieceLetters a_song a_settings a_guess a_row a_least a_nights f_latest f_at f_names f_pieces f_songLong f_guesses f_todo f_guess))) (QM D (some (.int r)) (w_Mo_guess ct a_this a_forms a_sizes a_items a_moved a_bytes a_typed a_chances a_longs a_letters a_isThere a_pieceLongs a_pieceLetters a_song a_settings a_guess a_row a_least a_nights f_latest f_at f_names f_pieces f_songLong r_guesses f_todo r_guess) (va_A (w_Mo_guess ct a_this a_forms a_sizes a_items a_moved a_bytes a_typed a_chances a_longs a_letters a_isThere a_pieceLongs a_pieceLetters a_song a_settings a_guess a_row a_least a_nights f_latest f_at f_names f_pieces f_songLong f_guesses f_todo f_guess) sz)) 0 0 (va_A (w_Mo_guess ct a_this a_forms a_sizes a_items a_moved a_bytes a_typed a_chances a_longs a_letters a_isThere a_pieceLongs a_pieceLetters a_song a_settings a_guess a_row a_least a_nights f_latest f_at f_names f_pieces f_songLong f_guesses f_todo f_guess) sz) := by
  refine kMetM yn_yX11_guess rfl (Nat.le_of_ble_eq_true rfl) ?_
  intro p e s m args below meth c A C hA hP hD ls hl
  have hl : lv_has ls 2 [(0, .ref a_this), (1, .int x1)] := hl
  have hS : va_S A s.heap s.heap [] := va_S.rf
  obtain ⟨hx, hb, hr, hml, hown, hts, hlk, hK, hN⟩ := id C
  unfold Mo_guess at hf
  refine lv_iload_n hx hb dX11_guess_0 rfl (lv_at hl 1 rfl) ?_
  refine lv_i2l (v := Int32.toInt64 x1) hx hb dX11_guess_1 rfl ?_
  refine lv_lconst (v := 0) hx hb dX11_guess_2 (by decide) ?_
  refine lv_ldc2 (v := 9) hx hb hown (hts _ tw_1097) dX11_guess_3 ?_
  obtain ⟨v6, hc6, hf⟩ := cb1_some hf
  refine kcRS (As := [.long (Int32.toInt64 x1), .long 0, .long 9]) (rest := []) (st1 := [.int v6]) C (c_Mo_in l D ct (Int32.toInt64 x1) 0 9 v6 hc6) ⟨rfl, rfl⟩ yn_yX11_in tw_1031 tw_1030 ⟨Nat.le_of_ble_eq_true rfl, Nat.le_of_ble_eq_true rfl⟩ ⟨Nat.zero_le _, Nat.zero_le _⟩ hP [] rfl hl.1 rfl rfl (Nat.le_of_ble_eq_true rfl) dX11_guess_6 rfl ?_
  refine lv_if_ne (tgt := 15) hx hb dX11_guess_9 (by decide) (fun hc => ?_) (fun hc => ?_)
  · have hf := kneg hc hf
    refine lv_aload_n hx hb dX11_guess_15 rfl (lv_at hl 0 rfl) ?_
    refine va_get (ci := 11) (v := .int f_guesses) (C := RX11) (T := TX11) (N := 25) hx hb hts inX11 hown hK hP 0 rfl rfl 19 (by decide) (hts _ tw_964) (fun _ h9 => h9) rfl dX11_guess_16 ?_
    refine lv_bipush (v := 12) hx hb dX11_guess_19 (by decide) ?_
    refine lv_icmp_ne (tgt := 27) hx hb dX11_guess_21 (by decide) (fun hc => ?_) (fun hc => ?_)
    · have hf := kneg hc hf
      refine lv_aload_n hx hb dX11_guess_27 rfl (lv_at hl 0 rfl) ?_
      refine va_get (ci := 11) (v := .ref a_guess) (C := RX11) (T := TX11) (N := 25) hx hb hts inX11 hown hK hP 0 rfl rfl 20 (by decide) (hts _ tw_965) (fun _ h9 => h9) rfl dX11_guess_28 ?_
      refine lv_aload_n hx hb dX11_guess_31 rfl (lv_at hl 0 rfl) ?_
      refine va_get (ci := 11) (v := .int f_guesses) (C := RX11) (T := TX11) (N := 25) hx hb hts inX11 hown hK hP 0 rfl rfl 19 (by decide) (hts _ tw_964) (fun _ h9 => h9) rfl dX11_guess_32 ?_
      refine lv_iload_n hx hb dX11_guess_35 rfl (lv_at hl 1 rfl) ?_
      obtain ⟨hin, f_guess_36, ev36, hf⟩ := wr_ex hf
      refine kiast hx hb hK hP hD hS 1 0 rfl rfl hin ev36 dX11_guess_36 (fun H locs hP hD hS => ?_)
      have hP : va_P D vwCl (w_Mo_guess ct a_this a_forms a_sizes a_items a_moved a_bytes a_typed a_chances a_longs a_letters a_isThere a_pieceLongs a_pieceLetters a_song a_settings a_guess a_row a_least a_nights f_latest f_at f_names f_pieces f_songLong f_guesses f_todo f_guess_36) H := hP
      have hD : va_D A (w_Mo_guess ct a_this a_forms a_sizes a_items a_moved a_bytes a_typed a_chances a_longs a_letters a_isThere a_pieceLongs a_pieceLetters a_song a_settings a_guess a_row a_least a_nights f_latest f_at f_names f_pieces f_songLong f_guesses f_todo f_guess_36) := hD
      refine lv_aload_n hx hb dX11_guess_37 rfl (lv_at hl 0 rfl) ?_
      refine lv_dup hx hb dX11_guess_38 rfl ?_
      refine va_get (ci := 11) (v := .int f_guesses) (C := RX11) (T := TX11) (N := 25) hx hb hts inX11 hown hK hP 0 rfl rfl 19 (by decide) (hts _ tw_964) (fun _ h9 => h9) rfl dX11_guess_39 ?_
      refine lv_iconst (v := 1) hx hb dX11_guess_42 (by decide) ?_
      refine lv_iadd hx hb dX11_guess_43 ?_
      refine va_put (ci := 11) (v := .int (f_guesses + 1)) (ty := .int) (C := RX11) (T := TX11) (N := 25) hx hb hts inX11 tyX11 tyX11_ok nmX11 hown hK hP hD hS 0 rfl rfl 19 (by decide) (hts _ tw_964) (fun _ h9 => h9) rfl (tyX11_ok 19 (by decide)) rfl rfl (Nat.le_of_ble_eq_true rfl) dX11_guess_44 (fun H locs hP hD hS => ?_)
      have hP : va_P D vwCl (w_Mo_guess ct a_this a_forms a_sizes a_items a_moved a_bytes a_typed a_chances a_longs a_letters a_isThere a_pieceLongs a_pieceLetters a_song a_settings a_guess a_row a_least a_nights f_latest f_at f_names f_pieces f_songLong (f_guesses + 1) f_todo f_guess_36) H := hP
      have hD : va_D A (w_Mo_guess ct a_this a_forms a_sizes a_items a_moved a_bytes a_typed a_chances a_longs a_letters a_isThere a_pieceLongs a_pieceLetters a_song a_settings a_guess a_row a_least a_nights f_latest f_at f_names f_pieces f_songLong (f_guesses + 1) f_todo f_guess_36) := hD
      refine lv_aload_n hx hb dX11_guess_47 rfl (lv_at hl 0 rfl) ?_
      refine va_get (ci := 11) (v := .int (f_guesses + 1)) (C := RX11) (T := TX11) (N := 25) hx hb hts inX11 hown hK hP 0 rfl rfl 19 (by decide) (hts _ tw_964) (fun _ h9 => h9) rfl dX11_guess_48 ?_
      obtain ⟨e1, e2, e3⟩ := ti3 hf
      subst e1; subst e2; subst e3
      exact kretM C hP hD hS dX11_guess_51
    · have hf := kpos hc hf
      refine lv_bipush (v := (-4)) hx hb dX11_guess_24 (by decide) ?_
      obtain ⟨e1, e2, e3⟩ := ti3 hf
      subst e1; subst e2; subst e3
      exact kretM C hP hD hS dX11_guess_26
  · have hf := kpos hc hf
    refine lv_bipush (v := (-2)) hx hb dX11_guess_12 (by decide) ?_
    obtain ⟨e1, e2, e3⟩ := ti3 hf
    subst e1; subst e2; subst e3
    exact kretM C hP hD hS dX11_guess_14
def RM_Mo_unguess : Room := { frames := 0, cells := 0, slots := 0, locals := 0 }
set_option maxHeartbeats 4000000 in
set_option maxRecDepth 100000 in
theorem c_Mo_unguess (l : Launch) (D : va_G) (ct : Nat → ClassId) (a_this a_forms a_sizes a_items a_moved a_bytes a_typed a_chances a_longs a_letters a_isThere a_pieceLongs a_pieceLetters a_song a_settings a_guess a_row a_least a_nights : Nat) (f_latest : Int32) (f_at : Int32) (f_names : Int32) (f_pieces : Int32) (f_songLong : Int32) (f_todo : Int32) (f_guesses : Int32) (r : Int32) (r_guesses : Int32) (sz : Nat) (hf : Mo_unguess f_guesses = some (r, r_guesses)) : Met l yX11_unguess (WS yX11_unguess cX11_unguess 1 (some .int)) RM_Mo_unguess (va_Pc [.ref a_this] (PM D ct sz (w_Mo_unguess ct a_this a_forms a_sizes a_items a_moved a_bytes a_typed a_chances a_longs a_letters a_isThere a_pieceLongs a_pieceLetters a_song a_settings a_guess a_row a_least a_nights f_latest f_at f_names f_pieces f_songLong f_guesses f_todo))) (QM D (some (.int r)) (w_Mo_unguess ct a_this a_forms a_sizes a_items a_moved a_bytes a_typed a_chances a_longs a_letters a_isThere a_pieceLongs a_pieceLetters a_song a_settings a_guess a_row a_least a_nights f_latest f_at f_names f_pieces f_songLong r_guesses f_todo) (va_A (w_Mo_unguess ct a_this a_forms a_sizes a_items a_moved a_bytes a_typed a_chances a_longs a_letters a_isThere a_pieceLongs a_pieceLetters a_song a_settings a_guess a_row a_least a_nights f_latest f_at f_names f_pieces f_songLong f_guesses f_todo) sz)) 0 0 (va_A (w_Mo_unguess ct a_this a_forms a_sizes a_items a_moved a_bytes a_typed a_chances a_longs a_letters a_isThere a_pieceLongs a_pieceLetters a_song a_settings a_guess a_row a_least a_nights f_latest f_at f_names f_pieces f_songLong f_guesses f_todo) sz) := by
  refine kMetM yn_yX11_unguess rfl (Nat.le_of_ble_eq_true rfl) ?_
  intro p e s m args below meth c A C hA hP hD ls hl
  have hl : lv_has ls 1 [(0, .ref a_this)] := hl
  have hS : va_S A s.heap s.heap [] := va_S.rf
  obtain ⟨hx, hb, hr, hml, hown, hts, hlk, hK, hN⟩ := id C
  unfold Mo_unguess at hf
  refine lv_aload_n hx hb dX11_unguess_0 rfl (lv_at hl 0 rfl) ?_
  refine va_get (ci := 11) (v := .int f_guesses) (C := RX11) (T := TX11) (N := 25) hx hb hts inX11 hown hK hP 0 rfl rfl 19 (by decide) (hts _ tw_964) (fun _ h9 => h9) rfl dX11_unguess_1 ?_
  refine lv_if_ne (tgt := 10) hx hb dX11_unguess_4 (by decide) (fun hc => ?_) (fun hc => ?_)
  · have hf := kneg hc hf
    refine lv_aload_n hx hb dX11_unguess_10 rfl (lv_at hl 0 rfl) ?_
    refine lv_dup hx hb dX11_unguess_11 rfl ?_
    refine va_get (ci := 11) (v := .int f_guesses) (C := RX11) (T := TX11) (N := 25) hx hb hts inX11 hown hK hP 0 rfl rfl 19 (by decide) (hts _ tw_964) (fun _ h9 => h9) rfl dX11_unguess_12 ?_
    refine lv_iconst (v := 1) hx hb dX11_unguess_15 (by decide) ?_
    refine lv_isub hx hb dX11_unguess_16 ?_
    refine va_put (ci := 11) (v := .int (f_guesses - 1)) (ty := .int) (C := RX11) (T := TX11) (N := 25) hx hb hts inX11 tyX11 tyX11_ok nmX11 hown hK hP hD hS 0 rfl rfl 19 (by decide) (hts _ tw_964) (fun _ h9 => h9) rfl (tyX11_ok 19 (by decide)) rfl rfl (Nat.le_of_ble_eq_true rfl) dX11_unguess_17 (fun H locs hP hD hS => ?_)
    have hP : va_P D vwCl (w_Mo_unguess ct a_this a_forms a_sizes a_items a_moved a_bytes a_typed a_chances a_longs a_letters a_isThere a_pieceLongs a_pieceLetters a_song a_settings a_guess a_row a_least a_nights f_latest f_at f_names f_pieces f_songLong (f_guesses - 1) f_todo) H := hP
    have hD : va_D A (w_Mo_unguess ct a_this a_forms a_sizes a_items a_moved a_bytes a_typed a_chances a_longs a_letters a_isThere a_pieceLongs a_pieceLetters a_song a_settings a_guess a_row a_least a_nights f_latest f_at f_names f_pieces f_songLong (f_guesses - 1) f_todo) := hD
    refine lv_aload_n hx hb dX11_unguess_20 rfl (lv_at hl 0 rfl) ?_
    refine va_get (ci := 11) (v := .int (f_guesses - 1)) (C := RX11) (T := TX11) (N := 25) hx hb hts inX11 hown hK hP 0 rfl rfl 19 (by decide) (hts _ tw_964) (fun _ h9 => h9) rfl dX11_unguess_21 ?_
    obtain ⟨e1, e2⟩ := ti2 hf
    subst e1; subst e2
    exact kretM C hP hD hS dX11_unguess_24
  · have hf := kpos hc hf
    refine lv_bipush (v := (-3)) hx hb dX11_unguess_7 (by decide) ?_
    obtain ⟨e1, e2⟩ := ti2 hf
    subst e1; subst e2
    exact kretM C hP hD hS dX11_unguess_9
def RM_Mo_read : Room := { frames := 2, cells := 0, slots := 0, locals := 45 }
set_option maxHeartbeats 4000000 in
set_option maxRecDepth 100000 in
theorem t_Mo_read_b113 {p : Program} {l : Launch} {e : Env} {s : State} {m : MethodId} {args : Array Value} {below : List Frame} {meth : Method} {c : Code} {D : va_G} {ct : Nat → ClassId} (C : CX p s m args meth c RX11 cX11_read 2 (some .int) D ct) {A : Nat → Prop} (hA : ∀ q : Nat, s.heap.size ≤ q → A q) (a_this a_forms a_sizes a_items a_moved a_bytes a_typed a_chances a_longs a_letters a_isThere a_pieceLongs a_pieceLetters a_song a_settings a_guess a_row a_least a_nights : Nat) (f_at : Int32) (f_names : Int32) (f_pieces : Int32) (f_songLong : Int32) (f_todo : Int32) (F : Nat) (f_forms : Nat → Int32) (f_sizes : Nat → Int32) (f_items : Nat → Int32) (x1 : Int32) (r : Int32) (r_latest : Int32) (r_guesses : Int32) (r_guess : Nat → Int32) : ∀ (f_latest : Int32) (f_guesses : Int32) (f_guess : Nat → Int32), Mo_read_b113 F f_forms f_sizes f_items x1 f_latest f_guesses f_guess = some (r, r_latest, r_guesses, r_guess) → ∀ (H : Heap) (locs : List Loc), va_P D vwCl (w_Mo_read ct a_this a_forms a_sizes a_items a_moved a_bytes a_typed a_chances a_longs a_letters a_isThere a_pieceLongs a_pieceLetters a_song a_settings a_guess a_row a_least a_nights f_latest f_at f_names f_pieces f_songLong f_guesses f_todo f_forms f_sizes f_items f_guess) H → va_D A (w_Mo_read ct a_this a_forms a_sizes a_items a_moved a_bytes a_typed a_chances a_longs a_letters a_isThere a_pieceLongs a_pieceLetters a_song a_settings a_guess a_row a_least a_nights f_latest f_at f_names f_pieces f_songLong f_guesses f_todo f_forms f_sizes f_items f_guess) → va_S A s.heap H locs → ∀ ls : Array Slot, lv_has ls 2 [(0, .ref a_this)] → W p l e RM_Mo_read s m args below meth c H locs 0 0 (MQ below (QM D (some (.int r)) (w_Mo_read ct a_this a_forms a_sizes a_items a_moved a_bytes a_typed a_chances a_longs a_letters a_isThere a_pieceLongs a_pieceLetters a_song a_settings a_guess a_row a_least a_nights r_latest f_at f_names f_pieces f_songLong r_guesses f_todo f_forms f_sizes f_items r_guess) A) args s 0 0 A) (F0 m 113 ls []) := by
  obtain ⟨hx, hb, hr, hml, hown, hts, hlk, hK, hN⟩ := id C
  intro f_latest f_guesses f_guess hf H locs hP hD hS ls hl
  unfold Mo_read_b113 at hf
  refine lv_aload_n hx hb dX11_read_113 rfl (lv_at hl 0 rfl) ?_
  refine va_get (ci := 11) (v := .int f_guesses) (C := RX11) (T := TX11) (N := 25) hx hb hts inX11 hown hK hP 0 rfl rfl 19 (by decide) (hts _ tw_964) (fun _ h9 => h9) rfl dX11_read_114 ?_
  obtain ⟨e1, e2, e3, e4⟩ := ti4 hf
  subst e1; subst e2; subst e3; subst e4
  exact kretM C hP hD hS dX11_read_117
set_option maxHeartbeats 4000000 in
set_option maxRecDepth 100000 in
theorem t_Mo_read_b30 {p : Program} {l : Launch} {e : Env} {s : State} {m : MethodId} {args : Array Value} {below : List Frame} {meth : Method} {c : Code} {D : va_G} {ct : Nat → ClassId} (C : CX p s m args meth c RX11 cX11_read 2 (some .int) D ct) {A : Nat → Prop} (hA : ∀ q : Nat, s.heap.size ≤ q → A q) (a_this a_forms a_sizes a_items a_moved a_bytes a_typed a_chances a_longs a_letters a_isThere a_pieceLongs a_pieceLetters a_song a_settings a_guess a_row a_least a_nights : Nat) (f_at : Int32) (f_names : Int32) (f_pieces : Int32) (f_songLong : Int32) (f_todo : Int32) (F : Nat) (f_forms : Nat → Int32) (f_sizes : Nat → Int32) (f_items : Nat → Int32) (x1 : Int32) (r : Int32) (r_latest : Int32) (r_guesses : Int32) (r_guess : Nat → Int32) (rec30 : Int32 → Int32 → (Nat → Int32) → Option (Int32 × Int32 × Int32 × (Nat → Int32))) (hr30 : ∀ (f_latest : Int32) (f_guesses : Int32) (f_guess : Nat → Int32), rec30 f_latest f_guesses f_guess = some (r, r_latest, r_guesses, r_guess) → ∀ (H : Heap) (locs : List Loc), va_P D vwCl (w_Mo_read ct a_this a_forms a_sizes a_items a_moved a_bytes a_typed a_chances a_longs a_letters a_isThere a_pieceLongs a_pieceLetters a_song a_settings a_guess a_row a_least a_nights f_latest f_at f_names f_pieces f_songLong f_guesses f_todo f_forms f_sizes f_items f_guess) H → va_D A (w_Mo_read ct a_this a_forms a_sizes a_items a_moved a_bytes a_typed a_chances a_longs a_letters a_isThere a_pieceLongs a_pieceLetters a_song a_settings a_guess a_row a_least a_nights f_latest f_at f_names f_pieces f_songLong f_guesses f_todo f_forms f_sizes f_items f_guess) → va_S A s.heap H locs → ∀ ls : Array Slot, lv_has ls 2 [(0, .ref a_this), (1, .int x1)] → W p l e RM_Mo_read s m args below meth c H locs 0 0 (MQ below (QM D (some (.int r)) (w_Mo_read ct a_this a_forms a_sizes a_items a_moved a_bytes a_typed a_chances a_longs a_letters a_isThere a_pieceLongs a_pieceLetters a_song a_settings a_guess a_row a_least a_nights r_latest f_at f_names f_pieces f_songLong r_guesses f_todo f_forms f_sizes f_items r_guess) A) args s 0 0 A) (F0 m 30 ls [])) : ∀ (f_latest : Int32) (f_guesses : Int32) (f_guess : Nat → Int32), Mo_read_b30 F f_forms f_sizes f_items x1 rec30 f_latest f_guesses f_guess = some (r, r_latest, r_guesses, r_guess) → ∀ (H : Heap) (locs : List Loc), va_P D vwCl (w_Mo_read ct a_this a_forms a_sizes a_items a_moved a_bytes a_typed a_chances a_longs a_letters a_isThere a_pieceLongs a_pieceLetters a_song a_settings a_guess a_row a_least a_nights f_latest f_at f_names f_pieces f_songLong f_guesses f_todo f_forms f_sizes f_items f_guess) H → va_D A (w_Mo_read ct a_this a_forms a_sizes a_items a_moved a_bytes a_typed a_chances a_longs a_letters a_isThere a_pieceLongs a_pieceLetters a_song a_settings a_guess a_row a_least a_nights f_latest f_at f_names f_pieces f_songLong f_guesses f_todo f_forms f_sizes f_items f_guess) → va_S A s.heap H locs → ∀ ls : Array Slot, lv_has ls 2 [(0, .ref a_this), (1, .int x1)] → W p l e RM_Mo_read s m args below meth c H locs 0 0 (MQ below (QM D (some (.int r)) (w_Mo_read ct a_this a_forms a_sizes a_items a_moved a_bytes a_typed a_chances a_longs a_letters a_isThere a_pieceLongs a_pieceLetters a_song a_settings a_guess a_row a_least a_nights r_latest f_at f_names f_pieces f_songLong r_guesses f_todo f_forms f_sizes f_items r_guess) A) args s 0 0 A) (F0 m 30 ls []) := by
  obtain ⟨hx, hb, hr, hml, hown, hts, hlk, hK, hN⟩ := id C
  intro f_latest f_guesses f_guess hf H locs hP hD hS ls hl
  unfold Mo_read_b30 at hf
  refine lv_aload_n hx hb dX11_read_30 rfl (lv_at hl 0 rfl) ?_
  refine va_get (ci := 11) (v := .int f_guesses) (C := RX11) (T := TX11) (N := 25) hx hb hts inX11 hown hK hP 0 rfl rfl 19 (by decide) (hts _ tw_964) (fun _ h9 => h9) rfl dX11_read_31 ?_
  refine lv_aload_n hx hb dX11_read_34 rfl (lv_at hl 0 rfl) ?_
  refine va_get (ci := 11) (v := .ref a_sizes) (C := RX11) (T := TX11) (N := 25) hx hb hts inX11 hown hK hP 0 rfl rfl 1 (by decide) (hts _ tw_946) (fun _ h9 => h9) rfl dX11_read_35 ?_
  refine lv_iload_n hx hb dX11_read_38 rfl (lv_at hl 1 rfl) ?_
  obtain ⟨hin, hf⟩ := rd_some hf
  generalize ev39 : f_sizes (Int32.toNatClampNeg x1) = v39 at hf
  refine kiald hx hb hK hP 2 0 rfl rfl hin ev39 dX11_read_39 ?_
  refine lv_icmp_ge (tgt := 113) hx hb dX11_read_40 (by decide) (fun hc => ?_) (fun hc => ?_)
  · have hf := kpos hc hf
    exact t_Mo_read_b113 C hA a_this a_forms a_sizes a_items a_moved a_bytes a_typed a_chances a_longs a_letters a_isThere a_pieceLongs a_pieceLetters a_song a_settings a_guess a_row a_least a_nights f_at f_names f_pieces f_songLong f_todo F f_forms f_sizes f_items x1 r r_latest r_guesses r_guess f_latest f_guesses f_guess hf _ _ hP hD hS _ (lv_sub hl [0] rfl)
  · have hf := kneg hc hf
    refine lv_aload_n hx hb dX11_read_43 rfl (lv_at hl 0 rfl) ?_
    refine va_get (ci := 11) (v := .int f_guesses) (C := RX11) (T := TX11) (N := 25) hx hb hts inX11 hown hK hP 0 rfl rfl 19 (by decide) (hts _ tw_964) (fun _ h9 => h9) rfl dX11_read_44 ?_
    refine lv_bipush (v := 12) hx hb dX11_read_47 (by decide) ?_
    refine lv_icmp_ge (tgt := 113) hx hb dX11_read_49 (by decide) (fun hc => ?_) (fun hc => ?_)
    · have hf := kpos hc hf
      exact t_Mo_read_b113 C hA a_this a_forms a_sizes a_items a_moved a_bytes a_typed a_chances a_longs a_letters a_isThere a_pieceLongs a_pieceLetters a_song a_settings a_guess a_row a_least a_nights f_at f_names f_pieces f_songLong f_todo F f_forms f_sizes f_items x1 r r_latest r_guesses r_guess f_latest f_guesses f_guess hf _ _ hP hD hS _ (lv_sub hl [0] rfl)
    · have hf := kneg hc hf
      refine lv_aload_n hx hb dX11_read_52 rfl (lv_at hl 0 rfl) ?_
      refine va_get (ci := 11) (v := .ref a_items) (C := RX11) (T := TX11) (N := 25) hx hb hts inX11 hown hK hP 0 rfl rfl 2 (by decide) (hts _ tw_947) (fun _ h9 => h9) rfl dX11_read_53 ?_
      refine lv_bipush (v := 60) hx hb dX11_read_56 (by decide) ?_
      refine lv_iload_n hx hb dX11_read_58 rfl (lv_at hl 1 rfl) ?_
      refine lv_imul hx hb dX11_read_59 ?_
      refine lv_aload_n hx hb dX11_read_60 rfl (lv_at hl 0 rfl) ?_
      refine va_get (ci := 11) (v := .int f_guesses) (C := RX11) (T := TX11) (N := 25) hx hb hts inX11 hown hK hP 0 rfl rfl 19 (by decide) (hts _ tw_964) (fun _ h9 => h9) rfl dX11_read_61 ?_
      refine lv_iadd hx hb dX11_read_64 ?_
      obtain ⟨hin, hf⟩ := rd_some hf
      generalize ev65 : f_items (Int32.toNatClampNeg ((60 * x1) + f_guesses)) = v65 at hf
      refine kiald hx hb hK hP 3 0 rfl rfl hin ev65 dX11_read_65 ?_
      refine lv_i2l (v := Int32.toInt64 v65) hx hb dX11_read_66 rfl ?_
      refine lv_lconst (v := 0) hx hb dX11_read_67 (by decide) ?_
      refine lv_ldc2 (v := 9) hx hb hown (hts _ tw_1097) dX11_read_68 ?_
      obtain ⟨v71, hc71, hf⟩ := cb1_some hf
      refine kcRS (As := [.long (Int32.toInt64 v65), .long 0, .long 9]) (rest := []) (st1 := [.int v71]) C (c_Mo_in l D ct (Int32.toInt64 v65) 0 9 v71 hc71) ⟨rfl, rfl⟩ yn_yX11_in tw_1031 tw_1030 ⟨Nat.le_of_ble_eq_true rfl, Nat.le_of_ble_eq_true rfl⟩ ⟨Nat.zero_le _, Nat.zero_le _⟩ hP [] rfl hl.1 rfl rfl (Nat.le_of_ble_eq_true rfl) dX11_read_71 rfl ?_
      refine lv_if_eq (tgt := 113) hx hb dX11_read_74 (by decide) (fun hc => ?_) (fun hc => ?_)
      · have hf := kpos hc hf
        exact t_Mo_read_b113 C hA a_this a_forms a_sizes a_items a_moved a_bytes a_typed a_chances a_longs a_letters a_isThere a_pieceLongs a_pieceLetters a_song a_settings a_guess a_row a_least a_nights f_at f_names f_pieces f_songLong f_todo F f_forms f_sizes f_items x1 r r_latest r_guesses r_guess f_latest f_guesses f_guess hf _ _ hP hD hS _ (lv_sub hl [0] rfl)
      · have hf := kneg hc hf
        refine lv_aload_n hx hb dX11_read_77 rfl (lv_at hl 0 rfl) ?_
        refine va_get (ci := 11) (v := .ref a_guess) (C := RX11) (T := TX11) (N := 25) hx hb hts inX11 hown hK hP 0 rfl rfl 20 (by decide) (hts _ tw_965) (fun _ h9 => h9) rfl dX11_read_78 ?_
        refine lv_aload_n hx hb dX11_read_81 rfl (lv_at hl 0 rfl) ?_
        refine va_get (ci := 11) (v := .int f_guesses) (C := RX11) (T := TX11) (N := 25) hx hb hts inX11 hown hK hP 0 rfl rfl 19 (by decide) (hts _ tw_964) (fun _ h9 => h9) rfl dX11_read_82 ?_
        refine lv_aload_n hx hb dX11_read_85 rfl (lv_at hl 0 rfl) ?_
        refine va_get (ci := 11) (v := .ref a_items) (C := RX11) (T := TX11) (N := 25) hx hb hts inX11 hown hK hP 0 rfl rfl 2 (by decide) (hts _ tw_947) (fun _ h9 => h9) rfl dX11_read_86 ?_
        refine lv_bipush (v := 60) hx hb dX11_read_89 (by decide) ?_
        refine lv_iload_n hx hb dX11_read_91 rfl (lv_at hl 1 rfl) ?_
        refine lv_imul hx hb dX11_read_92 ?_
        refine lv_aload_n hx hb dX11_read_93 rfl (lv_at hl 0 rfl) ?_
        refine va_get (ci := 11) (v := .int f_guesses) (C := RX11) (T := TX11) (N := 25) hx hb hts inX11 hown hK hP 0 rfl rfl 19 (by decide) (hts _ tw_964) (fun _ h9 => h9) rfl dX11_read_94 ?_
        refine lv_iadd hx hb dX11_read_97 ?_
        obtain ⟨hin, hf⟩ := rd_some hf
        generalize ev98 : f_items (Int32.toNatClampNeg ((60 * x1) + f_guesses)) = v98 at hf
        refine kiald hx hb hK hP 3 0 rfl rfl hin ev98 dX11_read_98 ?_
        obtain ⟨hin, f_guess_99, ev99, hf⟩ := wr_ex hf
        refine kiast hx hb hK hP hD hS 4 0 rfl rfl hin ev99 dX11_read_99 (fun H locs hP hD hS => ?_)
        have hP : va_P D vwCl (w_Mo_read ct a_this a_forms a_sizes a_items a_moved a_bytes a_typed a_chances a_longs a_letters a_isThere a_pieceLongs a_pieceLetters a_song a_settings a_guess a_row a_least a_nights f_latest f_at f_names f_pieces f_songLong f_guesses f_todo f_forms f_sizes f_items f_guess_99) H := hP
        have hD : va_D A (w_Mo_read ct a_this a_forms a_sizes a_items a_moved a_bytes a_typed a_chances a_longs a_letters a_isThere a_pieceLongs a_pieceLetters a_song a_settings a_guess a_row a_least a_nights f_latest f_at f_names f_pieces f_songLong f_guesses f_todo f_forms f_sizes f_items f_guess_99) := hD
        refine lv_aload_n hx hb dX11_read_100 rfl (lv_at hl 0 rfl) ?_
        refine lv_dup hx hb dX11_read_101 rfl ?_
        refine va_get (ci := 11) (v := .int f_guesses) (C := RX11) (T := TX11) (N := 25) hx hb hts inX11 hown hK hP 0 rfl rfl 19 (by decide) (hts _ tw_964) (fun _ h9 => h9) rfl dX11_read_102 ?_
        refine lv_iconst (v := 1) hx hb dX11_read_105 (by decide) ?_
        refine lv_iadd hx hb dX11_read_106 ?_
        refine va_put (ci := 11) (v := .int (f_guesses + 1)) (ty := .int) (C := RX11) (T := TX11) (N := 25) hx hb hts inX11 tyX11 tyX11_ok nmX11 hown hK hP hD hS 0 rfl rfl 19 (by decide) (hts _ tw_964) (fun _ h9 => h9) rfl (tyX11_ok 19 (by decide)) rfl rfl (Nat.le_of_ble_eq_true rfl) dX11_read_107 (fun H locs hP hD hS => ?_)
        have hP : va_P D vwCl (w_Mo_read ct a_this a_forms a_sizes a_items a_moved a_bytes a_typed a_chances a_longs a_letters a_isThere a_pieceLongs a_pieceLetters a_song a_settings a_guess a_row a_least a_nights f_latest f_at f_names f_pieces f_songLong (f_guesses + 1) f_todo f_forms f_sizes f_items f_guess_99) H := hP
        have hD : va_D A (w_Mo_read ct a_this a_forms a_sizes a_items a_moved a_bytes a_typed a_chances a_longs a_letters a_isThere a_pieceLongs a_pieceLetters a_song a_settings a_guess a_row a_least a_nights f_latest f_at f_names f_pieces f_songLong (f_guesses + 1) f_todo f_forms f_sizes f_items f_guess_99) := hD
        refine lv_goto (tgt := 30) hx hb dX11_read_110 (by decide) ?_
        exact hr30 f_latest (f_guesses + 1) f_guess_99 hf _ _ hP hD hS _ (lv_sub hl [0, 1] rfl)
set_option maxHeartbeats 4000000 in
set_option maxRecDepth 100000 in
theorem t_Mo_read_l30 {p : Program} {l : Launch} {e : Env} {s : State} {m : MethodId} {args : Array Value} {below : List Frame} {meth : Method} {c : Code} {D : va_G} {ct : Nat → ClassId} (C : CX p s m args meth c RX11 cX11_read 2 (some .int) D ct) {A : Nat → Prop} (hA : ∀ q : Nat, s.heap.size ≤ q → A q) (a_this a_forms a_sizes a_items a_moved a_bytes a_typed a_chances a_longs a_letters a_isThere a_pieceLongs a_pieceLetters a_song a_settings a_guess a_row a_least a_nights : Nat) (f_at : Int32) (f_names : Int32) (f_pieces : Int32) (f_songLong : Int32) (f_todo : Int32) (F : Nat) (f_forms : Nat → Int32) (f_sizes : Nat → Int32) (f_items : Nat → Int32) (x1 : Int32) (r : Int32) (r_latest : Int32) (r_guesses : Int32) (r_guess : Nat → Int32) : ∀ (n : Nat) (f_latest : Int32) (f_guesses : Int32) (f_guess : Nat → Int32), Mo_read_l30 F f_forms f_sizes f_items x1 n f_latest f_guesses f_guess = some (r, r_latest, r_guesses, r_guess) → ∀ (H : Heap) (locs : List Loc), va_P D vwCl (w_Mo_read ct a_this a_forms a_sizes a_items a_moved a_bytes a_typed a_chances a_longs a_letters a_isThere a_pieceLongs a_pieceLetters a_song a_settings a_guess a_row a_least a_nights f_latest f_at f_names f_pieces f_songLong f_guesses f_todo f_forms f_sizes f_items f_guess) H → va_D A (w_Mo_read ct a_this a_forms a_sizes a_items a_moved a_bytes a_typed a_chances a_longs a_letters a_isThere a_pieceLongs a_pieceLetters a_song a_settings a_guess a_row a_least a_nights f_latest f_at f_names f_pieces f_songLong f_guesses f_todo f_forms f_sizes f_items f_guess) → va_S A s.heap H locs → ∀ ls : Array Slot, lv_has ls 2 [(0, .ref a_this), (1, .int x1)] → W p l e RM_Mo_read s m args below meth c H locs 0 0 (MQ below (QM D (some (.int r)) (w_Mo_read ct a_this a_forms a_sizes a_items a_moved a_bytes a_typed a_chances a_longs a_letters a_isThere a_pieceLongs a_pieceLetters a_song a_settings a_guess a_row a_least a_nights r_latest f_at f_names f_pieces f_songLong r_guesses f_todo f_forms f_sizes f_items r_guess) A) args s 0 0 A) (F0 m 30 ls []) := by
  intro n
  induction n with
  | zero =>
    intro f_latest f_guesses f_guess hf
    exact absurd hf (by simp [Mo_read_l30])
  | succ n ih =>
    intro f_latest f_guesses f_guess hf
    exact t_Mo_read_b30 C hA a_this a_forms a_sizes a_items a_moved a_bytes a_typed a_chances a_longs a_letters a_isThere a_pieceLongs a_pieceLetters a_song a_settings a_guess a_row a_least a_nights f_at f_names f_pieces f_songLong f_todo F f_forms f_sizes f_items x1 r r_latest r_guesses r_guess (Mo_read_l30 F f_forms f_sizes f_items x1 n) ih f_latest f_guesses f_guess hf
set_option maxHeartbeats 4000000 in
set_option maxRecDepth 100000 in
theorem c_Mo_read (l : Launch) (D : va_G) (ct : Nat → ClassId) (a_this a_forms a_sizes a_items a_moved a_bytes a_typed a_chances a_longs a_letters a_isThere a_pieceLongs a_pieceLetters a_song a_settings a_guess a_row a_least a_nights : Nat) (f_at : Int32) (f_names : Int32) (f_pieces : Int32) (f_songLong : Int32) (f_todo : Int32) (F : Nat) (f_forms : Nat → Int32) (f_sizes : Nat → Int32) (f_items : Nat → Int32) (f_latest : Int32) (f_guesses : Int32) (f_guess : Nat → Int32) (x1 : Int32) (r : Int32) (r_latest : Int32) (r_guesses : Int32) (r_guess : Nat → Int32) (sz : Nat) (hf : Mo_read F f_forms f_sizes f_items f_latest f_guesses f_guess x1 = some (r, r_latest, r_guesses, r_guess)) : Met l yX11_read (WS yX11_read cX11_read 2 (some .int)) RM_Mo_read (va_Pc [.ref a_this, .int x1] (PM D ct sz (w_Mo_read ct a_this a_forms a_sizes a_items a_moved a_bytes a_typed a_chances a_longs a_letters a_isThere a_pieceLongs a_pieceLetters a_song a_settings a_guess a_row a_least a_nights f_latest f_at f_names f_pieces f_songLong f_guesses f_todo f_forms f_sizes f_items f_guess))) (QM D (some (.int r)) (w_Mo_read ct a_this a_forms a_sizes a_items a_moved a_bytes a_typed a_chances a_longs a_letters a_isThere a_pieceLongs a_pieceLetters a_song a_settings a_guess a_row a_least a_nights r_latest f_at f_names f_pieces f_songLong r_guesses f_todo f_forms f_sizes f_items r_guess) (va_A (w_Mo_read ct a_this a_forms a_sizes a_items a_moved a_bytes a_typed a_chances a_longs a_letters a_isThere a_pieceLongs a_pieceLetters a_song a_settings a_guess a_row a_least a_nights f_latest f_at f_names f_pieces f_songLong f_guesses f_todo f_forms f_sizes f_items f_guess) sz)) 0 0 (va_A (w_Mo_read ct a_this a_forms a_sizes a_items a_moved a_bytes a_typed a_chances a_longs a_letters a_isThere a_pieceLongs a_pieceLetters a_song a_settings a_guess a_row a_least a_nights f_latest f_at f_names f_pieces f_songLong f_guesses f_todo f_forms f_sizes f_items f_guess) sz) := by
  refine kMetM yn_yX11_read rfl (Nat.le_of_ble_eq_true rfl) ?_
  intro p e s m args below meth c A C hA hP hD ls hl
  have hl : lv_has ls 2 [(0, .ref a_this), (1, .int x1)] := hl
  have hS : va_S A s.heap s.heap [] := va_S.rf
  obtain ⟨hx, hb, hr, hml, hown, hts, hlk, hK, hN⟩ := id C
  unfold Mo_read at hf
  refine lv_iload_n hx hb dX11_read_0 rfl (lv_at hl 1 rfl) ?_
  obtain ⟨v1, hc1, hf⟩ := cb1_some hf
  refine kcRS (As := [.int x1]) (rest := []) (st1 := [.int v1]) C (c_Mo_isSheet l D ct x1 v1 hc1) ⟨rfl, rfl⟩ yn_yX11_isSheet tw_1027 tw_1026 ⟨Nat.le_of_ble_eq_true rfl, Nat.le_of_ble_eq_true rfl⟩ ⟨Nat.zero_le _, Nat.zero_le _⟩ hP [] rfl hl.1 rfl rfl (Nat.le_of_ble_eq_true rfl) dX11_read_1 rfl ?_
  refine lv_if_ne (tgt := 10) hx hb dX11_read_4 (by decide) (fun hc => ?_) (fun hc => ?_)
  · have hf := kneg hc hf
    refine lv_aload_n hx hb dX11_read_10 rfl (lv_at hl 0 rfl) ?_
    refine va_get (ci := 11) (v := .ref a_forms) (C := RX11) (T := TX11) (N := 25) hx hb hts inX11 hown hK hP 0 rfl rfl 0 (by decide) (hts _ tw_945) (fun _ h9 => h9) rfl dX11_read_11 ?_
    refine lv_iload_n hx hb dX11_read_14 rfl (lv_at hl 1 rfl) ?_
    obtain ⟨hin, hf⟩ := rd_some hf
    generalize ev15 : f_forms (Int32.toNatClampNeg x1) = v15 at hf
    refine kiald hx hb hK hP 1 0 rfl rfl hin ev15 dX11_read_15 ?_
    refine lv_if_ge (tgt := 25) hx hb dX11_read_16 (by decide) (fun hc => ?_) (fun hc => ?_)
    · have hf := kpos hc hf
      refine lv_aload_n hx hb dX11_read_25 rfl (lv_at hl 0 rfl) ?_
      refine lv_iconst (v := 0) hx hb dX11_read_26 (by decide) ?_
      refine va_put (ci := 11) (v := .int 0) (ty := .int) (C := RX11) (T := TX11) (N := 25) hx hb hts inX11 tyX11 tyX11_ok nmX11 hown hK hP hD hS 0 rfl rfl 19 (by decide) (hts _ tw_964) (fun _ h9 => h9) rfl (tyX11_ok 19 (by decide)) rfl rfl (Nat.le_of_ble_eq_true rfl) dX11_read_27 (fun H locs hP hD hS => ?_)
      have hP : va_P D vwCl (w_Mo_read ct a_this a_forms a_sizes a_items a_moved a_bytes a_typed a_chances a_longs a_letters a_isThere a_pieceLongs a_pieceLetters a_song a_settings a_guess a_row a_least a_nights f_latest f_at f_names f_pieces f_songLong 0 f_todo f_forms f_sizes f_items f_guess) H := hP
      have hD : va_D A (w_Mo_read ct a_this a_forms a_sizes a_items a_moved a_bytes a_typed a_chances a_longs a_letters a_isThere a_pieceLongs a_pieceLetters a_song a_settings a_guess a_row a_least a_nights f_latest f_at f_names f_pieces f_songLong 0 f_todo f_forms f_sizes f_items f_guess) := hD
      exact t_Mo_read_l30 C hA a_this a_forms a_sizes a_items a_moved a_bytes a_typed a_chances a_longs a_letters a_isThere a_pieceLongs a_pieceLetters a_song a_settings a_guess a_row a_least a_nights f_at f_names f_pieces f_songLong f_todo F f_forms f_sizes f_items x1 r r_latest r_guesses r_guess F f_latest 0 f_guess hf _ _ hP hD hS _ (lv_sub hl [0, 1] rfl)
    · have hf := kneg hc hf
      refine lv_aload_n hx hb dX11_read_19 rfl (lv_at hl 0 rfl) ?_
      refine lv_iconst (v := 1) hx hb dX11_read_20 (by decide) ?_
      obtain ⟨v21, f_latest_21, hc21, hf⟩ := cb2_some hf
      refine kcMV (q0 := 0) (ci := 11) (As := [.int 1]) (rest := []) (st1 := [.int v21]) (wf := (w_Mo_read ct a_this a_forms a_sizes a_items a_moved a_bytes a_typed a_chances a_longs a_letters a_isThere a_pieceLongs a_pieceLetters a_song a_settings a_guess a_row a_least a_nights f_latest_21 f_at f_names f_pieces f_songLong f_guesses f_todo f_forms f_sizes f_items f_guess)) C (c_Mo_met l D ct a_this a_forms a_sizes a_items a_moved a_bytes a_typed a_chances a_longs a_letters a_isThere a_pieceLongs a_pieceLetters a_song a_settings a_guess a_row a_least a_nights f_at f_names f_pieces f_songLong f_guesses f_todo f_latest 1 v21 f_latest_21 _ hc21) ⟨rfl, rfl⟩ yn_yX11_met tw_1036 tw_26 tw_1034 ⟨Nat.le_of_ble_eq_true rfl, Nat.le_of_ble_eq_true rfl⟩ ⟨Nat.zero_le _, Nat.zero_le _⟩ hP hD hS hA [0] [1, 2, 3, 4] [4, 0, 1, 2, 3] rfl rfl rfl rfl rfl (by decide) rfl rfl rfl rfl rfl rfl hl.1 rfl rfl (Nat.le_of_ble_eq_true rfl) dX11_read_21 rfl (fun H locs hP hD hS => ?_)
      obtain ⟨e1, e2, e3, e4⟩ := ti4 hf
      subst e1; subst e2; subst e3; subst e4
      exact kretM C hP hD hS dX11_read_24
  · have hf := kpos hc hf
    refine lv_bipush (v := (-2)) hx hb dX11_read_7 (by decide) ?_
    obtain ⟨e1, e2, e3, e4⟩ := ti4 hf
    subst e1; subst e2; subst e3; subst e4
    exact kretM C hP hD hS dX11_read_9
