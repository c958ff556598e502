def RM_Mo_isHeard : Room := { frames := 0, cells := 0, slots := 0, locals := 0 }
set_option maxHeartbeats 4000000 in
set_option maxRecDepth 100000 in
theorem t_Mo_isHeard_b108 {p : Program} {l : Launch} {e : Env} {s : State} {m : MethodId} {args : Array Value} {below : List Frame} {meth : Method} {c : Code} {D : va_G} {ct : Nat → ClassId} (C : CX p s m args meth c RX11 cX11_isHeard 7 (some .boolean) D ct) (a_this a_forms a_sizes a_items a_moved a_bytes a_typed a_chances a_longs a_letters a_isThere a_pieceLongs a_pieceLetters a_song a_settings a_guess a_row a_least a_nights : Nat) (f_latest : Int32) (f_at : Int32) (f_names : Int32) (f_pieces : Int32) (f_songLong : Int32) (f_guesses : Int32) (f_todo : Int32) (F : Nat) (f_longs : Nat → Int32) (f_letters : Nat → Int32) (f_isThere : Nat → Int32) (f_pieceLongs : Nat → Int32) (f_pieceLetters : Nat → Int32) (x1 : Int32) (x2 : Int32) (r : Int32) : ∀ (x3 : Int32), Mo_isHeard_b108 F f_longs f_letters f_isThere f_pieceLongs f_pieceLetters x1 x2 x3 = some r → va_P D vwCl (w_Mo_isHeard ct a_this a_forms a_sizes a_items a_moved a_bytes a_typed a_chances a_longs a_letters a_isThere a_pieceLongs a_pieceLetters a_song a_settings a_guess a_row a_least a_nights f_latest f_at f_names f_pieces f_songLong f_guesses f_todo f_longs f_letters f_isThere f_pieceLongs f_pieceLetters) s.heap → ∀ ls : Array Slot, lv_has ls 7 [(0, .ref a_this), (2, .int x2), (3, .int x3)] → W p l e RM_Mo_isHeard s m args below meth c s.heap [] 0 0 (MQ below (QR (some (.int r))) args s 0 0 (fun _ => False)) (F0 m 108 ls []) := by
  obtain ⟨hx, hb, hr, hml, hown, hts, hlk, hK, hN⟩ := id C
  intro x3 hf hP ls hl
  unfold Mo_isHeard_b108 at hf
  refine lv_iload_n hx hb dX11_isHeard_108 rfl (lv_at hl 2 rfl) ?_
  refine lv_aload_n hx hb dX11_isHeard_109 rfl (lv_at hl 0 rfl) ?_
  refine va_get (ci := 11) (v := .ref a_isThere) (C := RX11) (T := TX11) (N := 25) hx hb hts inX11 hown hK hP 0 rfl rfl 13 (by decide) (hts _ tw_958) (fun _ h9 => h9) rfl dX11_isHeard_110 ?_
  refine lv_iload_n hx hb dX11_isHeard_113 rfl (lv_at hl 1 rfl) ?_
  obtain ⟨hin, hf⟩ := rd_some hf
  generalize ev114 : f_isThere (Int32.toNatClampNeg x2) = v114 at hf
  refine kzald hx hb hK hP 3 1 rfl rfl hin ev114 dX11_isHeard_114 ?_
  refine lv_icmp_ne (tgt := 122) hx hb dX11_isHeard_115 (by decide) (fun hc => ?_) (fun hc => ?_)
  · have hf := kneg hc hf
    refine lv_iconst (v := 0) hx hb dX11_isHeard_122 (by decide) ?_
    have e1 := Option.some.inj hf
    subst e1
    exact kretRz C (by decide) dX11_isHeard_123
  · have hf := kpos hc hf
    refine lv_iconst (v := 1) hx hb dX11_isHeard_118 (by decide) ?_
    refine lv_goto (tgt := 123) hx hb dX11_isHeard_119 (by decide) ?_
    have e1 := Option.some.inj hf
    subst e1
    exact kretRz C (by decide) dX11_isHeard_123
set_option maxHeartbeats 4000000 in
set_option maxRecDepth 100000 in
theorem t_Mo_isHeard_b101 {p : Program} {l : Launch} {e : Env} {s : State} {m : MethodId} {args : Array Value} {below : List Frame} {meth : Method} {c : Code} {D : va_G} {ct : Nat → ClassId} (C : CX p s m args meth c RX11 cX11_isHeard 7 (some .boolean) D ct) (a_this a_forms a_sizes a_items a_moved a_bytes a_typed a_chances a_longs a_letters a_isThere a_pieceLongs a_pieceLetters a_song a_settings a_guess a_row a_least a_nights : Nat) (f_latest : Int32) (f_at : Int32) (f_names : Int32) (f_pieces : Int32) (f_songLong : Int32) (f_guesses : Int32) (f_todo : Int32) (F : Nat) (f_longs : Nat → Int32) (f_letters : Nat → Int32) (f_isThere : Nat → Int32) (f_pieceLongs : Nat → Int32) (f_pieceLetters : Nat → Int32) (x1 : Int32) (x2 : Int32) (r : Int32) (rec5 : Int32 → Int32 → Option Int32) (hr5 : ∀ (x3 : Int32) (x4 : Int32), rec5 x3 x4 = some r → va_P D vwCl (w_Mo_isHeard ct a_this a_forms a_sizes a_items a_moved a_bytes a_typed a_chances a_longs a_letters a_isThere a_pieceLongs a_pieceLetters a_song a_settings a_guess a_row a_least a_nights f_latest f_at f_names f_pieces f_songLong f_guesses f_todo f_longs f_letters f_isThere f_pieceLongs f_pieceLetters) s.heap → ∀ ls : Array Slot, lv_has ls 7 [(0, .ref a_this), (1, .int x1), (2, .int x2), (3, .int x3), (4, .int x4)] → W p l e RM_Mo_isHeard s m args below meth c s.heap [] 0 0 (MQ below (QR (some (.int r))) args s 0 0 (fun _ => False)) (F0 m 5 ls [])) : ∀ (x4 : Int32) (k0 : Int32), Mo_isHeard_b101 F f_longs f_letters f_isThere f_pieceLongs f_pieceLetters x1 x2 rec5 x4 k0 = some r → va_P D vwCl (w_Mo_isHeard ct a_this a_forms a_sizes a_items a_moved a_bytes a_typed a_chances a_longs a_letters a_isThere a_pieceLongs a_pieceLetters a_song a_settings a_guess a_row a_least a_nights f_latest f_at f_names f_pieces f_songLong f_guesses f_todo f_longs f_letters f_isThere f_pieceLongs f_pieceLetters) s.heap → ∀ ls : Array Slot, lv_has ls 7 [(0, .ref a_this), (1, .int x1), (2, .int x2), (4, .int x4)] → W p l e RM_Mo_isHeard s m args below meth c s.heap [] 0 0 (MQ below (QR (some (.int r))) args s 0 0 (fun _ => False)) (F0 m 101 ls [.int k0]) := by
  obtain ⟨hx, hb, hr, hml, hown, hts, hlk, hK, hN⟩ := id C
  intro x4 k0 hf hP ls hl
  unfold Mo_isHeard_b101 at hf
  refine lv_istore_n (lv' := [(3, .int k0), (0, .ref a_this), (1, .int x1), (2, .int x2), (4, .int x4)]) hx hb dX11_isHeard_101 rfl hl (by decide) rfl (fun ls hl => ?_)
  refine lv_iinc (v := x4 + 1) (lv' := [(4, .int (x4 + 1)), (3, .int k0), (0, .ref a_this), (1, .int x1), (2, .int x2)]) hx hb dX11_isHeard_102 hl (k := 4) rfl rfl (by decide) rfl (fun ls hl => ?_)
  refine lv_goto (tgt := 5) hx hb dX11_isHeard_105 (by decide) ?_
  exact hr5 k0 (x4 + 1) hf hP _ (lv_sub hl [2, 3, 4, 1, 0] rfl)
set_option maxHeartbeats 4000000 in
set_option maxRecDepth 100000 in
theorem t_Mo_isHeard_b96 {p : Program} {l : Launch} {e : Env} {s : State} {m : MethodId} {args : Array Value} {below : List Frame} {meth : Method} {c : Code} {D : va_G} {ct : Nat → ClassId} (C : CX p s m args meth c RX11 cX11_isHeard 7 (some .boolean) D ct) (a_this a_forms a_sizes a_items a_moved a_bytes a_typed a_chances a_longs a_letters a_isThere a_pieceLongs a_pieceLetters a_song a_settings a_guess a_row a_least a_nights : Nat) (f_latest : Int32) (f_at : Int32) (f_names : Int32) (f_pieces : Int32) (f_songLong : Int32) (f_guesses : Int32) (f_todo : Int32) (F : Nat) (f_longs : Nat → Int32) (f_letters : Nat → Int32) (f_isThere : Nat → Int32) (f_pieceLongs : Nat → Int32) (f_pieceLetters : Nat → Int32) (x1 : Int32) (x2 : Int32) (r : Int32) (rec5 : Int32 → Int32 → Option Int32) (hr5 : ∀ (x3 : Int32) (x4 : Int32), rec5 x3 x4 = some r → va_P D vwCl (w_Mo_isHeard ct a_this a_forms a_sizes a_items a_moved a_bytes a_typed a_chances a_longs a_letters a_isThere a_pieceLongs a_pieceLetters a_song a_settings a_guess a_row a_least a_nights f_latest f_at f_names f_pieces f_songLong f_guesses f_todo f_longs f_letters f_isThere f_pieceLongs f_pieceLetters) s.heap → ∀ ls : Array Slot, lv_has ls 7 [(0, .ref a_this), (1, .int x1), (2, .int x2), (3, .int x3), (4, .int x4)] → W p l e RM_Mo_isHeard s m args below meth c s.heap [] 0 0 (MQ below (QR (some (.int r))) args s 0 0 (fun _ => False)) (F0 m 5 ls [])) : ∀ (x4 : Int32), Mo_isHeard_b96 F f_longs f_letters f_isThere f_pieceLongs f_pieceLetters x1 x2 rec5 x4 = some r → va_P D vwCl (w_Mo_isHeard ct a_this a_forms a_sizes a_items a_moved a_bytes a_typed a_chances a_longs a_letters a_isThere a_pieceLongs a_pieceLetters a_song a_settings a_guess a_row a_least a_nights f_latest f_at f_names f_pieces f_songLong f_guesses f_todo f_longs f_letters f_isThere f_pieceLongs f_pieceLetters) s.heap → ∀ ls : Array Slot, lv_has ls 7 [(0, .ref a_this), (1, .int x1), (2, .int x2), (4, .int x4)] → W p l e RM_Mo_isHeard s m args below meth c s.heap [] 0 0 (MQ below (QR (some (.int r))) args s 0 0 (fun _ => False)) (F0 m 96 ls []) := by
  obtain ⟨hx, hb, hr, hml, hown, hts, hlk, hK, hN⟩ := id C
  intro x4 hf hP ls hl
  unfold Mo_isHeard_b96 at hf
  refine lv_iconst (v := 1) hx hb dX11_isHeard_96 (by decide) ?_
  refine lv_goto (tgt := 101) hx hb dX11_isHeard_97 (by decide) ?_
  exact t_Mo_isHeard_b101 C a_this a_forms a_sizes a_items a_moved a_bytes a_typed a_chances a_longs a_letters a_isThere a_pieceLongs a_pieceLetters a_song a_settings a_guess a_row a_least a_nights f_latest f_at f_names f_pieces f_songLong f_guesses f_todo F f_longs f_letters f_isThere f_pieceLongs f_pieceLetters x1 x2 r rec5 hr5 x4 1 hf hP _ (lv_sub hl [0, 1, 2, 3] rfl)
set_option maxHeartbeats 4000000 in
set_option maxRecDepth 100000 in
theorem t_Mo_isHeard_b87 {p : Program} {l : Launch} {e : Env} {s : State} {m : MethodId} {args : Array Value} {below : List Frame} {meth : Method} {c : Code} {D : va_G} {ct : Nat → ClassId} (C : CX p s m args meth c RX11 cX11_isHeard 7 (some .boolean) D ct) (a_this a_forms a_sizes a_items a_moved a_bytes a_typed a_chances a_longs a_letters a_isThere a_pieceLongs a_pieceLetters a_song a_settings a_guess a_row a_least a_nights : Nat) (f_latest : Int32) (f_at : Int32) (f_names : Int32) (f_pieces : Int32) (f_songLong : Int32) (f_guesses : Int32) (f_todo : Int32) (F : Nat) (f_longs : Nat → Int32) (f_letters : Nat → Int32) (f_isThere : Nat → Int32) (f_pieceLongs : Nat → Int32) (f_pieceLetters : Nat → Int32) (x1 : Int32) (x2 : Int32) (r : Int32) (rec5 : Int32 → Int32 → Option Int32) (hr5 : ∀ (x3 : Int32) (x4 : Int32), rec5 x3 x4 = some r → va_P D vwCl (w_Mo_isHeard ct a_this a_forms a_sizes a_items a_moved a_bytes a_typed a_chances a_longs a_letters a_isThere a_pieceLongs a_pieceLetters a_song a_settings a_guess a_row a_least a_nights f_latest f_at f_names f_pieces f_songLong f_guesses f_todo f_longs f_letters f_isThere f_pieceLongs f_pieceLetters) s.heap → ∀ ls : Array Slot, lv_has ls 7 [(0, .ref a_this), (1, .int x1), (2, .int x2), (3, .int x3), (4, .int x4)] → W p l e RM_Mo_isHeard s m args below meth c s.heap [] 0 0 (MQ below (QR (some (.int r))) args s 0 0 (fun _ => False)) (F0 m 5 ls [])) : ∀ (x3 : Int32) (x4 : Int32) (x5 : Int32), Mo_isHeard_b87 F f_longs f_letters f_isThere f_pieceLongs f_pieceLetters x1 x2 rec5 x3 x4 x5 = some r → va_P D vwCl (w_Mo_isHeard ct a_this a_forms a_sizes a_items a_moved a_bytes a_typed a_chances a_longs a_letters a_isThere a_pieceLongs a_pieceLetters a_song a_settings a_guess a_row a_least a_nights f_latest f_at f_names f_pieces f_songLong f_guesses f_todo f_longs f_letters f_isThere f_pieceLongs f_pieceLetters) s.heap → ∀ ls : Array Slot, lv_has ls 7 [(0, .ref a_this), (1, .int x1), (2, .int x2), (3, .int x3), (4, .int x4), (5, .int x5)] → W p l e RM_Mo_isHeard s m args below meth c s.heap [] 0 0 (MQ below (QR (some (.int r))) args s 0 0 (fun _ => False)) (F0 m 87 ls []) := by
  obtain ⟨hx, hb, hr, hml, hown, hts, hlk, hK, hN⟩ := id C
  intro x3 x4 x5 hf hP ls hl
  unfold Mo_isHeard_b87 at hf
  refine lv_iload_n hx hb dX11_isHeard_87 rfl (lv_at hl 3 rfl) ?_
  refine lv_if_ne (tgt := 96) hx hb dX11_isHeard_88 (by decide) (fun hc => ?_) (fun hc => ?_)
  · have hf := kneg hc hf
    exact t_Mo_isHeard_b96 C a_this a_forms a_sizes a_items a_moved a_bytes a_typed a_chances a_longs a_letters a_isThere a_pieceLongs a_pieceLetters a_song a_settings a_guess a_row a_least a_nights f_latest f_at f_names f_pieces f_songLong f_guesses f_todo F f_longs f_letters f_isThere f_pieceLongs f_pieceLetters x1 x2 r rec5 hr5 x4 hf hP _ (lv_sub hl [0, 1, 2, 4] rfl)
  · have hf := kpos hc hf
    refine lv_iload hx hb dX11_isHeard_91 (lv_at hl 5 rfl) ?_
    refine lv_if_eq (tgt := 100) hx hb dX11_isHeard_93 (by decide) (fun hc => ?_) (fun hc => ?_)
    · have hf := kpos hc hf
      refine lv_iconst (v := 0) hx hb dX11_isHeard_100 (by decide) ?_
      exact t_Mo_isHeard_b101 C a_this a_forms a_sizes a_items a_moved a_bytes a_typed a_chances a_longs a_letters a_isThere a_pieceLongs a_pieceLetters a_song a_settings a_guess a_row a_least a_nights f_latest f_at f_names f_pieces f_songLong f_guesses f_todo F f_longs f_letters f_isThere f_pieceLongs f_pieceLetters x1 x2 r rec5 hr5 x4 0 hf hP _ (lv_sub hl [0, 1, 2, 4] rfl)
    · have hf := kneg hc hf
      exact t_Mo_isHeard_b96 C a_this a_forms a_sizes a_items a_moved a_bytes a_typed a_chances a_longs a_letters a_isThere a_pieceLongs a_pieceLetters a_song a_settings a_guess a_row a_least a_nights f_latest f_at f_names f_pieces f_songLong f_guesses f_todo F f_longs f_letters f_isThere f_pieceLongs f_pieceLetters x1 x2 r rec5 hr5 x4 hf hP _ (lv_sub hl [0, 1, 2, 4] rfl)
set_option maxHeartbeats 4000000 in
set_option maxRecDepth 100000 in
theorem t_Mo_isHeard_b79 {p : Program} {l : Launch} {e : Env} {s : State} {m : MethodId} {args : Array Value} {below : List Frame} {meth : Method} {c : Code} {D : va_G} {ct : Nat → ClassId} (C : CX p s m args meth c RX11 cX11_isHeard 7 (some .boolean) D ct) (a_this a_forms a_sizes a_items a_moved a_bytes a_typed a_chances a_longs a_letters a_isThere a_pieceLongs a_pieceLetters a_song a_settings a_guess a_row a_least a_nights : Nat) (f_latest : Int32) (f_at : Int32) (f_names : Int32) (f_pieces : Int32) (f_songLong : Int32) (f_guesses : Int32) (f_todo : Int32) (F : Nat) (f_longs : Nat → Int32) (f_letters : Nat → Int32) (f_isThere : Nat → Int32) (f_pieceLongs : Nat → Int32) (f_pieceLetters : Nat → Int32) (x1 : Int32) (x2 : Int32) (r : Int32) (rec5 : Int32 → Int32 → Option Int32) (rec29 : Int32 → Int32 → Int32 → Int32 → Option Int32) (hr5 : ∀ (x3 : Int32) (x4 : Int32), rec5 x3 x4 = some r → va_P D vwCl (w_Mo_isHeard ct a_this a_forms a_sizes a_items a_moved a_bytes a_typed a_chances a_longs a_letters a_isThere a_pieceLongs a_pieceLetters a_song a_settings a_guess a_row a_least a_nights f_latest f_at f_names f_pieces f_songLong f_guesses f_todo f_longs f_letters f_isThere f_pieceLongs f_pieceLetters) s.heap → ∀ ls : Array Slot, lv_has ls 7 [(0, .ref a_this), (1, .int x1), (2, .int x2), (3, .int x3), (4, .int x4)] → W p l e RM_Mo_isHeard s m args below meth c s.heap [] 0 0 (MQ below (QR (some (.int r))) args s 0 0 (fun _ => False)) (F0 m 5 ls [])) (hr29 : ∀ (x3 : Int32) (x4 : Int32) (x5 : Int32) (x6 : Int32), rec29 x3 x4 x5 x6 = some r → va_P D vwCl (w_Mo_isHeard ct a_this a_forms a_sizes a_items a_moved a_bytes a_typed a_chances a_longs a_letters a_isThere a_pieceLongs a_pieceLetters a_song a_settings a_guess a_row a_least a_nights f_latest f_at f_names f_pieces f_songLong f_guesses f_todo f_longs f_letters f_isThere f_pieceLongs f_pieceLetters) s.heap → ∀ ls : Array Slot, lv_has ls 7 [(0, .ref a_this), (1, .int x1), (2, .int x2), (3, .int x3), (4, .int x4), (5, .int x5), (6, .int x6)] → W p l e RM_Mo_isHeard s m args below meth c s.heap [] 0 0 (MQ below (QR (some (.int r))) args s 0 0 (fun _ => False)) (F0 m 29 ls [])) : ∀ (x3 : Int32) (x4 : Int32) (x6 : Int32) (k0 : Int32), Mo_isHeard_b79 F f_longs f_letters f_isThere f_pieceLongs f_pieceLetters x1 x2 rec5 rec29 x3 x4 x6 k0 = some r → va_P D vwCl (w_Mo_isHeard ct a_this a_forms a_sizes a_items a_moved a_bytes a_typed a_chances a_longs a_letters a_isThere a_pieceLongs a_pieceLetters a_song a_settings a_guess a_row a_least a_nights f_latest f_at f_names f_pieces f_songLong f_guesses f_todo f_longs f_letters f_isThere f_pieceLongs f_pieceLetters) s.heap → ∀ ls : Array Slot, lv_has ls 7 [(0, .ref a_this), (1, .int x1), (2, .int x2), (3, .int x3), (4, .int x4), (6, .int x6)] → W p l e RM_Mo_isHeard s m args below meth c s.heap [] 0 0 (MQ below (QR (some (.int r))) args s 0 0 (fun _ => False)) (F0 m 79 ls [.int k0]) := by
  obtain ⟨hx, hb, hr, hml, hown, hts, hlk, hK, hN⟩ := id C
  intro x3 x4 x6 k0 hf hP ls hl
  unfold Mo_isHeard_b79 at hf
  refine lv_istore (lv' := [(5, .int k0), (0, .ref a_this), (1, .int x1), (2, .int x2), (3, .int x3), (4, .int x4), (6, .int x6)]) hx hb dX11_isHeard_79 hl (by decide) rfl (fun ls hl => ?_)
  refine lv_iinc (v := x6 + 1) (lv' := [(6, .int (x6 + 1)), (5, .int k0), (0, .ref a_this), (1, .int x1), (2, .int x2), (3, .int x3), (4, .int x4)]) hx hb dX11_isHeard_81 hl (k := 6) rfl rfl (by decide) rfl (fun ls hl => ?_)
  refine lv_goto (tgt := 29) hx hb dX11_isHeard_84 (by decide) ?_
  exact hr29 x3 x4 k0 (x6 + 1) hf hP _ (lv_sub hl [2, 3, 4, 5, 6, 1, 0] rfl)
set_option maxHeartbeats 4000000 in
set_option maxRecDepth 100000 in
theorem t_Mo_isHeard_b78 {p : Program} {l : Launch} {e : Env} {s : State} {m : MethodId} {args : Array Value} {below : List Frame} {meth : Method} {c : Code} {D : va_G} {ct : Nat → ClassId} (C : CX p s m args meth c RX11 cX11_isHeard 7 (some .boolean) D ct) (a_this a_forms a_sizes a_items a_moved a_bytes a_typed a_chances a_longs a_letters a_isThere a_pieceLongs a_pieceLetters a_song a_settings a_guess a_row a_least a_nights : Nat) (f_latest : Int32) (f_at : Int32) (f_names : Int32) (f_pieces : Int32) (f_songLong : Int32) (f_guesses : Int32) (f_todo : Int32) (F : Nat) (f_longs : Nat → Int32) (f_letters : Nat → Int32) (f_isThere : Nat → Int32) (f_pieceLongs : Nat → Int32) (f_pieceLetters : Nat → Int32) (x1 : Int32) (x2 : Int32) (r : Int32) (rec5 : Int32 → Int32 → Option Int32) (rec29 : Int32 → Int32 → Int32 → Int32 → Option Int32) (hr5 : ∀ (x3 : Int32) (x4 : Int32), rec5 x3 x4 = some r → va_P D vwCl (w_Mo_isHeard ct a_this a_forms a_sizes a_items a_moved a_bytes a_typed a_chances a_longs a_letters a_isThere a_pieceLongs a_pieceLetters a_song a_settings a_guess a_row a_least a_nights f_latest f_at f_names f_pieces f_songLong f_guesses f_todo f_longs f_letters f_isThere f_pieceLongs f_pieceLetters) s.heap → ∀ ls : Array Slot, lv_has ls 7 [(0, .ref a_this), (1, .int x1), (2, .int x2), (3, .int x3), (4, .int x4)] → W p l e RM_Mo_isHeard s m args below meth c s.heap [] 0 0 (MQ below (QR (some (.int r))) args s 0 0 (fun _ => False)) (F0 m 5 ls [])) (hr29 : ∀ (x3 : Int32) (x4 : Int32) (x5 : Int32) (x6 : Int32), rec29 x3 x4 x5 x6 = some r → va_P D vwCl (w_Mo_isHeard ct a_this a_forms a_sizes a_items a_moved a_bytes a_typed a_chances a_longs a_letters a_isThere a_pieceLongs a_pieceLetters a_song a_settings a_guess a_row a_least a_nights f_latest f_at f_names f_pieces f_songLong f_guesses f_todo f_longs f_letters f_isThere f_pieceLongs f_pieceLetters) s.heap → ∀ ls : Array Slot, lv_has ls 7 [(0, .ref a_this), (1, .int x1), (2, .int x2), (3, .int x3), (4, .int x4), (5, .int x5), (6, .int x6)] → W p l e RM_Mo_isHeard s m args below meth c s.heap [] 0 0 (MQ below (QR (some (.int r))) args s 0 0 (fun _ => False)) (F0 m 29 ls [])) : ∀ (x3 : Int32) (x4 : Int32) (x6 : Int32), Mo_isHeard_b78 F f_longs f_letters f_isThere f_pieceLongs f_pieceLetters x1 x2 rec5 rec29 x3 x4 x6 = some r → va_P D vwCl (w_Mo_isHeard ct a_this a_forms a_sizes a_items a_moved a_bytes a_typed a_chances a_longs a_letters a_isThere a_pieceLongs a_pieceLetters a_song a_settings a_guess a_row a_least a_nights f_latest f_at f_names f_pieces f_songLong f_guesses f_todo f_longs f_letters f_isThere f_pieceLongs f_pieceLetters) s.heap → ∀ ls : Array Slot, lv_has ls 7 [(0, .ref a_this), (1, .int x1), (2, .int x2), (3, .int x3), (4, .int x4), (6, .int x6)] → W p l e RM_Mo_isHeard s m args below meth c s.heap [] 0 0 (MQ below (QR (some (.int r))) args s 0 0 (fun _ => False)) (F0 m 78 ls []) := by
  obtain ⟨hx, hb, hr, hml, hown, hts, hlk, hK, hN⟩ := id C
  intro x3 x4 x6 hf hP ls hl
  unfold Mo_isHeard_b78 at hf
  refine lv_iconst (v := 0) hx hb dX11_isHeard_78 (by decide) ?_
  exact t_Mo_isHeard_b79 C a_this a_forms a_sizes a_items a_moved a_bytes a_typed a_chances a_longs a_letters a_isThere a_pieceLongs a_pieceLetters a_song a_settings a_guess a_row a_least a_nights f_latest f_at f_names f_pieces f_songLong f_guesses f_todo F f_longs f_letters f_isThere f_pieceLongs f_pieceLetters x1 x2 r rec5 rec29 hr5 hr29 x3 x4 x6 0 hf hP _ (lv_sub hl [0, 1, 2, 3, 4, 5] rfl)
set_option maxHeartbeats 4000000 in
set_option maxRecDepth 100000 in
theorem t_Mo_isHeard_b29 {p : Program} {l : Launch} {e : Env} {s : State} {m : MethodId} {args : Array Value} {below : List Frame} {meth : Method} {c : Code} {D : va_G} {ct : Nat → ClassId} (C : CX p s m args meth c RX11 cX11_isHeard 7 (some .boolean) D ct) (a_this a_forms a_sizes a_items a_moved a_bytes a_typed a_chances a_longs a_letters a_isThere a_pieceLongs a_pieceLetters a_song a_settings a_guess a_row a_least a_nights : Nat) (f_latest : Int32) (f_at : Int32) (f_names : Int32) (f_pieces : Int32) (f_songLong : Int32) (f_guesses : Int32) (f_todo : Int32) (F : Nat) (f_longs : Nat → Int32) (f_letters : Nat → Int32) (f_isThere : Nat → Int32) (f_pieceLongs : Nat → Int32) (f_pieceLetters : Nat → Int32) (x1 : Int32) (x2 : Int32) (r : Int32) (rec5 : Int32 → Int32 → Option Int32) (rec29 : Int32 → Int32 → Int32 → Int32 → Option Int32) (hr5 : ∀ (x3 : Int32) (x4 : Int32), rec5 x3 x4 = some r → va_P D vwCl (w_Mo_isHeard ct a_this a_forms a_sizes a_items a_moved a_bytes a_typed a_chances a_longs a_letters a_isThere a_pieceLongs a_pieceLetters a_song a_settings a_guess a_row a_least a_nights f_latest f_at f_names f_pieces f_songLong f_guesses f_todo f_longs f_letters f_isThere f_pieceLongs f_pieceLetters) s.heap → ∀ ls : Array Slot, lv_has ls 7 [(0, .ref a_this), (1, .int x1), (2, .int x2), (3, .int x3), (4, .int x4)] → W p l e RM_Mo_isHeard s m args below meth c s.heap [] 0 0 (MQ below (QR (some (.int r))) args s 0 0 (fun _ => False)) (F0 m 5 ls [])) (hr29 : ∀ (x3 : Int32) (x4 : Int32) (x5 : Int32) (x6 : Int32), rec29 x3 x4 x5 x6 = some r → va_P D vwCl (w_Mo_isHeard ct a_this a_forms a_sizes a_items a_moved a_bytes a_typed a_chances a_longs a_letters a_isThere a_pieceLongs a_pieceLetters a_song a_settings a_guess a_row a_least a_nights f_latest f_at f_names f_pieces f_songLong f_guesses f_todo f_longs f_letters f_isThere f_pieceLongs f_pieceLetters) s.heap → ∀ ls : Array Slot, lv_has ls 7 [(0, .ref a_this), (1, .int x1), (2, .int x2), (3, .int x3), (4, .int x4), (5, .int x5), (6, .int x6)] → W p l e RM_Mo_isHeard s m args below meth c s.heap [] 0 0 (MQ below (QR (some (.int r))) args s 0 0 (fun _ => False)) (F0 m 29 ls [])) : ∀ (x3 : Int32) (x4 : Int32) (x5 : Int32) (x6 : Int32), Mo_isHeard_b29 F f_longs f_letters f_isThere f_pieceLongs f_pieceLetters x1 x2 rec5 rec29 x3 x4 x5 x6 = some r → va_P D vwCl (w_Mo_isHeard ct a_this a_forms a_sizes a_items a_moved a_bytes a_typed a_chances a_longs a_letters a_isThere a_pieceLongs a_pieceLetters a_song a_settings a_guess a_row a_least a_nights f_latest f_at f_names f_pieces f_songLong f_guesses f_todo f_longs f_letters f_isThere f_pieceLongs f_pieceLetters) s.heap → ∀ ls : Array Slot, lv_has ls 7 [(0, .ref a_this), (1, .int x1), (2, .int x2), (3, .int x3), (4, .int x4), (5, .int x5), (6, .int x6)] → W p l e RM_Mo_isHeard s m args below meth c s.heap [] 0 0 (MQ below (QR (some (.int r))) args s 0 0 (fun _ => False)) (F0 m 29 ls []) := by
  obtain ⟨hx, hb, hr, hml, hown, hts, hlk, hK, hN⟩ := id C
  intro x3 x4 x5 x6 hf hP ls hl
  unfold Mo_isHeard_b29 at hf
  refine lv_iload hx hb dX11_isHeard_29 (lv_at hl 6 rfl) ?_
  refine lv_aload_n hx hb dX11_isHeard_31 rfl (lv_at hl 0 rfl) ?_
  refine va_get (ci := 11) (v := .ref a_pieceLongs) (C := RX11) (T := TX11) (N := 25) hx hb hts inX11 hown hK hP 0 rfl rfl 14 (by decide) (hts _ tw_959) (fun _ h9 => h9) rfl dX11_isHeard_32 ?_
  refine lv_iload_n hx hb dX11_isHeard_35 rfl (lv_at hl 2 rfl) ?_
  obtain ⟨hin, hf⟩ := rd_some hf
  generalize ev36 : f_pieceLongs (Int32.toNatClampNeg x2) = v36 at hf
  refine kiald hx hb hK hP 4 0 rfl rfl hin ev36 dX11_isHeard_36 ?_
  refine lv_icmp_ge (tgt := 87) hx hb dX11_isHeard_37 (by decide) (fun hc => ?_) (fun hc => ?_)
  · have hf := kpos hc hf
    exact t_Mo_isHeard_b87 C a_this a_forms a_sizes a_items a_moved a_bytes a_typed a_chances a_longs a_letters a_isThere a_pieceLongs a_pieceLetters a_song a_settings a_guess a_row a_least a_nights f_latest f_at f_names f_pieces f_songLong f_guesses f_todo F f_longs f_letters f_isThere f_pieceLongs f_pieceLetters x1 x2 r rec5 hr5 x3 x4 x5 hf hP _ (lv_sub hl [0, 1, 2, 3, 4, 5] rfl)
  · have hf := kneg hc hf
    refine lv_iload hx hb dX11_isHeard_40 (lv_at hl 5 rfl) ?_
    refine lv_if_eq (tgt := 78) hx hb dX11_isHeard_42 (by decide) (fun hc => ?_) (fun hc => ?_)
    · have hf := kpos hc hf
      exact t_Mo_isHeard_b78 C a_this a_forms a_sizes a_items a_moved a_bytes a_typed a_chances a_longs a_letters a_isThere a_pieceLongs a_pieceLetters a_song a_settings a_guess a_row a_least a_nights f_latest f_at f_names f_pieces f_songLong f_guesses f_todo F f_longs f_letters f_isThere f_pieceLongs f_pieceLetters x1 x2 r rec5 rec29 hr5 hr29 x3 x4 x6 hf hP _ (lv_sub hl [0, 1, 2, 3, 4, 6] rfl)
    · have hf := kneg hc hf
      refine lv_aload_n hx hb dX11_isHeard_45 rfl (lv_at hl 0 rfl) ?_
      refine va_get (ci := 11) (v := .ref a_letters) (C := RX11) (T := TX11) (N := 25) hx hb hts inX11 hown hK hP 0 rfl rfl 11 (by decide) (hts _ tw_956) (fun _ h9 => h9) rfl dX11_isHeard_46 ?_
      refine lv_bipush (v := 6) hx hb dX11_isHeard_49 (by decide) ?_
      refine lv_iload_n hx hb dX11_isHeard_51 rfl (lv_at hl 1 rfl) ?_
      refine lv_imul hx hb dX11_isHeard_52 ?_
      refine lv_iload hx hb dX11_isHeard_53 (lv_at hl 4 rfl) ?_
      refine lv_iadd hx hb dX11_isHeard_55 ?_
      refine lv_iload hx hb dX11_isHeard_56 (lv_at hl 6 rfl) ?_
      refine lv_iadd hx hb dX11_isHeard_58 ?_
      obtain ⟨hin, hf⟩ := rd_some hf
      generalize ev59 : f_letters (Int32.toNatClampNeg (((6 * x1) + x4) + x6)) = v59 at hf
      refine kiald hx hb hK hP 2 0 rfl rfl hin ev59 dX11_isHeard_59 ?_
      refine lv_aload_n hx hb dX11_isHeard_60 rfl (lv_at hl 0 rfl) ?_
      refine va_get (ci := 11) (v := .ref a_pieceLetters) (C := RX11) (T := TX11) (N := 25) hx hb hts inX11 hown hK hP 0 rfl rfl 15 (by decide) (hts _ tw_960) (fun _ h9 => h9) rfl dX11_isHeard_61 ?_
      refine lv_iconst (v := 3) hx hb dX11_isHeard_64 (by decide) ?_
      refine lv_iload_n hx hb dX11_isHeard_65 rfl (lv_at hl 2 rfl) ?_
      refine lv_imul hx hb dX11_isHeard_66 ?_
      refine lv_iload hx hb dX11_isHeard_67 (lv_at hl 6 rfl) ?_
      refine lv_iadd hx hb dX11_isHeard_69 ?_
      obtain ⟨hin, hf⟩ := rd_some hf
      generalize ev70 : f_pieceLetters (Int32.toNatClampNeg ((3 * x2) + x6)) = v70 at hf
      refine kiald hx hb hK hP 5 0 rfl rfl hin ev70 dX11_isHeard_70 ?_
      refine lv_icmp_ne (tgt := 78) hx hb dX11_isHeard_71 (by decide) (fun hc => ?_) (fun hc => ?_)
      · have hf := kneg hc hf
        exact t_Mo_isHeard_b78 C a_this a_forms a_sizes a_items a_moved a_bytes a_typed a_chances a_longs a_letters a_isThere a_pieceLongs a_pieceLetters a_song a_settings a_guess a_row a_least a_nights f_latest f_at f_names f_pieces f_songLong f_guesses f_todo F f_longs f_letters f_isThere f_pieceLongs f_pieceLetters x1 x2 r rec5 rec29 hr5 hr29 x3 x4 x6 hf hP _ (lv_sub hl [0, 1, 2, 3, 4, 6] rfl)
      · have hf := kpos hc hf
        refine lv_iconst (v := 1) hx hb dX11_isHeard_74 (by decide) ?_
        refine lv_goto (tgt := 79) hx hb dX11_isHeard_75 (by decide) ?_
        exact t_Mo_isHeard_b79 C a_this a_forms a_sizes a_items a_moved a_bytes a_typed a_chances a_longs a_letters a_isThere a_pieceLongs a_pieceLetters a_song a_settings a_guess a_row a_least a_nights f_latest f_at f_names f_pieces f_songLong f_guesses f_todo F f_longs f_letters f_isThere f_pieceLongs f_pieceLetters x1 x2 r rec5 rec29 hr5 hr29 x3 x4 x6 1 hf hP _ (lv_sub hl [0, 1, 2, 3, 4, 6] rfl)
set_option maxHeartbeats 4000000 in
set_option maxRecDepth 100000 in
theorem t_Mo_isHeard_l29 {p : Program} {l : Launch} {e : Env} {s : State} {m : MethodId} {args : Array Value} {below : List Frame} {meth : Method} {c : Code} {D : va_G} {ct : Nat → ClassId} (C : CX p s m args meth c RX11 cX11_isHeard 7 (some .boolean) D ct) (a_this a_forms a_sizes a_items a_moved a_bytes a_typed a_chances a_longs a_letters a_isThere a_pieceLongs a_pieceLetters a_song a_settings a_guess a_row a_least a_nights : Nat) (f_latest : Int32) (f_at : Int32) (f_names : Int32) (f_pieces : Int32) (f_songLong : Int32) (f_guesses : Int32) (f_todo : Int32) (F : Nat) (f_longs : Nat → Int32) (f_letters : Nat → Int32) (f_isThere : Nat → Int32) (f_pieceLongs : Nat → Int32) (f_pieceLetters : Nat → Int32) (x1 : Int32) (x2 : Int32) (r : Int32) (rec5 : Int32 → Int32 → Option Int32) (hr5 : ∀ (x3 : Int32) (x4 : Int32), rec5 x3 x4 = some r → va_P D vwCl (w_Mo_isHeard ct a_this a_forms a_sizes a_items a_moved a_bytes a_typed a_chances a_longs a_letters a_isThere a_pieceLongs a_pieceLetters a_song a_settings a_guess a_row a_least a_nights f_latest f_at f_names f_pieces f_songLong f_guesses f_todo f_longs f_letters f_isThere f_pieceLongs f_pieceLetters) s.heap → ∀ ls : Array Slot, lv_has ls 7 [(0, .ref a_this), (1, .int x1), (2, .int x2), (3, .int x3), (4, .int x4)] → W p l e RM_Mo_isHeard s m args below meth c s.heap [] 0 0 (MQ below (QR (some (.int r))) args s 0 0 (fun _ => False)) (F0 m 5 ls [])) : ∀ (n : Nat) (x3 : Int32) (x4 : Int32) (x5 : Int32) (x6 : Int32), Mo_isHeard_l29 F f_longs f_letters f_isThere f_pieceLongs f_pieceLetters x1 x2 rec5 n x3 x4 x5 x6 = some r → va_P D vwCl (w_Mo_isHeard ct a_this a_forms a_sizes a_items a_moved a_bytes a_typed a_chances a_longs a_letters a_isThere a_pieceLongs a_pieceLetters a_song a_settings a_guess a_row a_least a_nights f_latest f_at f_names f_pieces f_songLong f_guesses f_todo f_longs f_letters f_isThere f_pieceLongs f_pieceLetters) s.heap → ∀ ls : Array Slot, lv_has ls 7 [(0, .ref a_this), (1, .int x1), (2, .int x2), (3, .int x3), (4, .int x4), (5, .int x5), (6, .int x6)] → W p l e RM_Mo_isHeard s m args below meth c s.heap [] 0 0 (MQ below (QR (some (.int r))) args s 0 0 (fun _ => False)) (F0 m 29 ls []) := by
  intro n
  induction n with
  | zero =>
    intro x3 x4 x5 x6 hf
    exact absurd hf (by simp [Mo_isHeard_l29])
  | succ n ih =>
    intro x3 x4 x5 x6 hf
    exact t_Mo_isHeard_b29 C a_this a_forms a_sizes a_items a_moved a_bytes a_typed a_chances a_longs a_letters a_isThere a_pieceLongs a_pieceLetters a_song a_settings a_guess a_row a_least a_nights f_latest f_at f_names f_pieces f_songLong f_guesses f_todo F f_longs f_letters f_isThere f_pieceLongs f_pieceLetters x1 x2 r rec5 (Mo_isHeard_l29 F f_longs f_letters f_isThere f_pieceLongs f_pieceLetters x1 x2 rec5 n) hr5 ih x3 x4 x5 x6 hf
set_option maxHeartbeats 4000000 in
set_option maxRecDepth 100000 in
theorem t_Mo_isHeard_b5 {p : Program} {l : Launch} {e : Env} {s : State} {m : MethodId} {args : Array Value} {below : List Frame} {meth : Method} {c : Code} {D : va_G} {ct : Nat → ClassId} (C : CX p s m args meth c RX11 cX11_isHeard 7 (some .boolean) D ct) (a_this a_forms a_sizes a_items a_moved a_bytes a_typed a_chances a_longs a_letters a_isThere a_pieceLongs a_pieceLetters a_song a_settings a_guess a_row a_least a_nights : Nat) (f_latest : Int32) (f_at : Int32) (f_names : Int32) (f_pieces : Int32) (f_songLong : Int32) (f_guesses : Int32) (f_todo : Int32) (F : Nat) (f_longs : Nat → Int32) (f_letters : Nat → Int32) (f_isThere : Nat → Int32) (f_pieceLongs : Nat → Int32) (f_pieceLetters : Nat → Int32) (x1 : Int32) (x2 : Int32) (r : Int32) (rec5 : Int32 → Int32 → Option Int32) (hr5 : ∀ (x3 : Int32) (x4 : Int32), rec5 x3 x4 = some r → va_P D vwCl (w_Mo_isHeard ct a_this a_forms a_sizes a_items a_moved a_bytes a_typed a_chances a_longs a_letters a_isThere a_pieceLongs a_pieceLetters a_song a_settings a_guess a_row a_least a_nights f_latest f_at f_names f_pieces f_songLong f_guesses f_todo f_longs f_letters f_isThere f_pieceLongs f_pieceLetters) s.heap → ∀ ls : Array Slot, lv_has ls 7 [(0, .ref a_this), (1, .int x1), (2, .int x2), (3, .int x3), (4, .int x4)] → W p l e RM_Mo_isHeard s m args below meth c s.heap [] 0 0 (MQ below (QR (some (.int r))) args s 0 0 (fun _ => False)) (F0 m 5 ls [])) : ∀ (x3 : Int32) (x4 : Int32), Mo_isHeard_b5 F f_longs f_letters f_isThere f_pieceLongs f_pieceLetters x1 x2 rec5 x3 x4 = some r → va_P D vwCl (w_Mo_isHeard ct a_this a_forms a_sizes a_items a_moved a_bytes a_typed a_chances a_longs a_letters a_isThere a_pieceLongs a_pieceLetters a_song a_settings a_guess a_row a_least a_nights f_latest f_at f_names f_pieces f_songLong f_guesses f_todo f_longs f_letters f_isThere f_pieceLongs f_pieceLetters) s.heap → ∀ ls : Array Slot, lv_has ls 7 [(0, .ref a_this), (1, .int x1), (2, .int x2), (3, .int x3), (4, .int x4)] → W p l e RM_Mo_isHeard s m args below meth c s.heap [] 0 0 (MQ below (QR (some (.int r))) args s 0 0 (fun _ => False)) (F0 m 5 ls []) := by
  obtain ⟨hx, hb, hr, hml, hown, hts, hlk, hK, hN⟩ := id C
  intro x3 x4 hf hP ls hl
  unfold Mo_isHeard_b5 at hf
  refine lv_iload hx hb dX11_isHeard_5 (lv_at hl 4 rfl) ?_
  refine lv_aload_n hx hb dX11_isHeard_7 rfl (lv_at hl 0 rfl) ?_
  refine va_get (ci := 11) (v := .ref a_pieceLongs) (C := RX11) (T := TX11) (N := 25) hx hb hts inX11 hown hK hP 0 rfl rfl 14 (by decide) (hts _ tw_959) (fun _ h9 => h9) rfl dX11_isHeard_8 ?_
  refine lv_iload_n hx hb dX11_isHeard_11 rfl (lv_at hl 2 rfl) ?_
  obtain ⟨hin, hf⟩ := rd_some hf
  generalize ev12 : f_pieceLongs (Int32.toNatClampNeg x2) = v12 at hf
  refine kiald hx hb hK hP 4 0 rfl rfl hin ev12 dX11_isHeard_12 ?_
  refine lv_iadd hx hb dX11_isHeard_13 ?_
  refine lv_aload_n hx hb dX11_isHeard_14 rfl (lv_at hl 0 rfl) ?_
  refine va_get (ci := 11) (v := .ref a_longs) (C := RX11) (T := TX11) (N := 25) hx hb hts inX11 hown hK hP 0 rfl rfl 10 (by decide) (hts _ tw_955) (fun _ h9 => h9) rfl dX11_isHeard_15 ?_
  refine lv_iload_n hx hb dX11_isHeard_18 rfl (lv_at hl 1 rfl) ?_
  obtain ⟨hin, hf⟩ := rd_some hf
  generalize ev19 : f_longs (Int32.toNatClampNeg x1) = v19 at hf
  refine kiald hx hb hK hP 1 0 rfl rfl hin ev19 dX11_isHeard_19 ?_
  refine lv_icmp_gt (tgt := 108) hx hb dX11_isHeard_20 (by decide) (fun hc => ?_) (fun hc => ?_)
  · have hf := kpos hc hf
    exact t_Mo_isHeard_b108 C a_this a_forms a_sizes a_items a_moved a_bytes a_typed a_chances a_longs a_letters a_isThere a_pieceLongs a_pieceLetters a_song a_settings a_guess a_row a_least a_nights f_latest f_at f_names f_pieces f_songLong f_guesses f_todo F f_longs f_letters f_isThere f_pieceLongs f_pieceLetters x1 x2 r x3 hf hP _ (lv_sub hl [0, 2, 3] rfl)
  · have hf := kneg hc hf
    refine lv_iconst (v := 1) hx hb dX11_isHeard_23 (by decide) ?_
    refine lv_istore (lv' := [(5, .int 1), (0, .ref a_this), (1, .int x1), (2, .int x2), (3, .int x3), (4, .int x4)]) hx hb dX11_isHeard_24 hl (by decide) rfl (fun ls hl => ?_)
    refine lv_iconst (v := 0) hx hb dX11_isHeard_26 (by decide) ?_
    refine lv_istore (lv' := [(6, .int 0), (5, .int 1), (0, .ref a_this), (1, .int x1), (2, .int x2), (3, .int x3), (4, .int x4)]) hx hb dX11_isHeard_27 hl (by decide) rfl (fun ls hl => ?_)
    exact t_Mo_isHeard_l29 C a_this a_forms a_sizes a_items a_moved a_bytes a_typed a_chances a_longs a_letters a_isThere a_pieceLongs a_pieceLetters a_song a_settings a_guess a_row a_least a_nights f_latest f_at f_names f_pieces f_songLong f_guesses f_todo F f_longs f_letters f_isThere f_pieceLongs f_pieceLetters x1 x2 r rec5 hr5 F x3 x4 1 0 hf hP _ (lv_sub hl [2, 3, 4, 5, 6, 1, 0] rfl)
set_option maxHeartbeats 4000000 in
set_option maxRecDepth 100000 in
theorem t_Mo_isHeard_l5 {p : Program} {l : Launch} {e : Env} {s : State} {m : MethodId} {args : Array Value} {below : List Frame} {meth : Method} {c : Code} {D : va_G} {ct : Nat → ClassId} (C : CX p s m args meth c RX11 cX11_isHeard 7 (some .boolean) D ct) (a_this a_forms a_sizes a_items a_moved a_bytes a_typed a_chances a_longs a_letters a_isThere a_pieceLongs a_pieceLetters a_song a_settings a_guess a_row a_least a_nights : Nat) (f_latest : Int32) (f_at : Int32) (f_names : Int32) (f_pieces : Int32) (f_songLong : Int32) (f_guesses : Int32) (f_todo : Int32) (F : Nat) (f_longs : Nat → Int32) (f_letters : Nat → Int32) (f_isThere : Nat → Int32) (f_pieceLongs : Nat → Int32) (f_pieceLetters : Nat → Int32) (x1 : Int32) (x2 : Int32) (r : Int32) : ∀ (n : Nat) (x3 : Int32) (x4 : Int32), Mo_isHeard_l5 F f_longs f_letters f_isThere f_pieceLongs f_pieceLetters x1 x2 n x3 x4 = some r → va_P D vwCl (w_Mo_isHeard ct a_this a_forms a_sizes a_items a_moved a_bytes a_typed a_chances a_longs a_letters a_isThere a_pieceLongs a_pieceLetters a_song a_settings a_guess a_row a_least a_nights f_latest f_at f_names f_pieces f_songLong f_guesses f_todo f_longs f_letters f_isThere f_pieceLongs f_pieceLetters) s.heap → ∀ ls : Array Slot, lv_has ls 7 [(0, .ref a_this), (1, .int x1), (2, .int x2), (3, .int x3), (4, .int x4)] → W p l e RM_Mo_isHeard s m args below meth c s.heap [] 0 0 (MQ below (QR (some (.int r))) args s 0 0 (fun _ => False)) (F0 m 5 ls []) := by
  intro n
  induction n with
  | zero =>
    intro x3 x4 hf
    exact absurd hf (by simp [Mo_isHeard_l5])
  | succ n ih =>
    intro x3 x4 hf
    exact t_Mo_isHeard_b5 C a_this a_forms a_sizes a_items a_moved a_bytes a_typed a_chances a_longs a_letters a_isThere a_pieceLongs a_pieceLetters a_song a_settings a_guess a_row a_least a_nights f_latest f_at f_names f_pieces f_songLong f_guesses f_todo F f_longs f_letters f_isThere f_pieceLongs f_pieceLetters x1 x2 r (Mo_isHeard_l5 F f_longs f_letters f_isThere f_pieceLongs f_pieceLetters x1 x2 n) ih x3 x4 hf
set_option maxHeartbeats 4000000 in
set_option maxRecDepth 100000 in
theorem c_Mo_isHeard (l : Launch) (D : va_G) (ct : Nat → ClassId) (a_this a_forms a_sizes a_items a_moved a_bytes a_typed a_chances a_longs a_letters a_isThere a_pieceLongs a_pieceLetters a_song a_settings a_guess a_row a_least a_nights : Nat) (f_latest : Int32) (f_at : Int32) (f_names : Int32) (f_pieces : Int32) (f_songLong : Int32) (f_guesses : Int32) (f_todo : Int32) (F : Nat) (f_longs : Nat → Int32) (f_letters : Nat → Int32) (f_isThere : Nat → Int32) (f_pieceLongs : Nat → Int32) (f_pieceLetters : Nat → Int32) (x1 : Int32) (x2 : Int32) (r : Int32) (hf : Mo_isHeard F f_longs f_letters f_isThere f_pieceLongs f_pieceLetters x1 x2 = some r) : Met l yX11_isHeard (WS yX11_isHeard cX11_isHeard 7 (some .boolean)) RM_Mo_isHeard (va_Pc [.ref a_this, .int x1, .int x2] (PR D ct (w_Mo_isHeard ct a_this a_forms a_sizes a_items a_moved a_bytes a_typed a_chances a_longs a_letters a_isThere a_pieceLongs a_pieceLetters a_song a_settings a_guess a_row a_least a_nights f_latest f_at f_names f_pieces f_songLong f_guesses f_todo f_longs f_letters f_isThere f_pieceLongs f_pieceLetters))) (QR (some (.int r))) 0 0 (fun _ => False) := by
  refine kMetR yn_yX11_isHeard rfl (Nat.le_of_ble_eq_true rfl) ?_
  intro p e s m args below meth c C hP ls hl
  have hl : lv_has ls 7 [(0, .ref a_this), (1, .int x1), (2, .int x2)] := hl
  obtain ⟨hx, hb, hr, hml, hown, hts, hlk, hK, hN⟩ := id C
  unfold Mo_isHeard at hf
  refine lv_iconst (v := 0) hx hb dX11_isHeard_0 (by decide) ?_
  refine lv_istore_n (lv' := [(3, .int 0), (0, .ref a_this), (1, .int x1), (2, .int x2)]) hx hb dX11_isHeard_1 rfl hl (by decide) rfl (fun ls hl => ?_)
  refine lv_iconst (v := 0) hx hb dX11_isHeard_2 (by decide) ?_
  refine lv_istore (lv' := [(4, .int 0), (3, .int 0), (0, .ref a_this), (1, .int x1), (2, .int x2)]) hx hb dX11_isHeard_3 hl (by decide) rfl (fun ls hl => ?_)
  exact t_Mo_isHeard_l5 C a_this a_forms a_sizes a_items a_moved a_bytes a_typed a_chances a_longs a_letters a_isThere a_pieceLongs a_pieceLetters a_song a_settings a_guess a_row a_least a_nights f_latest f_at f_names f_pieces f_songLong f_guesses f_todo F f_longs f_letters f_isThere f_pieceLongs f_pieceLetters x1 x2 r F 0 0 hf hP _ (lv_sub hl [2, 3, 4, 1, 0] rfl)
def RM_Mo_isSung : Room := { frames := 0, cells := 0, slots := 0, locals := 0 }
set_option maxHeartbeats 4000000 in
set_option maxRecDepth 100000 in
theorem t_Mo_isSung_b75 {p : Program} {l : Launch} {e : Env} {s : State} {m : MethodId} {args : Array Value} {below : List Frame} {meth : Method} {c : Code} {D : va_G} {ct : Nat → ClassId} (C : CX p s m args meth c RX11 cX11_isSung 4 (some .boolean) D ct) (a_this a_forms a_sizes a_items a_moved a_bytes a_typed a_chances a_longs a_letters a_isThere a_pieceLongs a_pieceLetters a_song a_settings a_guess a_row a_least a_nights : Nat) (f_latest : Int32) (f_at : Int32) (f_names : Int32) (f_pieces : Int32) (f_guesses : Int32) (f_todo : Int32) (F : Nat) (f_songLong : Int32) (f_longs : Nat → Int32) (f_letters : Nat → Int32) (f_song : Nat → Int32) (x1 : Int32) (r : Int32) (rec28 : Int32 → Int32 → Option Int32) (hr28 : ∀ (x2 : Int32) (x3 : Int32), rec28 x2 x3 = some r → va_P D vwCl (w_Mo_isSung ct a_this a_forms a_sizes a_items a_moved a_bytes a_typed a_chances a_longs a_letters a_isThere a_pieceLongs a_pieceLetters a_song a_settings a_guess a_row a_least a_nights f_latest f_at f_names f_pieces f_songLong f_guesses f_todo f_longs f_letters f_song) s.heap → ∀ ls : Array Slot, lv_has ls 4 [(0, .ref a_this), (1, .int x1), (2, .int x2), (3, .int x3)] → W p l e RM_Mo_isSung s m args below meth c s.heap [] 0 0 (MQ below (QR (some (.int r))) args s 0 0 (fun _ => False)) (F0 m 28 ls [])) : ∀ (x3 : Int32) (k0 : Int32), Mo_isSung_b75 F f_songLong f_longs f_letters f_song x1 rec28 x3 k0 = some r → va_P D vwCl (w_Mo_isSung ct a_this a_forms a_sizes a_items a_moved a_bytes a_typed a_chances a_longs a_letters a_isThere a_pieceLongs a_pieceLetters a_song a_settings a_guess a_row a_least a_nights f_latest f_at f_names f_pieces f_songLong f_guesses f_todo f_longs f_letters f_song) s.heap → ∀ ls : Array Slot, lv_has ls 4 [(0, .ref a_this), (1, .int x1), (3, .int x3)] → W p l e RM_Mo_isSung s m args below meth c s.heap [] 0 0 (MQ below (QR (some (.int r))) args s 0 0 (fun _ => False)) (F0 m 75 ls [.int k0]) := by
  obtain ⟨hx, hb, hr, hml, hown, hts, hlk, hK, hN⟩ := id C
  intro x3 k0 hf hP ls hl
  unfold Mo_isSung_b75 at hf
  refine lv_istore_n (lv' := [(2, .int k0), (0, .ref a_this), (1, .int x1), (3, .int x3)]) hx hb dX11_isSung_75 rfl hl (by decide) rfl (fun ls hl => ?_)
  refine lv_iinc (v := x3 + 1) (lv' := [(3, .int (x3 + 1)), (2, .int k0), (0, .ref a_this), (1, .int x1)]) hx hb dX11_isSung_76 hl (k := 3) rfl rfl (by decide) rfl (fun ls hl => ?_)
  refine lv_goto (tgt := 28) hx hb dX11_isSung_79 (by decide) ?_
  exact hr28 k0 (x3 + 1) hf hP _ (lv_sub hl [2, 3, 1, 0] rfl)
set_option maxHeartbeats 4000000 in
set_option maxRecDepth 100000 in
theorem t_Mo_isSung_b70 {p : Program} {l : Launch} {e : Env} {s : State} {m : MethodId} {args : Array Value} {below : List Frame} {meth : Method} {c : Code} {D : va_G} {ct : Nat → ClassId} (C : CX p s m args meth c RX11 cX11_isSung 4 (some .boolean) D ct) (a_this a_forms a_sizes a_items a_moved a_bytes a_typed a_chances a_longs a_letters a_isThere a_pieceLongs a_pieceLetters a_song a_settings a_guess a_row a_least a_nights : Nat) (f_latest : Int32) (f_at : Int32) (f_names : Int32) (f_pieces : Int32) (f_guesses : Int32) (f_todo : Int32) (F : Nat) (f_songLong : Int32) (f_longs : Nat → Int32) (f_letters : Nat → Int32) (f_song : Nat → Int32) (x1 : Int32) (r : Int32) (rec28 : Int32 → Int32 → Option Int32) (hr28 : ∀ (x2 : Int32) (x3 : Int32), rec28 x2 x3 = some r → va_P D vwCl (w_Mo_isSung ct a_this a_forms a_sizes a_items a_moved a_bytes a_typed a_chances a_longs a_letters a_isThere a_pieceLongs a_pieceLetters a_song a_settings a_guess a_row a_least a_nights f_latest f_at f_names f_pieces f_songLong f_guesses f_todo f_longs f_letters f_song) s.heap → ∀ ls : Array Slot, lv_has ls 4 [(0, .ref a_this), (1, .int x1), (2, .int x2), (3, .int x3)] → W p l e RM_Mo_isSung s m args below meth c s.heap [] 0 0 (MQ below (QR (some (.int r))) args s 0 0 (fun _ => False)) (F0 m 28 ls [])) : ∀ (x3 : Int32), Mo_isSung_b70 F f_songLong f_longs f_letters f_song x1 rec28 x3 = some r → va_P D vwCl (w_Mo_isSung ct a_this a_forms a_sizes a_items a_moved a_bytes a_typed a_chances a_longs a_letters a_isThere a_pieceLongs a_pieceLetters a_song a_settings a_guess a_row a_least a_nights f_latest f_at f_names f_pieces f_songLong f_guesses f_todo f_longs f_letters f_song) s.heap → ∀ ls : Array Slot, lv_has ls 4 [(0, .ref a_this), (1, .int x1), (3, .int x3)] → W p l e RM_Mo_isSung s m args below meth c s.heap [] 0 0 (MQ below (QR (some (.int r))) args s 0 0 (fun _ => False)) (F0 m 70 ls []) := by
  obtain ⟨hx, hb, hr, hml, hown, hts, hlk, hK, hN⟩ := id C
  intro x3 hf hP ls hl
  unfold Mo_isSung_b70 at hf
  refine lv_iconst (v := 1) hx hb dX11_isSung_70 (by decide) ?_
  refine lv_goto (tgt := 75) hx hb dX11_isSung_71 (by decide) ?_
  exact t_Mo_isSung_b75 C a_this a_forms a_sizes a_items a_moved a_bytes a_typed a_chances a_longs a_letters a_isThere a_pieceLongs a_pieceLetters a_song a_settings a_guess a_row a_least a_nights f_latest f_at f_names f_pieces f_guesses f_todo F f_songLong f_longs f_letters f_song x1 r rec28 hr28 x3 1 hf hP _ (lv_sub hl [0, 1, 2] rfl)
set_option maxHeartbeats 4000000 in
set_option maxRecDepth 100000 in
theorem t_Mo_isSung_b28 {p : Program} {l : Launch} {e : Env} {s : State} {m : MethodId} {args : Array Value} {below : List Frame} {meth : Method} {c : Code} {D : va_G} {ct : Nat → ClassId} (C : CX p s m args meth c RX11 cX11_isSung 4 (some .boolean) D ct) (a_this a_forms a_sizes a_items a_moved a_bytes a_typed a_chances a_longs a_letters a_isThere a_pieceLongs a_pieceLetters a_song a_settings a_guess a_row a_least a_nights : Nat) (f_latest : Int32) (f_at : Int32) (f_names : Int32) (f_pieces : Int32) (f_guesses : Int32) (f_todo : Int32) (F : Nat) (f_songLong : Int32) (f_longs : Nat → Int32) (f_letters : Nat → Int32) (f_song : Nat → Int32) (x1 : Int32) (r : Int32) (rec28 : Int32 → Int32 → Option Int32) (hr28 : ∀ (x2 : Int32) (x3 : Int32), rec28 x2 x3 = some r → va_P D vwCl (w_Mo_isSung ct a_this a_forms a_sizes a_items a_moved a_bytes a_typed a_chances a_longs a_letters a_isThere a_pieceLongs a_pieceLetters a_song a_settings a_guess a_row a_least a_nights f_latest f_at f_names f_pieces f_songLong f_guesses f_todo f_longs f_letters f_song) s.heap → ∀ ls : Array Slot, lv_has ls 4 [(0, .ref a_this), (1, .int x1), (2, .int x2), (3, .int x3)] → W p l e RM_Mo_isSung s m args below meth c s.heap [] 0 0 (MQ below (QR (some (.int r))) args s 0 0 (fun _ => False)) (F0 m 28 ls [])) : ∀ (x2 : Int32) (x3 : Int32), Mo_isSung_b28 F f_songLong f_longs f_letters f_song x1 rec28 x2 x3 = some r → va_P D vwCl (w_Mo_isSung ct a_this a_forms a_sizes a_items a_moved a_bytes a_typed a_chances a_longs a_letters a_isThere a_pieceLongs a_pieceLetters a_song a_settings a_guess a_row a_least a_nights f_latest f_at f_names f_pieces f_songLong f_guesses f_todo f_longs f_letters f_song) s.heap → ∀ ls : Array Slot, lv_has ls 4 [(0, .ref a_this), (1, .int x1), (2, .int x2), (3, .int x3)] → W p l e RM_Mo_isSung s m args below meth c s.heap [] 0 0 (MQ below (QR (some (.int r))) args s 0 0 (fun _ => False)) (F0 m 28 ls []) := by
  obtain ⟨hx, hb, hr, hml, hown, hts, hlk, hK, hN⟩ := id C
  intro x2 x3 hf hP ls hl
  unfold Mo_isSung_b28 at hf
  refine lv_iload_n hx hb dX11_isSung_28 rfl (lv_at hl 3 rfl) ?_
  refine lv_aload_n hx hb dX11_isSung_29 rfl (lv_at hl 0 rfl) ?_
  refine va_get (ci := 11) (v := .int f_songLong) (C := RX11) (T := TX11) (N := 25) hx hb hts inX11 hown hK hP 0 rfl rfl 16 (by decide) (hts _ tw_961) (fun _ h9 => h9) rfl dX11_isSung_30 ?_
  refine lv_icmp_ge (tgt := 82) hx hb dX11_isSung_33 (by decide) (fun hc => ?_) (fun hc => ?_)
  · have hf := kpos hc hf
    refine lv_iload_n hx hb dX11_isSung_82 rfl (lv_at hl 2 rfl) ?_
    obtain ⟨hz, hf⟩ := gd_some hf
    have e1 := Option.some.inj hf
    subst e1
    exact kretRz C hz dX11_isSung_83
  · have hf := kneg hc hf
    refine lv_iload_n hx hb dX11_isSung_36 rfl (lv_at hl 2 rfl) ?_
    refine lv_if_eq (tgt := 82) hx hb dX11_isSung_37 (by decide) (fun hc => ?_) (fun hc => ?_)
    · have hf := kpos hc hf
      refine lv_iload_n hx hb dX11_isSung_82 rfl (lv_at hl 2 rfl) ?_
      obtain ⟨hz, hf⟩ := gd_some hf
      have e1 := Option.some.inj hf
      subst e1
      exact kretRz C hz dX11_isSung_83
    · have hf := kneg hc hf
      refine lv_aload_n hx hb dX11_isSung_40 rfl (lv_at hl 0 rfl) ?_
      refine va_get (ci := 11) (v := .ref a_song) (C := RX11) (T := TX11) (N := 25) hx hb hts inX11 hown hK hP 0 rfl rfl 17 (by decide) (hts _ tw_962) (fun _ h9 => h9) rfl dX11_isSung_41 ?_
      refine lv_iload_n hx hb dX11_isSung_44 rfl (lv_at hl 3 rfl) ?_
      obtain ⟨hin, hf⟩ := rd_some hf
      generalize ev45 : f_song (Int32.toNatClampNeg x3) = v45 at hf
      refine kiald hx hb hK hP 3 0 rfl rfl hin ev45 dX11_isSung_45 ?_
      refine lv_iconst (v := (-1)) hx hb dX11_isSung_46 (by decide) ?_
      refine lv_icmp_eq (tgt := 70) hx hb dX11_isSung_47 (by decide) (fun hc => ?_) (fun hc => ?_)
      · have hf := kpos hc hf
        exact t_Mo_isSung_b70 C a_this a_forms a_sizes a_items a_moved a_bytes a_typed a_chances a_longs a_letters a_isThere a_pieceLongs a_pieceLetters a_song a_settings a_guess a_row a_least a_nights f_latest f_at f_names f_pieces f_guesses f_todo F f_songLong f_longs f_letters f_song x1 r rec28 hr28 x3 hf hP _ (lv_sub hl [0, 1, 3] rfl)
      · have hf := kneg hc hf
        refine lv_aload_n hx hb dX11_isSung_50 rfl (lv_at hl 0 rfl) ?_
        refine va_get (ci := 11) (v := .ref a_song) (C := RX11) (T := TX11) (N := 25) hx hb hts inX11 hown hK hP 0 rfl rfl 17 (by decide) (hts _ tw_962) (fun _ h9 => h9) rfl dX11_isSung_51 ?_
        refine lv_iload_n hx hb dX11_isSung_54 rfl (lv_at hl 3 rfl) ?_
        obtain ⟨hin, hf⟩ := rd_some hf
        generalize ev55 : f_song (Int32.toNatClampNeg x3) = v55 at hf
        refine kiald hx hb hK hP 3 0 rfl rfl hin ev55 dX11_isSung_55 ?_
        refine lv_aload_n hx hb dX11_isSung_56 rfl (lv_at hl 0 rfl) ?_
        refine va_get (ci := 11) (v := .ref a_letters) (C := RX11) (T := TX11) (N := 25) hx hb hts inX11 hown hK hP 0 rfl rfl 11 (by decide) (hts _ tw_956) (fun _ h9 => h9) rfl dX11_isSung_57 ?_
        refine lv_bipush (v := 6) hx hb dX11_isSung_60 (by decide) ?_
        refine lv_iload_n hx hb dX11_isSung_62 rfl (lv_at hl 1 rfl) ?_
        refine lv_imul hx hb dX11_isSung_63 ?_
        refine lv_iload_n hx hb dX11_isSung_64 rfl (lv_at hl 3 rfl) ?_
        refine lv_iadd hx hb dX11_isSung_65 ?_
        obtain ⟨hin, hf⟩ := rd_some hf
        generalize ev66 : f_letters (Int32.toNatClampNeg ((6 * x1) + x3)) = v66 at hf
        refine kiald hx hb hK hP 2 0 rfl rfl hin ev66 dX11_isSung_66 ?_
        refine lv_icmp_ne (tgt := 74) hx hb dX11_isSung_67 (by decide) (fun hc => ?_) (fun hc => ?_)
        · have hf := kneg hc hf
          refine lv_iconst (v := 0) hx hb dX11_isSung_74 (by decide) ?_
          exact t_Mo_isSung_b75 C a_this a_forms a_sizes a_items a_moved a_bytes a_typed a_chances a_longs a_letters a_isThere a_pieceLongs a_pieceLetters a_song a_settings a_guess a_row a_least a_nights f_latest f_at f_names f_pieces f_guesses f_todo F f_songLong f_longs f_letters f_song x1 r rec28 hr28 x3 0 hf hP _ (lv_sub hl [0, 1, 3] rfl)
        · have hf := kpos hc hf
          exact t_Mo_isSung_b70 C a_this a_forms a_sizes a_items a_moved a_bytes a_typed a_chances a_longs a_letters a_isThere a_pieceLongs a_pieceLetters a_song a_settings a_guess a_row a_least a_nights f_latest f_at f_names f_pieces f_guesses f_todo F f_songLong f_longs f_letters f_song x1 r rec28 hr28 x3 hf hP _ (lv_sub hl [0, 1, 3] rfl)
set_option maxHeartbeats 4000000 in
set_option maxRecDepth 100000 in
theorem t_Mo_isSung_l28 {p : Program} {l : Launch} {e : Env} {s : State} {m : MethodId} {args : Array Value} {below : List Frame} {meth : Method} {c : Code} {D : va_G} {ct : Nat → ClassId} (C : CX p s m args meth c RX11 cX11_isSung 4 (some .boolean) D ct) (a_this a_forms a_sizes a_items a_moved a_bytes a_typed a_chances a_longs a_letters a_isThere a_pieceLongs a_pieceLetters a_song a_settings a_guess a_row a_least a_nights : Nat) (f_latest : Int32) (f_at : Int32) (f_names : Int32) (f_pieces : Int32) (f_guesses : Int32) (f_todo : Int32) (F : Nat) (f_songLong : Int32) (f_longs : Nat → Int32) (f_letters : Nat → Int32) (f_song : Nat → Int32) (x1 : Int32) (r : Int32) : ∀ (n : Nat) (x2 : Int32) (x3 : Int32), Mo_isSung_l28 F f_songLong f_longs f_letters f_song x1 n x2 x3 = some r → va_P D vwCl (w_Mo_isSung ct a_this a_forms a_sizes a_items a_moved a_bytes a_typed a_chances a_longs a_letters a_isThere a_pieceLongs a_pieceLetters a_song a_settings a_guess a_row a_least a_nights f_latest f_at f_names f_pieces f_songLong f_guesses f_todo f_longs f_letters f_song) s.heap → ∀ ls : Array Slot, lv_has ls 4 [(0, .ref a_this), (1, .int x1), (2, .int x2), (3, .int x3)] → W p l e RM_Mo_isSung s m args below meth c s.heap [] 0 0 (MQ below (QR (some (.int r))) args s 0 0 (fun _ => False)) (F0 m 28 ls []) := by
  intro n
  induction n with
  | zero =>
    intro x2 x3 hf
    exact absurd hf (by simp [Mo_isSung_l28])
  | succ n ih =>
    intro x2 x3 hf
    exact t_Mo_isSung_b28 C a_this a_forms a_sizes a_items a_moved a_bytes a_typed a_chances a_longs a_letters a_isThere a_pieceLongs a_pieceLetters a_song a_settings a_guess a_row a_least a_nights f_latest f_at f_names f_pieces f_guesses f_todo F f_songLong f_longs f_letters f_song x1 r (Mo_isSung_l28 F f_songLong f_longs f_letters f_song x1 n) ih x2 x3 hf
set_option maxHeartbeats 4000000 in
set_option maxRecDepth 100000 in
theorem t_Mo_isSung_b25 {p : Program} {l : Launch} {e : Env} {s : State} {m : MethodId} {args : Array Value} {below : List Frame} {meth : Method} {c : Code} {D : va_G} {ct : Nat → ClassId} (C : CX p s m args meth c RX11 cX11_isSung 4 (some .boolean) D ct) (a_this a_forms a_sizes a_items a_moved a_bytes a_typed a_chances a_longs a_letters a_isThere a_pieceLongs a_pieceLetters a_song a_settings a_guess a_row a_least a_nights : Nat) (f_latest : Int32) (f_at : Int32) (f_names : Int32) (f_pieces : Int32) (f_guesses : Int32) (f_todo : Int32) (F : Nat) (f_songLong : Int32) (f_longs : Nat → Int32) (f_letters : Nat → Int32) (f_song : Nat → Int32) (x1 : Int32) (r : Int32) : ∀ (k0 : Int32), Mo_isSung_b25 F f_songLong f_longs f_letters f_song x1 k0 = some r → va_P D vwCl (w_Mo_isSung ct a_this a_forms a_sizes a_items a_moved a_bytes a_typed a_chances a_longs a_letters a_isThere a_pieceLongs a_pieceLetters a_song a_settings a_guess a_row a_least a_nights f_latest f_at f_names f_pieces f_songLong f_guesses f_todo f_longs f_letters f_song) s.heap → ∀ ls : Array Slot, lv_has ls 4 [(0, .ref a_this), (1, .int x1)] → W p l e RM_Mo_isSung s m args below meth c s.heap [] 0 0 (MQ below (QR (some (.int r))) args s 0 0 (fun _ => False)) (F0 m 25 ls [.int k0]) := by
  obtain ⟨hx, hb, hr, hml, hown, hts, hlk, hK, hN⟩ := id C
  intro k0 hf hP ls hl
  unfold Mo_isSung_b25 at hf
  refine lv_istore_n (lv' := [(2, .int k0), (0, .ref a_this), (1, .int x1)]) hx hb dX11_isSung_25 rfl hl (by decide) rfl (fun ls hl => ?_)
  refine lv_iconst (v := 0) hx hb dX11_isSung_26 (by decide) ?_
  refine lv_istore_n (lv' := [(3, .int 0), (2, .int k0), (0, .ref a_this), (1, .int x1)]) hx hb dX11_isSung_27 rfl hl (by decide) rfl (fun ls hl => ?_)
  exact t_Mo_isSung_l28 C a_this a_forms a_sizes a_items a_moved a_bytes a_typed a_chances a_longs a_letters a_isThere a_pieceLongs a_pieceLetters a_song a_settings a_guess a_row a_least a_nights f_latest f_at f_names f_pieces f_guesses f_todo F f_songLong f_longs f_letters f_song x1 r F k0 0 hf hP _ (lv_sub hl [2, 3, 1, 0] rfl)
set_option maxHeartbeats 4000000 in
set_option maxRecDepth 100000 in
theorem t_Mo_isSung_b20 {p : Program} {l : Launch} {e : Env} {s : State} {m : MethodId} {args : Array Value} {below : List Frame} {meth : Method} {c : Code} {D : va_G} {ct : Nat → ClassId} (C : CX p s m args meth c RX11 cX11_isSung 4 (some .boolean) D ct) (a_this a_forms a_sizes a_items a_moved a_bytes a_typed a_chances a_longs a_letters a_isThere a_pieceLongs a_pieceLetters a_song a_settings a_guess a_row a_least a_nights : Nat) (f_latest : Int32) (f_at : Int32) (f_names : Int32) (f_pieces : Int32) (f_guesses : Int32) (f_todo : Int32) (F : Nat) (f_songLong : Int32) (f_longs : Nat → Int32) (f_letters : Nat → Int32) (f_song : Nat → Int32) (x1 : Int32) (r : Int32) : Mo_isSung_b20 F f_songLong f_longs f_letters f_song x1 = some r → va_P D vwCl (w_Mo_isSung ct a_this a_forms a_sizes a_items a_moved a_bytes a_typed a_chances a_longs a_letters a_isThere a_pieceLongs a_pieceLetters a_song a_settings a_guess a_row a_least a_nights f_latest f_at f_names f_pieces f_songLong f_guesses f_todo f_longs f_letters f_song) s.heap → ∀ ls : Array Slot, lv_has ls 4 [(0, .ref a_this), (1, .int x1)] → W p l e RM_Mo_isSung s m args below meth c s.heap [] 0 0 (MQ below (QR (some (.int r))) args s 0 0 (fun _ => False)) (F0 m 20 ls []) := by
  obtain ⟨hx, hb, hr, hml, hown, hts, hlk, hK, hN⟩ := id C
  intro hf hP ls hl
  unfold Mo_isSung_b20 at hf
  refine lv_iconst (v := 1) hx hb dX11_isSung_20 (by decide) ?_
  refine lv_goto (tgt := 25) hx hb dX11_isSung_21 (by decide) ?_
  exact t_Mo_isSung_b25 C a_this a_forms a_sizes a_items a_moved a_bytes a_typed a_chances a_longs a_letters a_isThere a_pieceLongs a_pieceLetters a_song a_settings a_guess a_row a_least a_nights f_latest f_at f_names f_pieces f_guesses f_todo F f_songLong f_longs f_letters f_song x1 r 1 hf hP _ (lv_sub hl [0, 1] rfl)
set_option maxHeartbeats 4000000 in
set_option maxRecDepth 100000 in
theorem c_Mo_isSung (l : Launch) (D : va_G) (ct : Nat → ClassId) (a_this a_forms a_sizes a_items a_moved a_bytes a_typed a_chances a_longs a_letters a_isThere a_pieceLongs a_pieceLetters a_song a_settings a_guess a_row a_least a_nights : Nat) (f_latest : Int32) (f_at : Int32) (f_names : Int32) (f_pieces : Int32) (f_guesses : Int32) (f_todo : Int32) (F : Nat) (f_songLong : Int32) (f_longs : Nat → Int32) (f_letters : Nat → Int32) (f_song : Nat → Int32) (x1 : Int32) (r : Int32) (hf : Mo_isSung F f_songLong f_longs f_letters f_song x1 = some r) : Met l yX11_isSung (WS yX11_isSung cX11_isSung 4 (some .boolean)) RM_Mo_isSung (va_Pc [.ref a_this, .int x1] (PR D ct (w_Mo_isSung ct a_this a_forms a_sizes a_items a_moved a_bytes a_typed a_chances a_longs a_letters a_isThere a_pieceLongs a_pieceLetters a_song a_settings a_guess a_row a_least a_nights f_latest f_at f_names f_pieces f_songLong f_guesses f_todo f_longs f_letters f_song))) (QR (some (.int r))) 0 0 (fun _ => False) := by
  refine kMetR yn_yX11_isSung rfl (Nat.le_of_ble_eq_true rfl) ?_
  intro p e s m args below meth c C hP ls hl
  have hl : lv_has ls 4 [(0, .ref a_this), (1, .int x1)] := hl
  obtain ⟨hx, hb, hr, hml, hown, hts, hlk, hK, hN⟩ := id C
  unfold Mo_isSung at hf
  refine lv_aload_n hx hb dX11_isSung_0 rfl (lv_at hl 0 rfl) ?_
  refine va_get (ci := 11) (v := .int f_songLong) (C := RX11) (T := TX11) (N := 25) hx hb hts inX11 hown hK hP 0 rfl rfl 16 (by decide) (hts _ tw_961) (fun _ h9 => h9) rfl dX11_isSung_1 ?_
  refine lv_if_eq (tgt := 20) hx hb dX11_isSung_4 (by decide) (fun hc => ?_) (fun hc => ?_)
  · have hf := kpos hc hf
    exact t_Mo_isSung_b20 C a_this a_forms a_sizes a_items a_moved a_bytes a_typed a_chances a_longs a_letters a_isThere a_pieceLongs a_pieceLetters a_song a_settings a_guess a_row a_least a_nights f_latest f_at f_names f_pieces f_guesses f_todo F f_songLong f_longs f_letters f_song x1 r hf hP _ (lv_sub hl [0, 1] rfl)
  · have hf := kneg hc hf
    refine lv_aload_n hx hb dX11_isSung_7 rfl (lv_at hl 0 rfl) ?_
    refine va_get (ci := 11) (v := .int f_songLong) (C := RX11) (T := TX11) (N := 25) hx hb hts inX11 hown hK hP 0 rfl rfl 16 (by decide) (hts _ tw_961) (fun _ h9 => h9) rfl dX11_isSung_8 ?_
    refine lv_aload_n hx hb dX11_isSung_11 rfl (lv_at hl 0 rfl) ?_
    refine va_get (ci := 11) (v := .ref a_longs) (C := RX11) (T := TX11) (N := 25) hx hb hts inX11 hown hK hP 0 rfl rfl 10 (by decide) (hts _ tw_955) (fun _ h9 => h9) rfl dX11_isSung_12 ?_
    refine lv_iload_n hx hb dX11_isSung_15 rfl (lv_at hl 1 rfl) ?_
    obtain ⟨hin, hf⟩ := rd_some hf
    generalize ev16 : f_longs (Int32.toNatClampNeg x1) = v16 at hf
    refine kiald hx hb hK hP 1 0 rfl rfl hin ev16 dX11_isSung_16 ?_
    refine lv_icmp_ne (tgt := 24) hx hb dX11_isSung_17 (by decide) (fun hc => ?_) (fun hc => ?_)
    · have hf := kneg hc hf
      refine lv_iconst (v := 0) hx hb dX11_isSung_24 (by decide) ?_
      exact t_Mo_isSung_b25 C a_this a_forms a_sizes a_items a_moved a_bytes a_typed a_chances a_longs a_letters a_isThere a_pieceLongs a_pieceLetters a_song a_settings a_guess a_row a_least a_nights f_latest f_at f_names f_pieces f_guesses f_todo F f_songLong f_longs f_letters f_song x1 r 0 hf hP _ (lv_sub hl [0, 1] rfl)
    · have hf := kpos hc hf
      exact t_Mo_isSung_b20 C a_this a_forms a_sizes a_items a_moved a_bytes a_typed a_chances a_longs a_letters a_isThere a_pieceLongs a_pieceLetters a_song a_settings a_guess a_row a_least a_nights f_latest f_at f_names f_pieces f_guesses f_todo F f_songLong f_longs f_letters f_song x1 r hf hP _ (lv_sub hl [0, 1] rfl)
def RM_Mo_fitsBy : Room := { frames := 1, cells := 0, slots := 0, locals := 26 }
set_option maxHeartbeats 4000000 in
set_option maxRecDepth 100000 in
theorem t_Mo_fitsBy_b81 {p : Program} {l : Launch} {e : Env} {s : State} {m : MethodId} {args : Array Value} {below : List Frame} {meth : Method} {c : Code} {D : va_G} {ct : Nat → ClassId} (C : CX p s m args meth c RX11 cX11_fitsBy 6 (some .int) D ct) (a_this a_forms a_sizes a_items a_moved a_bytes a_typed a_chances a_longs a_letters a_isThere a_pieceLongs a_pieceLetters a_song a_settings a_guess a_row a_least a_nights : Nat) (f_latest : Int32) (f_at : Int32) (f_guesses : Int32) (f_todo : Int32) (F : Nat) (f_names : Int32) (f_pieces : Int32) (f_songLong : Int32) (f_longs : Nat → Int32) (f_letters : Nat → Int32) (f_isThere : Nat → Int32) (f_pieceLongs : Nat → Int32) (f_pieceLetters : Nat → Int32) (f_song : Nat → Int32) (x1 : Int32) (r : Int32) (rec4 : Int32 → Int32 → Option Int32) (hr4 : ∀ (x2 : Int32) (x3 : Int32), rec4 x2 x3 = some r → va_P D vwCl (w_Mo_fitsBy ct a_this a_forms a_sizes a_items a_moved a_bytes a_typed a_chances a_longs a_letters a_isThere a_pieceLongs a_pieceLetters a_song a_settings a_guess a_row a_least a_nights f_latest f_at f_names f_pieces f_songLong f_guesses f_todo f_longs f_letters f_isThere f_pieceLongs f_pieceLetters f_song) s.heap → ∀ ls : Array Slot, lv_has ls 6 [(0, .ref a_this), (1, .int x1), (2, .int x2), (3, .int x3)] → W p l e RM_Mo_fitsBy s m args below meth c s.heap [] 0 0 (MQ below (QR (some (.int r))) args s 0 0 (fun _ => False)) (F0 m 4 ls [])) : ∀ (x3 : Int32) (k0 : Int32) (k1 : Int32), Mo_fitsBy_b81 F f_names f_pieces f_songLong f_longs f_letters f_isThere f_pieceLongs f_pieceLetters f_song x1 rec4 x3 k0 k1 = some r → va_P D vwCl (w_Mo_fitsBy ct a_this a_forms a_sizes a_items a_moved a_bytes a_typed a_chances a_longs a_letters a_isThere a_pieceLongs a_pieceLetters a_song a_settings a_guess a_row a_least a_nights f_latest f_at f_names f_pieces f_songLong f_guesses f_todo f_longs f_letters f_isThere f_pieceLongs f_pieceLetters f_song) s.heap → ∀ ls : Array Slot, lv_has ls 6 [(0, .ref a_this), (1, .int x1), (3, .int x3)] → W p l e RM_Mo_fitsBy s m args below meth c s.heap [] 0 0 (MQ below (QR (some (.int r))) args s 0 0 (fun _ => False)) (F0 m 81 ls [.int k1, .int k0]) := by
  obtain ⟨hx, hb, hr, hml, hown, hts, hlk, hK, hN⟩ := id C
  intro x3 k0 k1 hf hP ls hl
  unfold Mo_fitsBy_b81 at hf
  refine lv_ior hx hb dX11_fitsBy_81 ?_
  refine lv_istore_n (lv' := [(2, .int (k0 ||| k1)), (0, .ref a_this), (1, .int x1), (3, .int x3)]) hx hb dX11_fitsBy_82 rfl hl (by decide) rfl (fun ls hl => ?_)
  refine lv_iinc (v := x3 + 1) (lv' := [(3, .int (x3 + 1)), (2, .int (k0 ||| k1)), (0, .ref a_this), (1, .int x1)]) hx hb dX11_fitsBy_83 hl (k := 3) rfl rfl (by decide) rfl (fun ls hl => ?_)
  refine lv_goto (tgt := 4) hx hb dX11_fitsBy_86 (by decide) ?_
  exact hr4 (k0 ||| k1) (x3 + 1) hf hP _ (lv_sub hl [2, 3, 1, 0] rfl)
set_option maxHeartbeats 4000000 in
set_option maxRecDepth 100000 in
theorem t_Mo_fitsBy_b68 {p : Program} {l : Launch} {e : Env} {s : State} {m : MethodId} {args : Array Value} {below : List Frame} {meth : Method} {c : Code} {D : va_G} {ct : Nat → ClassId} (C : CX p s m args meth c RX11 cX11_fitsBy 6 (some .int) D ct) (a_this a_forms a_sizes a_items a_moved a_bytes a_typed a_chances a_longs a_letters a_isThere a_pieceLongs a_pieceLetters a_song a_settings a_guess a_row a_least a_nights : Nat) (f_latest : Int32) (f_at : Int32) (f_guesses : Int32) (f_todo : Int32) (F : Nat) (f_names : Int32) (f_pieces : Int32) (f_songLong : Int32) (f_longs : Nat → Int32) (f_letters : Nat → Int32) (f_isThere : Nat → Int32) (f_pieceLongs : Nat → Int32) (f_pieceLetters : Nat → Int32) (f_song : Nat → Int32) (x1 : Int32) (r : Int32) (rec4 : Int32 → Int32 → Option Int32) (hr4 : ∀ (x2 : Int32) (x3 : Int32), rec4 x2 x3 = some r → va_P D vwCl (w_Mo_fitsBy ct a_this a_forms a_sizes a_items a_moved a_bytes a_typed a_chances a_longs a_letters a_isThere a_pieceLongs a_pieceLetters a_song a_settings a_guess a_row a_least a_nights f_latest f_at f_names f_pieces f_songLong f_guesses f_todo f_longs f_letters f_isThere f_pieceLongs f_pieceLetters f_song) s.heap → ∀ ls : Array Slot, lv_has ls 6 [(0, .ref a_this), (1, .int x1), (2, .int x2), (3, .int x3)] → W p l e RM_Mo_fitsBy s m args below meth c s.heap [] 0 0 (MQ below (QR (some (.int r))) args s 0 0 (fun _ => False)) (F0 m 4 ls [])) : ∀ (x2 : Int32) (x3 : Int32) (x4 : Int32), Mo_fitsBy_b68 F f_names f_pieces f_songLong f_longs f_letters f_isThere f_pieceLongs f_pieceLetters f_song x1 rec4 x2 x3 x4 = some r → va_P D vwCl (w_Mo_fitsBy ct a_this a_forms a_sizes a_items a_moved a_bytes a_typed a_chances a_longs a_letters a_isThere a_pieceLongs a_pieceLetters a_song a_settings a_guess a_row a_least a_nights f_latest f_at f_names f_pieces f_songLong f_guesses f_todo f_longs f_letters f_isThere f_pieceLongs f_pieceLetters f_song) s.heap → ∀ ls : Array Slot, lv_has ls 6 [(0, .ref a_this), (1, .int x1), (2, .int x2), (3, .int x3), (4, .int x4)] → W p l e RM_Mo_fitsBy s m args below meth c s.heap [] 0 0 (MQ below (QR (some (.int r))) args s 0 0 (fun _ => False)) (F0 m 68 ls []) := by
  obtain ⟨hx, hb, hr, hml, hown, hts, hlk, hK, hN⟩ := id C
  intro x2 x3 x4 hf hP ls hl
  unfold Mo_fitsBy_b68 at hf
  refine lv_iload_n hx hb dX11_fitsBy_68 rfl (lv_at hl 2 rfl) ?_
  refine lv_iload hx hb dX11_fitsBy_69 (lv_at hl 4 rfl) ?_
  refine lv_if_eq (tgt := 80) hx hb dX11_fitsBy_71 (by decide) (fun hc => ?_) (fun hc => ?_)
  · have hf := kpos hc hf
    refine lv_iconst (v := 0) hx hb dX11_fitsBy_80 (by decide) ?_
    exact t_Mo_fitsBy_b81 C a_this a_forms a_sizes a_items a_moved a_bytes a_typed a_chances a_longs a_letters a_isThere a_pieceLongs a_pieceLetters a_song a_settings a_guess a_row a_least a_nights f_latest f_at f_guesses f_todo F f_names f_pieces f_songLong f_longs f_letters f_isThere f_pieceLongs f_pieceLetters f_song x1 r rec4 hr4 x3 x2 0 hf hP _ (lv_sub hl [0, 1, 3] rfl)
  · have hf := kneg hc hf
    refine lv_iconst (v := 1) hx hb dX11_fitsBy_74 (by decide) ?_
    refine lv_iload_n hx hb dX11_fitsBy_75 rfl (lv_at hl 3 rfl) ?_
    refine lv_ishl hx hb dX11_fitsBy_76 ?_
    refine lv_goto (tgt := 81) hx hb dX11_fitsBy_77 (by decide) ?_
    exact t_Mo_fitsBy_b81 C a_this a_forms a_sizes a_items a_moved a_bytes a_typed a_chances a_longs a_letters a_isThere a_pieceLongs a_pieceLetters a_song a_settings a_guess a_row a_least a_nights f_latest f_at f_guesses f_todo F f_names f_pieces f_songLong f_longs f_letters f_isThere f_pieceLongs f_pieceLetters f_song x1 r rec4 hr4 x3 x2 ((1 : Int32) <<< (x3 &&& 31)) hf hP _ (lv_sub hl [0, 1, 3] rfl)
set_option maxHeartbeats 4000000 in
set_option maxRecDepth 100000 in
theorem t_Mo_fitsBy_b60 {p : Program} {l : Launch} {e : Env} {s : State} {m : MethodId} {args : Array Value} {below : List Frame} {meth : Method} {c : Code} {D : va_G} {ct : Nat → ClassId} (C : CX p s m args meth c RX11 cX11_fitsBy 6 (some .int) D ct) (a_this a_forms a_sizes a_items a_moved a_bytes a_typed a_chances a_longs a_letters a_isThere a_pieceLongs a_pieceLetters a_song a_settings a_guess a_row a_least a_nights : Nat) (f_latest : Int32) (f_at : Int32) (f_guesses : Int32) (f_todo : Int32) (F : Nat) (f_names : Int32) (f_pieces : Int32) (f_songLong : Int32) (f_longs : Nat → Int32) (f_letters : Nat → Int32) (f_isThere : Nat → Int32) (f_pieceLongs : Nat → Int32) (f_pieceLetters : Nat → Int32) (f_song : Nat → Int32) (x1 : Int32) (r : Int32) (rec4 : Int32 → Int32 → Option Int32) (rec22 : Int32 → Int32 → Int32 → Int32 → Option Int32) (hr4 : ∀ (x2 : Int32) (x3 : Int32), rec4 x2 x3 = some r → va_P D vwCl (w_Mo_fitsBy ct a_this a_forms a_sizes a_items a_moved a_bytes a_typed a_chances a_longs a_letters a_isThere a_pieceLongs a_pieceLetters a_song a_settings a_guess a_row a_least a_nights f_latest f_at f_names f_pieces f_songLong f_guesses f_todo f_longs f_letters f_isThere f_pieceLongs f_pieceLetters f_song) s.heap → ∀ ls : Array Slot, lv_has ls 6 [(0, .ref a_this), (1, .int x1), (2, .int x2), (3, .int x3)] → W p l e RM_Mo_fitsBy s m args below meth c s.heap [] 0 0 (MQ below (QR (some (.int r))) args s 0 0 (fun _ => False)) (F0 m 4 ls [])) (hr22 : ∀ (x2 : Int32) (x3 : Int32) (x4 : Int32) (x5 : Int32), rec22 x2 x3 x4 x5 = some r → va_P D vwCl (w_Mo_fitsBy ct a_this a_forms a_sizes a_items a_moved a_bytes a_typed a_chances a_longs a_letters a_isThere a_pieceLongs a_pieceLetters a_song a_settings a_guess a_row a_least a_nights f_latest f_at f_names f_pieces f_songLong f_guesses f_todo f_longs f_letters f_isThere f_pieceLongs f_pieceLetters f_song) s.heap → ∀ ls : Array Slot, lv_has ls 6 [(0, .ref a_this), (1, .int x1), (2, .int x2), (3, .int x3), (4, .int x4), (5, .int x5)] → W p l e RM_Mo_fitsBy s m args below meth c s.heap [] 0 0 (MQ below (QR (some (.int r))) args s 0 0 (fun _ => False)) (F0 m 22 ls [])) : ∀ (x2 : Int32) (x3 : Int32) (x5 : Int32) (k0 : Int32), Mo_fitsBy_b60 F f_names f_pieces f_songLong f_longs f_letters f_isThere f_pieceLongs f_pieceLetters f_song x1 rec4 rec22 x2 x3 x5 k0 = some r → va_P D vwCl (w_Mo_fitsBy ct a_this a_forms a_sizes a_items a_moved a_bytes a_typed a_chances a_longs a_letters a_isThere a_pieceLongs a_pieceLetters a_song a_settings a_guess a_row a_least a_nights f_latest f_at f_names f_pieces f_songLong f_guesses f_todo f_longs f_letters f_isThere f_pieceLongs f_pieceLetters f_song) s.heap → ∀ ls : Array Slot, lv_has ls 6 [(0, .ref a_this), (1, .int x1), (2, .int x2), (3, .int x3), (5, .int x5)] → W p l e RM_Mo_fitsBy s m args below meth c s.heap [] 0 0 (MQ below (QR (some (.int r))) args s 0 0 (fun _ => False)) (F0 m 60 ls [.int k0]) := by
  obtain ⟨hx, hb, hr, hml, hown, hts, hlk, hK, hN⟩ := id C
  intro x2 x3 x5 k0 hf hP ls hl
  unfold Mo_fitsBy_b60 at hf
  refine lv_istore (lv' := [(4, .int k0), (0, .ref a_this), (1, .int x1), (2, .int x2), (3, .int x3), (5, .int x5)]) hx hb dX11_fitsBy_60 hl (by decide) rfl (fun ls hl => ?_)
  refine lv_iinc (v := x5 + 1) (lv' := [(5, .int (x5 + 1)), (4, .int k0), (0, .ref a_this), (1, .int x1), (2, .int x2), (3, .int x3)]) hx hb dX11_fitsBy_62 hl (k := 5) rfl rfl (by decide) rfl (fun ls hl => ?_)
  refine lv_goto (tgt := 22) hx hb dX11_fitsBy_65 (by decide) ?_
  exact hr22 x2 x3 k0 (x5 + 1) hf hP _ (lv_sub hl [2, 3, 4, 5, 1, 0] rfl)
set_option maxHeartbeats 4000000 in
set_option maxRecDepth 100000 in
theorem t_Mo_fitsBy_b59 {p : Program} {l : Launch} {e : Env} {s : State} {m : MethodId} {args : Array Value} {below : List Frame} {meth : Method} {c : Code} {D : va_G} {ct : Nat → ClassId} (C : CX p s m args meth c RX11 cX11_fitsBy 6 (some .int) D ct) (a_this a_forms a_sizes a_items a_moved a_bytes a_typed a_chances a_longs a_letters a_isThere a_pieceLongs a_pieceLetters a_song a_settings a_guess a_row a_least a_nights : Nat) (f_latest : Int32) (f_at : Int32) (f_guesses : Int32) (f_todo : Int32) (F : Nat) (f_names : Int32) (f_pieces : Int32) (f_songLong : Int32) (f_longs : Nat → Int32) (f_letters : Nat → Int32) (f_isThere : Nat → Int32) (f_pieceLongs : Nat → Int32) (f_pieceLetters : Nat → Int32) (f_song : Nat → Int32) (x1 : Int32) (r : Int32) (rec4 : Int32 → Int32 → Option Int32) (rec22 : Int32 → Int32 → Int32 → Int32 → Option Int32) (hr4 : ∀ (x2 : Int32) (x3 : Int32), rec4 x2 x3 = some r → va_P D vwCl (w_Mo_fitsBy ct a_this a_forms a_sizes a_items a_moved a_bytes a_typed a_chances a_longs a_letters a_isThere a_pieceLongs a_pieceLetters a_song a_settings a_guess a_row a_least a_nights f_latest f_at f_names f_pieces f_songLong f_guesses f_todo f_longs f_letters f_isThere f_pieceLongs f_pieceLetters f_song) s.heap → ∀ ls : Array Slot, lv_has ls 6 [(0, .ref a_this), (1, .int x1), (2, .int x2), (3, .int x3)] → W p l e RM_Mo_fitsBy s m args below meth c s.heap [] 0 0 (MQ below (QR (some (.int r))) args s 0 0 (fun _ => False)) (F0 m 4 ls [])) (hr22 : ∀ (x2 : Int32) (x3 : Int32) (x4 : Int32) (x5 : Int32), rec22 x2 x3 x4 x5 = some r → va_P D vwCl (w_Mo_fitsBy ct a_this a_forms a_sizes a_items a_moved a_bytes a_typed a_chances a_longs a_letters a_isThere a_pieceLongs a_pieceLetters a_song a_settings a_guess a_row a_least a_nights f_latest f_at f_names f_pieces f_songLong f_guesses f_todo f_longs f_letters f_isThere f_pieceLongs f_pieceLetters f_song) s.heap → ∀ ls : Array Slot, lv_has ls 6 [(0, .ref a_this), (1, .int x1), (2, .int x2), (3, .int x3), (4, .int x4), (5, .int x5)] → W p l e RM_Mo_fitsBy s m args below meth c s.heap [] 0 0 (MQ below (QR (some (.int r))) args s 0 0 (fun _ => False)) (F0 m 22 ls [])) : ∀ (x2 : Int32) (x3 : Int32) (x5 : Int32), Mo_fitsBy_b59 F f_names f_pieces f_songLong f_longs f_letters f_isThere f_pieceLongs f_pieceLetters f_song x1 rec4 rec22 x2 x3 x5 = some r → va_P D vwCl (w_Mo_fitsBy ct a_this a_forms a_sizes a_items a_moved a_bytes a_typed a_chances a_longs a_letters a_isThere a_pieceLongs a_pieceLetters a_song a_settings a_guess a_row a_least a_nights f_latest f_at f_names f_pieces f_songLong f_guesses f_todo f_longs f_letters f_isThere f_pieceLongs f_pieceLetters f_song) s.heap → ∀ ls : Array Slot, lv_has ls 6 [(0, .ref a_this), (1, .int x1), (2, .int x2), (3, .int x3), (5, .int x5)] → W p l e RM_Mo_fitsBy s m args below meth c s.heap [] 0 0 (MQ below (QR (some (.int r))) args s 0 0 (fun _ => False)) (F0 m 59 ls []) := by
  obtain ⟨hx, hb, hr, hml, hown, hts, hlk, hK, hN⟩ := id C
  intro x2 x3 x5 hf hP ls hl
  unfold Mo_fitsBy_b59 at hf
  refine lv_iconst (v := 0) hx hb dX11_fitsBy_59 (by decide) ?_
  exact t_Mo_fitsBy_b60 C a_this a_forms a_sizes a_items a_moved a_bytes a_typed a_chances a_longs a_letters a_isThere a_pieceLongs a_pieceLetters a_song a_settings a_guess a_row a_least a_nights f_latest f_at f_guesses f_todo F f_names f_pieces f_songLong f_longs f_letters f_isThere f_pieceLongs f_pieceLetters f_song x1 r rec4 rec22 hr4 hr22 x2 x3 x5 0 hf hP _ (lv_sub hl [0, 1, 2, 3, 4] rfl)
set_option maxHeartbeats 4000000 in
set_option maxRecDepth 100000 in
theorem t_Mo_fitsBy_b55 {p : Program} {l : Launch} {e : Env} {s : State} {m : MethodId} {args : Array Value} {below : List Frame} {meth : Method} {c : Code} {D : va_G} {ct : Nat → ClassId} (C : CX p s m args meth c RX11 cX11_fitsBy 6 (some .int) D ct) (a_this a_forms a_sizes a_items a_moved a_bytes a_typed a_chances a_longs a_letters a_isThere a_pieceLongs a_pieceLetters a_song a_settings a_guess a_row a_least a_nights : Nat) (f_latest : Int32) (f_at : Int32) (f_guesses : Int32) (f_todo : Int32) (F : Nat) (f_names : Int32) (f_pieces : Int32) (f_songLong : Int32) (f_longs : Nat → Int32) (f_letters : Nat → Int32) (f_isThere : Nat → Int32) (f_pieceLongs : Nat → Int32) (f_pieceLetters : Nat → Int32) (f_song : Nat → Int32) (x1 : Int32) (r : Int32) (rec4 : Int32 → Int32 → Option Int32) (rec22 : Int32 → Int32 → Int32 → Int32 → Option Int32) (hr4 : ∀ (x2 : Int32) (x3 : Int32), rec4 x2 x3 = some r → va_P D vwCl (w_Mo_fitsBy ct a_this a_forms a_sizes a_items a_moved a_bytes a_typed a_chances a_longs a_letters a_isThere a_pieceLongs a_pieceLetters a_song a_settings a_guess a_row a_least a_nights f_latest f_at f_names f_pieces f_songLong f_guesses f_todo f_longs f_letters f_isThere f_pieceLongs f_pieceLetters f_song) s.heap → ∀ ls : Array Slot, lv_has ls 6 [(0, .ref a_this), (1, .int x1), (2, .int x2), (3, .int x3)] → W p l e RM_Mo_fitsBy s m args below meth c s.heap [] 0 0 (MQ below (QR (some (.int r))) args s 0 0 (fun _ => False)) (F0 m 4 ls [])) (hr22 : ∀ (x2 : Int32) (x3 : Int32) (x4 : Int32) (x5 : Int32), rec22 x2 x3 x4 x5 = some r → va_P D vwCl (w_Mo_fitsBy ct a_this a_forms a_sizes a_items a_moved a_bytes a_typed a_chances a_longs a_letters a_isThere a_pieceLongs a_pieceLetters a_song a_settings a_guess a_row a_least a_nights f_latest f_at f_names f_pieces f_songLong f_guesses f_todo f_longs f_letters f_isThere f_pieceLongs f_pieceLetters f_song) s.heap → ∀ ls : Array Slot, lv_has ls 6 [(0, .ref a_this), (1, .int x1), (2, .int x2), (3, .int x3), (4, .int x4), (5, .int x5)] → W p l e RM_Mo_fitsBy s m args below meth c s.heap [] 0 0 (MQ below (QR (some (.int r))) args s 0 0 (fun _ => False)) (F0 m 22 ls [])) : ∀ (x2 : Int32) (x3 : Int32) (x5 : Int32), Mo_fitsBy_b55 F f_names f_pieces f_songLong f_longs f_letters f_isThere f_pieceLongs f_pieceLetters f_song x1 rec4 rec22 x2 x3 x5 = some r → va_P D vwCl (w_Mo_fitsBy ct a_this a_forms a_sizes a_items a_moved a_bytes a_typed a_chances a_longs a_letters a_isThere a_pieceLongs a_pieceLetters a_song a_settings a_guess a_row a_least a_nights f_latest f_at f_names f_pieces f_songLong f_guesses f_todo f_longs f_letters f_isThere f_pieceLongs f_pieceLetters f_song) s.heap → ∀ ls : Array Slot, lv_has ls 6 [(0, .ref a_this), (1, .int x1), (2, .int x2), (3, .int x3), (5, .int x5)] → W p l e RM_Mo_fitsBy s m args below meth c s.heap [] 0 0 (MQ below (QR (some (.int r))) args s 0 0 (fun _ => False)) (F0 m 55 ls []) := by
  obtain ⟨hx, hb, hr, hml, hown, hts, hlk, hK, hN⟩ := id C
  intro x2 x3 x5 hf hP ls hl
  unfold Mo_fitsBy_b55 at hf
  refine lv_iconst (v := 1) hx hb dX11_fitsBy_55 (by decide) ?_
  refine lv_goto (tgt := 60) hx hb dX11_fitsBy_56 (by decide) ?_
  exact t_Mo_fitsBy_b60 C a_this a_forms a_sizes a_items a_moved a_bytes a_typed a_chances a_longs a_letters a_isThere a_pieceLongs a_pieceLetters a_song a_settings a_guess a_row a_least a_nights f_latest f_at f_guesses f_todo F f_names f_pieces f_songLong f_longs f_letters f_isThere f_pieceLongs f_pieceLetters f_song x1 r rec4 rec22 hr4 hr22 x2 x3 x5 1 hf hP _ (lv_sub hl [0, 1, 2, 3, 4] rfl)
set_option maxHeartbeats 4000000 in
set_option maxRecDepth 100000 in
theorem t_Mo_fitsBy_b22 {p : Program} {l : Launch} {e : Env} {s : State} {m : MethodId} {args : Array Value} {below : List Frame} {meth : Method} {c : Code} {D : va_G} {ct : Nat → ClassId} (C : CX p s m args meth c RX11 cX11_fitsBy 6 (some .int) D ct) (a_this a_forms a_sizes a_items a_moved a_bytes a_typed a_chances a_longs a_letters a_isThere a_pieceLongs a_pieceLetters a_song a_settings a_guess a_row a_least a_nights : Nat) (f_latest : Int32) (f_at : Int32) (f_guesses : Int32) (f_todo : Int32) (F : Nat) (f_names : Int32) (f_pieces : Int32) (f_songLong : Int32) (f_longs : Nat → Int32) (f_letters : Nat → Int32) (f_isThere : Nat → Int32) (f_pieceLongs : Nat → Int32) (f_pieceLetters : Nat → Int32) (f_song : Nat → Int32) (x1 : Int32) (r : Int32) (rec4 : Int32 → Int32 → Option Int32) (rec22 : Int32 → Int32 → Int32 → Int32 → Option Int32) (hr4 : ∀ (x2 : Int32) (x3 : Int32), rec4 x2 x3 = some r → va_P D vwCl (w_Mo_fitsBy ct a_this a_forms a_sizes a_items a_moved a_bytes a_typed a_chances a_longs a_letters a_isThere a_pieceLongs a_pieceLetters a_song a_settings a_guess a_row a_least a_nights f_latest f_at f_names f_pieces f_songLong f_guesses f_todo f_longs f_letters f_isThere f_pieceLongs f_pieceLetters f_song) s.heap → ∀ ls : Array Slot, lv_has ls 6 [(0, .ref a_this), (1, .int x1), (2, .int x2), (3, .int x3)] → W p l e RM_Mo_fitsBy s m args below meth c s.heap [] 0 0 (MQ below (QR (some (.int r))) args s 0 0 (fun _ => False)) (F0 m 4 ls [])) (hr22 : ∀ (x2 : Int32) (x3 : Int32) (x4 : Int32) (x5 : Int32), rec22 x2 x3 x4 x5 = some r → va_P D vwCl (w_Mo_fitsBy ct a_this a_forms a_sizes a_items a_moved a_bytes a_typed a_chances a_longs a_letters a_isThere a_pieceLongs a_pieceLetters a_song a_settings a_guess a_row a_least a_nights f_latest f_at f_names f_pieces f_songLong f_guesses f_todo f_longs f_letters f_isThere f_pieceLongs f_pieceLetters f_song) s.heap → ∀ ls : Array Slot, lv_has ls 6 [(0, .ref a_this), (1, .int x1), (2, .int x2), (3, .int x3), (4, .int x4), (5, .int x5)] → W p l e RM_Mo_fitsBy s m args below meth c s.heap [] 0 0 (MQ below (QR (some (.int r))) args s 0 0 (fun _ => False)) (F0 m 22 ls [])) : ∀ (x2 : Int32) (x3 : Int32) (x4 : Int32) (x5 : Int32), Mo_fitsBy_b22 F f_names f_pieces f_songLong f_longs f_letters f_isThere f_pieceLongs f_pieceLetters f_song x1 rec4 rec22 x2 x3 x4 x5 = some r → va_P D vwCl (w_Mo_fitsBy ct a_this a_forms a_sizes a_items a_moved a_bytes a_typed a_chances a_longs a_letters a_isThere a_pieceLongs a_pieceLetters a_song a_settings a_guess a_row a_least a_nights f_latest f_at f_names f_pieces f_songLong f_guesses f_todo f_longs f_letters f_isThere f_pieceLongs f_pieceLetters f_song) s.heap → ∀ ls : Array Slot, lv_has ls 6 [(0, .ref a_this), (1, .int x1), (2, .int x2), (3, .int x3), (4, .int x4), (5, .int x5)] → W p l e RM_Mo_fitsBy s m args below meth c s.heap [] 0 0 (MQ below (QR (some (.int r))) args s 0 0 (fun _ => False)) (F0 m 22 ls []) := by
  obtain ⟨hx, hb, hr, hml, hown, hts, hlk, hK, hN⟩ := id C
  intro x2 x3 x4 x5 hf hP ls hl
  unfold Mo_fitsBy_b22 at hf
  refine lv_iload hx hb dX11_fitsBy_22 (lv_at hl 5 rfl) ?_
  refine lv_aload_n hx hb dX11_fitsBy_24 rfl (lv_at hl 0 rfl) ?_
  refine va_get (ci := 11) (v := .int f_pieces) (C := RX11) (T := TX11) (N := 25) hx hb hts inX11 hown hK hP 0 rfl rfl 12 (by decide) (hts _ tw_957) (fun _ h9 => h9) rfl dX11_fitsBy_25 ?_
  refine lv_icmp_ge (tgt := 68) hx hb dX11_fitsBy_28 (by decide) (fun hc => ?_) (fun hc => ?_)
  · have hf := kpos hc hf
    exact t_Mo_fitsBy_b68 C a_this a_forms a_sizes a_items a_moved a_bytes a_typed a_chances a_longs a_letters a_isThere a_pieceLongs a_pieceLetters a_song a_settings a_guess a_row a_least a_nights f_latest f_at f_guesses f_todo F f_names f_pieces f_songLong f_longs f_letters f_isThere f_pieceLongs f_pieceLetters f_song x1 r rec4 hr4 x2 x3 x4 hf hP _ (lv_sub hl [0, 1, 2, 3, 4] rfl)
  · have hf := kneg hc hf
    refine lv_iload hx hb dX11_fitsBy_31 (lv_at hl 4 rfl) ?_
    refine lv_if_eq (tgt := 59) hx hb dX11_fitsBy_33 (by decide) (fun hc => ?_) (fun hc => ?_)
    · have hf := kpos hc hf
      exact t_Mo_fitsBy_b59 C a_this a_forms a_sizes a_items a_moved a_bytes a_typed a_chances a_longs a_letters a_isThere a_pieceLongs a_pieceLetters a_song a_settings a_guess a_row a_least a_nights f_latest f_at f_guesses f_todo F f_names f_pieces f_songLong f_longs f_letters f_isThere f_pieceLongs f_pieceLetters f_song x1 r rec4 rec22 hr4 hr22 x2 x3 x5 hf hP _ (lv_sub hl [0, 1, 2, 3, 5] rfl)
    · have hf := kneg hc hf
      refine lv_iload_n hx hb dX11_fitsBy_36 rfl (lv_at hl 1 rfl) ?_
      refine lv_iload hx hb dX11_fitsBy_37 (lv_at hl 5 rfl) ?_
      obtain ⟨v39, hc39, hf⟩ := cb1_some hf
      refine kcRS (As := [.int x1, .int x5]) (rest := []) (st1 := [.int v39]) C (c_Mo_isIn l D ct x1 x5 v39 hc39) ⟨rfl, rfl⟩ yn_yX11_isIn tw_1169 tw_1168 ⟨Nat.le_of_ble_eq_true rfl, Nat.le_of_ble_eq_true rfl⟩ ⟨Nat.zero_le _, Nat.zero_le _⟩ hP [] rfl hl.1 rfl rfl (Nat.le_of_ble_eq_true rfl) dX11_fitsBy_39 rfl ?_
      refine lv_if_eq (tgt := 55) hx hb dX11_fitsBy_42 (by decide) (fun hc => ?_) (fun hc => ?_)
      · have hf := kpos hc hf
        exact t_Mo_fitsBy_b55 C a_this a_forms a_sizes a_items a_moved a_bytes a_typed a_chances a_longs a_letters a_isThere a_pieceLongs a_pieceLetters a_song a_settings a_guess a_row a_least a_nights f_latest f_at f_guesses f_todo F f_names f_pieces f_songLong f_longs f_letters f_isThere f_pieceLongs f_pieceLetters f_song x1 r rec4 rec22 hr4 hr22 x2 x3 x5 hf hP _ (lv_sub hl [0, 1, 2, 3, 5] rfl)
      · have hf := kneg hc hf
        refine lv_aload_n hx hb dX11_fitsBy_45 rfl (lv_at hl 0 rfl) ?_
        refine lv_iload_n hx hb dX11_fitsBy_46 rfl (lv_at hl 3 rfl) ?_
        refine lv_iload hx hb dX11_fitsBy_47 (lv_at hl 5 rfl) ?_
        obtain ⟨v49, hc49, hf⟩ := cb1_some hf
        refine kcRV (q0 := 0) (ci := 11) (As := [.int x3, .int x5]) (rest := []) (st1 := [.int v49]) C (c_Mo_isHeard l D ct a_this a_forms a_sizes a_items a_moved a_bytes a_typed a_chances a_longs a_letters a_isThere a_pieceLongs a_pieceLetters a_song a_settings a_guess a_row a_least a_nights f_latest f_at f_names f_pieces f_songLong f_guesses f_todo F f_longs f_letters f_isThere f_pieceLongs f_pieceLetters x3 x5 v49 hc49) ⟨rfl, rfl⟩ yn_yX11_isHeard tw_1173 tw_41 tw_1171 ⟨Nat.le_of_ble_eq_true rfl, Nat.le_of_ble_eq_true rfl⟩ ⟨Nat.zero_le _, Nat.zero_le _⟩ hP [0, 1, 2, 3, 4, 5] rfl rfl rfl rfl hl.1 rfl rfl (Nat.le_of_ble_eq_true rfl) dX11_fitsBy_49 rfl ?_
        refine lv_if_eq (tgt := 59) hx hb dX11_fitsBy_52 (by decide) (fun hc => ?_) (fun hc => ?_)
        · have hf := kpos hc hf
          exact t_Mo_fitsBy_b59 C a_this a_forms a_sizes a_items a_moved a_bytes a_typed a_chances a_longs a_letters a_isThere a_pieceLongs a_pieceLetters a_song a_settings a_guess a_row a_least a_nights f_latest f_at f_guesses f_todo F f_names f_pieces f_songLong f_longs f_letters f_isThere f_pieceLongs f_pieceLetters f_song x1 r rec4 rec22 hr4 hr22 x2 x3 x5 hf hP _ (lv_sub hl [0, 1, 2, 3, 5] rfl)
        · have hf := kneg hc hf
          exact t_Mo_fitsBy_b55 C a_this a_forms a_sizes a_items a_moved a_bytes a_typed a_chances a_longs a_letters a_isThere a_pieceLongs a_pieceLetters a_song a_settings a_guess a_row a_least a_nights f_latest f_at f_guesses f_todo F f_names f_pieces f_songLong f_longs f_letters f_isThere f_pieceLongs f_pieceLetters f_song x1 r rec4 rec22 hr4 hr22 x2 x3 x5 hf hP _ (lv_sub hl [0, 1, 2, 3, 5] rfl)
set_option maxHeartbeats 4000000 in
set_option maxRecDepth 100000 in
theorem t_Mo_fitsBy_l22 {p : Program} {l : Launch} {e : Env} {s : State} {m : MethodId} {args : Array Value} {below : List Frame} {meth : Method} {c : Code} {D : va_G} {ct : Nat → ClassId} (C : CX p s m args meth c RX11 cX11_fitsBy 6 (some .int) D ct) (a_this a_forms a_sizes a_items a_moved a_bytes a_typed a_chances a_longs a_letters a_isThere a_pieceLongs a_pieceLetters a_song a_settings a_guess a_row a_least a_nights : Nat) (f_latest : Int32) (f_at : Int32) (f_guesses : Int32) (f_todo : Int32) (F : Nat) (f_names : Int32) (f_pieces : Int32) (f_songLong : Int32) (f_longs : Nat → Int32) (f_letters : Nat → Int32) (f_isThere : Nat → Int32) (f_pieceLongs : Nat → Int32) (f_pieceLetters : Nat → Int32) (f_song : Nat → Int32) (x1 : Int32) (r : Int32) (rec4 : Int32 → Int32 → Option Int32) (hr4 : ∀ (x2 : Int32) (x3 : Int32), rec4 x2 x3 = some r → va_P D vwCl (w_Mo_fitsBy ct a_this a_forms a_sizes a_items a_moved a_bytes a_typed a_chances a_longs a_letters a_isThere a_pieceLongs a_pieceLetters a_song a_settings a_guess a_row a_least a_nights f_latest f_at f_names f_pieces f_songLong f_guesses f_todo f_longs f_letters f_isThere f_pieceLongs f_pieceLetters f_song) s.heap → ∀ ls : Array Slot, lv_has ls 6 [(0, .ref a_this), (1, .int x1), (2, .int x2), (3, .int x3)] → W p l e RM_Mo_fitsBy s m args below meth c s.heap [] 0 0 (MQ below (QR (some (.int r))) args s 0 0 (fun _ => False)) (F0 m 4 ls [])) : ∀ (n : Nat) (x2 : Int32) (x3 : Int32) (x4 : Int32) (x5 : Int32), Mo_fitsBy_l22 F f_names f_pieces f_songLong f_longs f_letters f_isThere f_pieceLongs f_pieceLetters f_song x1 rec4 n x2 x3 x4 x5 = some r → va_P D vwCl (w_Mo_fitsBy ct a_this a_forms a_sizes a_items a_moved a_bytes a_typed a_chances a_longs a_letters a_isThere a_pieceLongs a_pieceLetters a_song a_settings a_guess a_row a_least a_nights f_latest f_at f_names f_pieces f_songLong f_guesses f_todo f_longs f_letters f_isThere f_pieceLongs f_pieceLetters f_song) s.heap → ∀ ls : Array Slot, lv_has ls 6 [(0, .ref a_this), (1, .int x1), (2, .int x2), (3, .int x3), (4, .int x4), (5, .int x5)] → W p l e RM_Mo_fitsBy s m args below meth c s.heap [] 0 0 (MQ below (QR (some (.int r))) args s 0 0 (fun _ => False)) (F0 m 22 ls []) := by
  intro n
  induction n with
  | zero =>
    intro x2 x3 x4 x5 hf
    exact absurd hf (by simp [Mo_fitsBy_l22])
  | succ n ih =>
    intro x2 x3 x4 x5 hf
    exact t_Mo_fitsBy_b22 C a_this a_forms a_sizes a_items a_moved a_bytes a_typed a_chances a_longs a_letters a_isThere a_pieceLongs a_pieceLetters a_song a_settings a_guess a_row a_least a_nights f_latest f_at f_guesses f_todo F f_names f_pieces f_songLong f_longs f_letters f_isThere f_pieceLongs f_pieceLetters f_song x1 r rec4 (Mo_fitsBy_l22 F f_names f_pieces f_songLong f_longs f_letters f_isThere f_pieceLongs f_pieceLetters f_song x1 rec4 n) hr4 ih x2 x3 x4 x5 hf
set_option maxHeartbeats 4000000 in
set_option maxRecDepth 100000 in
theorem t_Mo_fitsBy_b4 {p : Program} {l : Launch} {e : Env} {s : State} {m : MethodId} {args : Array Value} {below : List Frame} {meth : Method} {c : Code} {D : va_G} {ct : Nat → ClassId} (C : CX p s m args meth c RX11 cX11_fitsBy 6 (some .int) D ct) (a_this a_forms a_sizes a_items a_moved a_bytes a_typed a_chances a_longs a_letters a_isThere a_pieceLongs a_pieceLetters a_song a_settings a_guess a_row a_least a_nights : Nat) (f_latest : Int32) (f_at : Int32) (f_guesses : Int32) (f_todo : Int32) (F : Nat) (f_names : Int32) (f_pieces : Int32) (f_songLong : Int32) (f_longs : Nat → Int32) (f_letters : Nat → Int32) (f_isThere : Nat → Int32) (f_pieceLongs : Nat → Int32) (f_pieceLetters : Nat → Int32) (f_song : Nat → Int32) (x1 : Int32) (r : Int32) (rec4 : Int32 → Int32 → Option Int32) (hr4 : ∀ (x2 : Int32) (x3 : Int32), rec4 x2 x3 = some r → va_P D vwCl (w_Mo_fitsBy ct a_this a_forms a_sizes a_items a_moved a_bytes a_typed a_chances a_longs a_letters a_isThere a_pieceLongs a_pieceLetters a_song a_settings a_guess a_row a_least a_nights f_latest f_at f_names f_pieces f_songLong f_guesses f_todo f_longs f_letters f_isThere f_pieceLongs f_pieceLetters f_song) s.heap → ∀ ls : Array Slot, lv_has ls 6 [(0, .ref a_this), (1, .int x1), (2, .int x2), (3, .int x3)] → W p l e RM_Mo_fitsBy s m args below meth c s.heap [] 0 0 (MQ below (QR (some (.int r))) args s 0 0 (fun _ => False)) (F0 m 4 ls [])) : ∀ (x2 : Int32) (x3 : Int32), Mo_fitsBy_b4 F f_names f_pieces f_songLong f_longs f_letters f_isThere f_pieceLongs f_pieceLetters f_song x1 rec4 x2 x3 = some r → va_P D vwCl (w_Mo_fitsBy ct a_this a_forms a_sizes a_items a_moved a_bytes a_typed a_chances a_longs a_letters a_isThere a_pieceLongs a_pieceLetters a_song a_settings a_guess a_row a_least a_nights f_latest f_at f_names f_pieces f_songLong f_guesses f_todo f_longs f_letters f_isThere f_pieceLongs f_pieceLetters f_song) s.heap → ∀ ls : Array Slot, lv_has ls 6 [(0, .ref a_this), (1, .int x1), (2, .int x2), (3, .int x3)] → W p l e RM_Mo_fitsBy s m args below meth c s.heap [] 0 0 (MQ below (QR (some (.int r))) args s 0 0 (fun _ => False)) (F0 m 4 ls []) := by
  obtain ⟨hx, hb, hr, hml, hown, hts, hlk, hK, hN⟩ := id C
  intro x2 x3 hf hP ls hl
  unfold Mo_fitsBy_b4 at hf
  refine lv_iload_n hx hb dX11_fitsBy_4 rfl (lv_at hl 3 rfl) ?_
  refine lv_aload_n hx hb dX11_fitsBy_5 rfl (lv_at hl 0 rfl) ?_
  refine va_get (ci := 11) (v := .int f_names) (C := RX11) (T := TX11) (N := 25) hx hb hts inX11 hown hK hP 0 rfl rfl 8 (by decide) (hts _ tw_953) (fun _ h9 => h9) rfl dX11_fitsBy_6 ?_
  refine lv_icmp_ge (tgt := 89) hx hb dX11_fitsBy_9 (by decide) (fun hc => ?_) (fun hc => ?_)
  · have hf := kpos hc hf
    refine lv_iload_n hx hb dX11_fitsBy_89 rfl (lv_at hl 2 rfl) ?_
    have e1 := Option.some.inj hf
    subst e1
    exact kretR C dX11_fitsBy_90
  · have hf := kneg hc hf
    refine lv_aload_n hx hb dX11_fitsBy_12 rfl (lv_at hl 0 rfl) ?_
    refine lv_iload_n hx hb dX11_fitsBy_13 rfl (lv_at hl 3 rfl) ?_
    obtain ⟨v14, hc14, hf⟩ := cb1_some hf
    refine kcRV (q0 := 0) (ci := 11) (As := [.int x3]) (rest := []) (st1 := [.int v14]) C (c_Mo_isSung l D ct a_this a_forms a_sizes a_items a_moved a_bytes a_typed a_chances a_longs a_letters a_isThere a_pieceLongs a_pieceLetters a_song a_settings a_guess a_row a_least a_nights f_latest f_at f_names f_pieces f_guesses f_todo F f_songLong f_longs f_letters f_song x3 v14 hc14) ⟨rfl, rfl⟩ yn_yX11_isSung tw_1166 tw_40 tw_1164 ⟨Nat.le_of_ble_eq_true rfl, Nat.le_of_ble_eq_true rfl⟩ ⟨Nat.zero_le _, Nat.zero_le _⟩ hP [0, 1, 2, 6] rfl rfl rfl rfl hl.1 rfl rfl (Nat.le_of_ble_eq_true rfl) dX11_fitsBy_14 rfl ?_
    refine lv_istore (lv' := [(4, .int v14), (0, .ref a_this), (1, .int x1), (2, .int x2), (3, .int x3)]) hx hb dX11_fitsBy_17 hl (by decide) rfl (fun ls hl => ?_)
    refine lv_iconst (v := 0) hx hb dX11_fitsBy_19 (by decide) ?_
    refine lv_istore (lv' := [(5, .int 0), (4, .int v14), (0, .ref a_this), (1, .int x1), (2, .int x2), (3, .int x3)]) hx hb dX11_fitsBy_20 hl (by decide) rfl (fun ls hl => ?_)
    exact t_Mo_fitsBy_l22 C a_this a_forms a_sizes a_items a_moved a_bytes a_typed a_chances a_longs a_letters a_isThere a_pieceLongs a_pieceLetters a_song a_settings a_guess a_row a_least a_nights f_latest f_at f_guesses f_todo F f_names f_pieces f_songLong f_longs f_letters f_isThere f_pieceLongs f_pieceLetters f_song x1 r rec4 hr4 F x2 x3 v14 0 hf hP _ (lv_sub hl [2, 3, 4, 5, 1, 0] rfl)
set_option maxHeartbeats 4000000 in
set_option maxRecDepth 100000 in
theorem t_Mo_fitsBy_l4 {p : Program} {l : Launch} {e : Env} {s : State} {m : MethodId} {args : Array Value} {below : List Frame} {meth : Method} {c : Code} {D : va_G} {ct : Nat → ClassId} (C : CX p s m args meth c RX11 cX11_fitsBy 6 (some .int) D ct) (a_this a_forms a_sizes a_items a_moved a_bytes a_typed a_chances a_longs a_letters a_isThere a_pieceLongs a_pieceLetters a_song a_settings a_guess a_row a_least a_nights : Nat) (f_latest : Int32) (f_at : Int32) (f_guesses : Int32) (f_todo : Int32) (F : Nat) (f_names : Int32) (f_pieces : Int32) (f_songLong : Int32) (f_longs : Nat → Int32) (f_letters : Nat → Int32) (f_isThere : Nat → Int32) (f_pieceLongs : Nat → Int32) (f_pieceLetters : Nat → Int32) (f_song : Nat → Int32) (x1 : Int32) (r : Int32) : ∀ (n : Nat) (x2 : Int32) (x3 : Int32), Mo_fitsBy_l4 F f_names f_pieces f_songLong f_longs f_letters f_isThere f_pieceLongs f_pieceLetters f_song x1 n x2 x3 = some r → va_P D vwCl (w_Mo_fitsBy ct a_this a_forms a_sizes a_items a_moved a_bytes a_typed a_chances a_longs a_letters a_isThere a_pieceLongs a_pieceLetters a_song a_settings a_guess a_row a_least a_nights f_latest f_at f_names f_pieces f_songLong f_guesses f_todo f_longs f_letters f_isThere f_pieceLongs f_pieceLetters f_song) s.heap → ∀ ls : Array Slot, lv_has ls 6 [(0, .ref a_this), (1, .int x1), (2, .int x2), (3, .int x3)] → W p l e RM_Mo_fitsBy s m args below meth c s.heap [] 0 0 (MQ below (QR (some (.int r))) args s 0 0 (fun _ => False)) (F0 m 4 ls []) := by
  intro n
  induction n with
  | zero =>
    intro x2 x3 hf
    exact absurd hf (by simp [Mo_fitsBy_l4])
  | succ n ih =>
    intro x2 x3 hf
    exact t_Mo_fitsBy_b4 C a_this a_forms a_sizes a_items a_moved a_bytes a_typed a_chances a_longs a_letters a_isThere a_pieceLongs a_pieceLetters a_song a_settings a_guess a_row a_least a_nights f_latest f_at f_guesses f_todo F f_names f_pieces f_songLong f_longs f_letters f_isThere f_pieceLongs f_pieceLetters f_song x1 r (Mo_fitsBy_l4 F f_names f_pieces f_songLong f_longs f_letters f_isThere f_pieceLongs f_pieceLetters f_song x1 n) ih x2 x3 hf
set_option maxHeartbeats 4000000 in
set_option maxRecDepth 100000 in
theorem c_Mo_fitsBy (l : Launch) (D : va_G) (ct : Nat → ClassId) (a_this a_forms a_sizes a_items a_moved a_bytes a_typed a_chances a_longs a_letters a_isThere a_pieceLongs a_pieceLetters a_song a_settings a_guess a_row a_least a_nights : Nat) (f_latest : Int32) (f_at : Int32) (f_guesses : Int32) (f_todo : Int32) (F : Nat) (f_names : Int32) (f_pieces : Int32) (f_songLong : Int32) (f_longs : Nat → Int32) (f_letters : Nat → Int32) (f_isThere : Nat → Int32) (f_pieceLongs : Nat → Int32) (f_pieceLetters : Nat → Int32) (f_song : Nat → Int32) (x1 : Int32) (r : Int32) (hf : Mo_fitsBy F f_names f_pieces f_songLong f_longs f_letters f_isThere f_pieceLongs f_pieceLetters f_song x1 = some r) : Met l yX11_fitsBy (WS yX11_fitsBy cX11_fitsBy 6 (some .int)) RM_Mo_fitsBy (va_Pc [.ref a_this, .int x1] (PR D ct (w_Mo_fitsBy ct a_this a_forms a_sizes a_items a_moved a_bytes a_typed a_chances a_longs a_letters a_isThere a_pieceLongs a_pieceLetters a_song a_settings a_guess a_row a_least a_nights f_latest f_at f_names f_pieces f_songLong f_guesses f_todo f_longs f_letters f_isThere f_pieceLongs f_pieceLetters f_song))) (QR (some (.int r))) 0 0 (fun _ => False) := by
  refine kMetR yn_yX11_fitsBy rfl (Nat.le_of_ble_eq_true rfl) ?_
  intro p e s m args below meth c C hP ls hl
  have hl : lv_has ls 6 [(0, .ref a_this), (1, .int x1)] := hl
  obtain ⟨hx, hb, hr, hml, hown, hts, hlk, hK, hN⟩ := id C
  unfold Mo_fitsBy at hf
  refine lv_iconst (v := 0) hx hb dX11_fitsBy_0 (by decide) ?_
  refine lv_istore_n (lv' := [(2, .int 0), (0, .ref a_this), (1, .int x1)]) hx hb dX11_fitsBy_1 rfl hl (by decide) rfl (fun ls hl => ?_)
  refine lv_iconst (v := 0) hx hb dX11_fitsBy_2 (by decide) ?_
  refine lv_istore_n (lv' := [(3, .int 0), (2, .int 0), (0, .ref a_this), (1, .int x1)]) hx hb dX11_fitsBy_3 rfl hl (by decide) rfl (fun ls hl => ?_)
  exact t_Mo_fitsBy_l4 C a_this a_forms a_sizes a_items a_moved a_bytes a_typed a_chances a_longs a_letters a_isThere a_pieceLongs a_pieceLetters a_song a_settings a_guess a_row a_least a_nights f_latest f_at f_guesses f_todo F f_names f_pieces f_songLong f_longs f_letters f_isThere f_pieceLongs f_pieceLetters f_song x1 r F 0 0 hf hP _ (lv_sub hl [2, 3, 1, 0] rfl)
def RM_Mo_fitsNow : Room := { frames := 2, cells := 0, slots := 0, locals := 51 }
set_option maxHeartbeats 4000000 in
set_option maxRecDepth 100000 in
theorem c_Mo_fitsNow (l : Launch) (D : va_G) (ct : Nat → ClassId) (a_this a_forms a_sizes a_items a_moved a_bytes a_typed a_chances a_longs a_letters a_isThere a_pieceLongs a_pieceLetters a_song a_settings a_guess a_row a_least a_nights : Nat) (f_latest : Int32) (f_at : Int32) (f_guesses : Int32) (f_todo : Int32) (F : Nat) (f_names : Int32) (f_pieces : Int32) (f_songLong : Int32) (f_longs : Nat → Int32) (f_letters : Nat → Int32) (f_isThere : Nat → Int32) (f_pieceLongs : Nat → Int32) (f_pieceLetters : Nat → Int32) (f_song : Nat → Int32) (r : Int32) (hf : Mo_fitsNow F f_names f_pieces f_songLong f_longs f_letters f_isThere f_pieceLongs f_pieceLetters f_song = some r) : Met l yX11_fitsNow (WS yX11_fitsNow cX11_fitsNow 1 (some .int)) RM_Mo_fitsNow (va_Pc [.ref a_this] (PR D ct (w_Mo_fitsNow ct a_this a_forms a_sizes a_items a_moved a_bytes a_typed a_chances a_longs a_letters a_isThere a_pieceLongs a_pieceLetters a_song a_settings a_guess a_row a_least a_nights f_latest f_at f_names f_pieces f_songLong f_guesses f_todo f_longs f_letters f_isThere f_pieceLongs f_pieceLetters f_song))) (QR (some (.int r))) 0 0 (fun _ => False) := by
  refine kMetR yn_yX11_fitsNow rfl (Nat.le_of_ble_eq_true rfl) ?_
  intro p e s m args below meth c C hP ls hl
  have hl : lv_has ls 1 [(0, .ref a_this)] := hl
  obtain ⟨hx, hb, hr, hml, hown, hts, hlk, hK, hN⟩ := id C
  unfold Mo_fitsNow at hf
  refine lv_aload_n hx hb dX11_fitsNow_0 rfl (lv_at hl 0 rfl) ?_
  refine lv_bipush (v := 63) hx hb dX11_fitsNow_1 (by decide) ?_
  obtain ⟨v3, hc3, hf⟩ := cb1_some hf
  refine kcRV (q0 := 0) (ci := 11) (As := [.int 63]) (rest := []) (st1 := [.int v3]) C (c_Mo_fitsBy l D ct a_this a_forms a_sizes a_items a_moved a_bytes a_typed a_chances a_longs a_letters a_isThere a_pieceLongs a_pieceLetters a_song a_settings a_guess a_row a_least a_nights f_latest f_at f_guesses f_todo F f_names f_pieces f_songLong f_longs f_letters f_isThere f_pieceLongs f_pieceLetters f_song 63 v3 hc3) ⟨rfl, rfl⟩ yn_yX11_fitsBy tw_1162 tw_39 tw_1160 ⟨Nat.le_of_ble_eq_true rfl, Nat.le_of_ble_eq_true rfl⟩ ⟨Nat.zero_le _, Nat.zero_le _⟩ hP [0, 1, 2, 3, 4, 5, 6] rfl rfl rfl rfl hl.1 rfl rfl (Nat.le_of_ble_eq_true rfl) dX11_fitsNow_3 rfl ?_
  have e1 := Option.some.inj hf
  subst e1
  exact kretR C dX11_fitsNow_6
def RM_Mo_fits : Room := { frames := 5, cells := 0, slots := 0, locals := 111 }
set_option maxHeartbeats 4000000 in
set_option maxRecDepth 100000 in
theorem c_Mo_fits (l : Launch) (D : va_G) (ct : Nat → ClassId) (a_this a_forms a_sizes a_items a_moved a_bytes a_typed a_chances a_longs a_letters a_isThere a_pieceLongs a_pieceLetters a_song a_settings a_guess a_row a_least a_nights : Nat) (f_latest : Int32) (f_guesses : Int32) (f_todo : Int32) (F : Nat) (f_bytes : Nat → Int32) (f_typed : Nat → Int32) (f_at : Int32) (f_names : Int32) (f_pieces : Int32) (f_songLong : Int32) (f_chances : Nat → Int32) (f_longs : Nat → Int32) (f_letters : Nat → Int32) (f_isThere : Nat → Int32) (f_pieceLongs : Nat → Int32) (f_pieceLetters : Nat → Int32) (f_song : Nat → Int32) (r : Int32) (r_at : Int32) (r_names : Int32) (r_pieces : Int32) (r_songLong : Int32) (r_chances : Nat → Int32) (r_longs : Nat → Int32) (r_letters : Nat → Int32) (r_isThere : Nat → Int32) (r_pieceLongs : Nat → Int32) (r_pieceLetters : Nat → Int32) (r_song : Nat → Int32) (sz : Nat) (hf : Mo_fits F f_bytes f_typed f_at f_names f_pieces f_songLong f_chances f_longs f_letters f_isThere f_pieceLongs f_pieceLetters f_song = some (r, r_at, r_names, r_pieces, r_songLong, r_chances, r_longs, r_letters, r_isThere, r_pieceLongs, r_pieceLetters, r_song)) : Met l yX11_fits (WS yX11_fits cX11_fits 1 (some .int)) RM_Mo_fits (va_Pc [.ref a_this] (PM D ct sz (w_Mo_fits ct a_this a_forms a_sizes a_items a_moved a_bytes a_typed a_chances a_longs a_letters a_isThere a_pieceLongs a_pieceLetters a_song a_settings a_guess a_row a_least a_nights f_latest f_at f_names f_pieces f_songLong f_guesses f_todo f_bytes f_typed f_chances f_longs f_letters f_isThere f_pieceLongs f_pieceLetters f_song))) (QM D (some (.int r)) (w_Mo_fits ct a_this a_forms a_sizes a_items a_moved a_bytes a_typed a_chances a_longs a_letters a_isThere a_pieceLongs a_pieceLetters a_song a_settings a_guess a_row a_least a_nights f_latest r_at r_names r_pieces r_songLong f_guesses f_todo f_bytes f_typed r_chances r_longs r_letters r_isThere r_pieceLongs r_pieceLetters r_song) (va_A (w_Mo_fits ct a_this a_forms a_sizes a_items a_moved a_bytes a_typed a_chances a_longs a_letters a_isThere a_pieceLongs a_pieceLetters a_song a_settings a_guess a_row a_least a_nights f_latest f_at f_names f_pieces f_songLong f_guesses f_todo f_bytes f_typed f_chances f_longs f_letters f_isThere f_pieceLongs f_pieceLetters f_song) sz)) 0 0 (va_A (w_Mo_fits ct a_this a_forms a_sizes a_items a_moved a_bytes a_typed a_chances a_longs a_letters a_isThere a_pieceLongs a_pieceLetters a_song a_settings a_guess a_row a_least a_nights f_latest f_at f_names f_pieces f_songLong f_guesses f_todo f_bytes f_typed f_chances f_longs f_letters f_isThere f_pieceLongs f_pieceLetters f_song) sz) := by
  refine kMetM yn_yX11_fits rfl (Nat.le_of_ble_eq_true rfl) ?_
  intro p e s m args below meth c A C hA hP hD ls hl
  have hl : lv_has ls 1 [(0, .ref a_this)] := hl
  have hS : va_S A s.heap s.heap [] := va_S.rf
  obtain ⟨hx, hb, hr, hml, hown, hts, hlk, hK, hN⟩ := id C
  unfold Mo_fits at hf
  refine lv_aload_n hx hb dX11_fits_0 rfl (lv_at hl 0 rfl) ?_
  obtain ⟨f_at_1, f_names_1, f_pieces_1, f_songLong_1, f_chances_1, f_longs_1, f_letters_1, f_isThere_1, f_pieceLongs_1, f_pieceLetters_1, f_song_1, hc1, hf⟩ := cb11_some hf
  refine kcMV (q0 := 0) (ci := 11) (As := []) (rest := []) (st1 := []) (wf := (w_Mo_fits ct a_this a_forms a_sizes a_items a_moved a_bytes a_typed a_chances a_longs a_letters a_isThere a_pieceLongs a_pieceLetters a_song a_settings a_guess a_row a_least a_nights f_latest f_at_1 f_names_1 f_pieces_1 f_songLong_1 f_guesses f_todo f_bytes f_typed f_chances_1 f_longs_1 f_letters_1 f_isThere_1 f_pieceLongs_1 f_pieceLetters_1 f_song_1)) C (c_Mo_reads l D ct a_this a_forms a_sizes a_items a_moved a_bytes a_typed a_chances a_longs a_letters a_isThere a_pieceLongs a_pieceLetters a_song a_settings a_guess a_row a_least a_nights f_latest f_guesses f_todo F f_bytes f_typed f_at f_names f_pieces f_songLong f_chances f_longs f_letters f_isThere f_pieceLongs f_pieceLetters f_song f_at_1 f_names_1 f_pieces_1 f_songLong_1 f_chances_1 f_longs_1 f_letters_1 f_isThere_1 f_pieceLongs_1 f_pieceLetters_1 f_song_1 _ hc1) ⟨rfl, rfl⟩ yn_yX11_reads tw_1121 tw_35 tw_1119 ⟨Nat.le_of_ble_eq_true rfl, Nat.le_of_ble_eq_true rfl⟩ ⟨Nat.zero_le _, Nat.zero_le _⟩ hP hD hS hA [0, 1, 2, 3, 4, 5, 6, 7, 8, 9] [] [0, 1, 2, 3, 4, 5, 6, 7, 8, 9] rfl rfl rfl rfl rfl (by decide) rfl rfl rfl rfl rfl rfl hl.1 rfl rfl (Nat.le_of_ble_eq_true rfl) dX11_fits_1 rfl (fun H locs hP hD hS => ?_)
  refine lv_aload_n hx hb dX11_fits_4 rfl (lv_at hl 0 rfl) ?_
  obtain ⟨v5, hc5, hf⟩ := cb1_some hf
  refine kcRV (q0 := 0) (ci := 11) (As := []) (rest := []) (st1 := [.int v5]) C (c_Mo_fitsNow l D ct a_this a_forms a_sizes a_items a_moved a_bytes a_typed a_chances a_longs a_letters a_isThere a_pieceLongs a_pieceLetters a_song a_settings a_guess a_row a_least a_nights f_latest f_at_1 f_guesses f_todo F f_names_1 f_pieces_1 f_songLong_1 f_longs_1 f_letters_1 f_isThere_1 f_pieceLongs_1 f_pieceLetters_1 f_song_1 v5 hc5) ⟨rfl, rfl⟩ yn_yX11_fitsNow tw_1158 tw_38 tw_1156 ⟨Nat.le_of_ble_eq_true rfl, Nat.le_of_ble_eq_true rfl⟩ ⟨Nat.zero_le _, Nat.zero_le _⟩ hP [0, 4, 5, 6, 7, 8, 9] rfl rfl rfl rfl hl.1 rfl rfl (Nat.le_of_ble_eq_true rfl) dX11_fits_5 rfl ?_
  obtain ⟨e1, e2, e3, e4, e5, e6, e7, e8, e9, e10, e11, e12⟩ := ti12 hf
  subst e1; subst e2; subst e3; subst e4; subst e5; subst e6; subst e7; subst e8; subst e9; subst e10; subst e11; subst e12
  exact kretM C hP hD hS dX11_fits_8
def RM_Mo_weight : Room := { frames := 1, cells := 0, slots := 0, locals := 21 }
set_option maxHeartbeats 4000000 in
set_option maxRecDepth 100000 in
theorem t_Mo_weight_b31 {p : Program} {l : Launch} {e : Env} {s : State} {m : MethodId} {args : Array Value} {below : List Frame} {meth : Method} {c : Code} {D : va_G} {ct : Nat → ClassId} (C : CX p s m args meth c RX11 cX11_weight 4 (some .int) D ct) (a_this a_forms a_sizes a_items a_moved a_bytes a_typed a_chances a_longs a_letters a_isThere a_pieceLongs a_pieceLetters a_song a_settings a_guess a_row a_least a_nights : Nat) (f_latest : Int32) (f_at : Int32) (f_pieces : Int32) (f_songLong : Int32) (f_guesses : Int32) (f_todo : Int32) (F : Nat) (f_names : Int32) (f_chances : Nat → Int32) (x1 : Int32) (r : Int32) (rec4 : Int32 → Int32 → Option Int32) (hr4 : ∀ (x2 : Int32) (x3 : Int32), rec4 x2 x3 = some r → va_P D vwCl (w_Mo_weight ct a_this a_forms a_sizes a_items a_moved a_bytes a_typed a_chances a_longs a_letters a_isThere a_pieceLongs a_pieceLetters a_song a_settings a_guess a_row a_least a_nights f_latest f_at f_names f_pieces f_songLong f_guesses f_todo f_chances) s.heap → ∀ ls : Array Slot, lv_has ls 4 [(0, .ref a_this), (1, .int x1), (2, .int x2), (3, .int x3)] → W p l e RM_Mo_weight s m args below meth c s.heap [] 0 0 (MQ below (QR (some (.int r))) args s 0 0 (fun _ => False)) (F0 m 4 ls [])) : ∀ (x3 : Int32) (k0 : Int32) (k1 : Int32), Mo_weight_b31 F f_names f_chances x1 rec4 x3 k0 k1 = some r → va_P D vwCl (w_Mo_weight ct a_this a_forms a_sizes a_items a_moved a_bytes a_typed a_chances a_longs a_letters a_isThere a_pieceLongs a_pieceLetters a_song a_settings a_guess a_row a_least a_nights f_latest f_at f_names f_pieces f_songLong f_guesses f_todo f_chances) s.heap → ∀ ls : Array Slot, lv_has ls 4 [(0, .ref a_this), (1, .int x1), (3, .int x3)] → W p l e RM_Mo_weight s m args below meth c s.heap [] 0 0 (MQ below (QR (some (.int r))) args s 0 0 (fun _ => False)) (F0 m 31 ls [.int k1, .int k0]) := by
  obtain ⟨hx, hb, hr, hml, hown, hts, hlk, hK, hN⟩ := id C
  intro x3 k0 k1 hf hP ls hl
  unfold Mo_weight_b31 at hf
  refine lv_iadd hx hb dX11_weight_31 ?_
  refine lv_istore_n (lv' := [(2, .int (k0 + k1)), (0, .ref a_this), (1, .int x1), (3, .int x3)]) hx hb dX11_weight_32 rfl hl (by decide) rfl (fun ls hl => ?_)
  refine lv_iinc (v := x3 + 1) (lv' := [(3, .int (x3 + 1)), (2, .int (k0 + k1)), (0, .ref a_this), (1, .int x1)]) hx hb dX11_weight_33 hl (k := 3) rfl rfl (by decide) rfl (fun ls hl => ?_)
  refine lv_goto (tgt := 4) hx hb dX11_weight_36 (by decide) ?_
  exact hr4 (k0 + k1) (x3 + 1) hf hP _ (lv_sub hl [2, 3, 1, 0] rfl)
set_option maxHeartbeats 4000000 in
set_option maxRecDepth 100000 in
theorem t_Mo_weight_b4 {p : Program} {l : Launch} {e : Env} {s : State} {m : MethodId} {args : Array Value} {below : List Frame} {meth : Method} {c : Code} {D : va_G} {ct : Nat → ClassId} (C : CX p s m args meth c RX11 cX11_weight 4 (some .int) D ct) (a_this a_forms a_sizes a_items a_moved a_bytes a_typed a_chances a_longs a_letters a_isThere a_pieceLongs a_pieceLetters a_song a_settings a_guess a_row a_least a_nights : Nat) (f_latest : Int32) (f_at : Int32) (f_pieces : Int32) (f_songLong : Int32) (f_guesses : Int32) (f_todo : Int32) (F : Nat) (f_names : Int32) (f_chances : Nat → Int32) (x1 : Int32) (r : Int32) (rec4 : Int32 → Int32 → Option Int32) (hr4 : ∀ (x2 : Int32) (x3 : Int32), rec4 x2 x3 = some r → va_P D vwCl (w_Mo_weight ct a_this a_forms a_sizes a_items a_moved a_bytes a_typed a_chances a_longs a_letters a_isThere a_pieceLongs a_pieceLetters a_song a_settings a_guess a_row a_least a_nights f_latest f_at f_names f_pieces f_songLong f_guesses f_todo f_chances) s.heap → ∀ ls : Array Slot, lv_has ls 4 [(0, .ref a_this), (1, .int x1), (2, .int x2), (3, .int x3)] → W p l e RM_Mo_weight s m args below meth c s.heap [] 0 0 (MQ below (QR (some (.int r))) args s 0 0 (fun _ => False)) (F0 m 4 ls [])) : ∀ (x2 : Int32) (x3 : Int32), Mo_weight_b4 F f_names f_chances x1 rec4 x2 x3 = some r → va_P D vwCl (w_Mo_weight ct a_this a_forms a_sizes a_items a_moved a_bytes a_typed a_chances a_longs a_letters a_isThere a_pieceLongs a_pieceLetters a_song a_settings a_guess a_row a_least a_nights f_latest f_at f_names f_pieces f_songLong f_guesses f_todo f_chances) s.heap → ∀ ls : Array Slot, lv_has ls 4 [(0, .ref a_this), (1, .int x1), (2, .int x2), (3, .int x3)] → W p l e RM_Mo_weight s m args below meth c s.heap [] 0 0 (MQ below (QR (some (.int r))) args s 0 0 (fun _ => False)) (F0 m 4 ls []) := by
  obtain ⟨hx, hb, hr, hml, hown, hts, hlk, hK, hN⟩ := id C
  intro x2 x3 hf hP ls hl
  unfold Mo_weight_b4 at hf
  refine lv_iload_n hx hb dX11_weight_4 rfl (lv_at hl 3 rfl) ?_
  refine lv_aload_n hx hb dX11_weight_5 rfl (lv_at hl 0 rfl) ?_
  refine va_get (ci := 11) (v := .int f_names) (C := RX11) (T := TX11) (N := 25) hx hb hts inX11 hown hK hP 0 rfl rfl 8 (by decide) (hts _ tw_953) (fun _ h9 => h9) rfl dX11_weight_6 ?_
  refine lv_icmp_ge (tgt := 39) hx hb dX11_weight_9 (by decide) (fun hc => ?_) (fun hc => ?_)
  · have hf := kpos hc hf
    refine lv_iload_n hx hb dX11_weight_39 rfl (lv_at hl 2 rfl) ?_
    have e1 := Option.some.inj hf
    subst e1
    exact kretR C dX11_weight_40
  · have hf := kneg hc hf
    refine lv_iload_n hx hb dX11_weight_12 rfl (lv_at hl 2 rfl) ?_
    refine lv_iload_n hx hb dX11_weight_13 rfl (lv_at hl 1 rfl) ?_
    refine lv_iload_n hx hb dX11_weight_14 rfl (lv_at hl 3 rfl) ?_
    obtain ⟨v15, hc15, hf⟩ := cb1_some hf
    refine kcRS (As := [.int x1, .int x3]) (rest := [.int x2]) (st1 := [.int v15, .int x2]) C (c_Mo_isIn l D ct x1 x3 v15 hc15) ⟨rfl, rfl⟩ yn_yX11_isIn tw_1169 tw_1168 ⟨Nat.le_of_ble_eq_true rfl, Nat.le_of_ble_eq_true rfl⟩ ⟨Nat.zero_le _, Nat.zero_le _⟩ hP [] rfl hl.1 rfl rfl (Nat.le_of_ble_eq_true rfl) dX11_weight_15 rfl ?_
    refine lv_if_eq (tgt := 30) hx hb dX11_weight_18 (by decide) (fun hc => ?_) (fun hc => ?_)
    · have hf := kpos hc hf
      refine lv_iconst (v := 0) hx hb dX11_weight_30 (by decide) ?_
      exact t_Mo_weight_b31 C a_this a_forms a_sizes a_items a_moved a_bytes a_typed a_chances a_longs a_letters a_isThere a_pieceLongs a_pieceLetters a_song a_settings a_guess a_row a_least a_nights f_latest f_at f_pieces f_songLong f_guesses f_todo F f_names f_chances x1 r rec4 hr4 x3 x2 0 hf hP _ (lv_sub hl [0, 1, 3] rfl)
    · have hf := kneg hc hf
      refine lv_aload_n hx hb dX11_weight_21 rfl (lv_at hl 0 rfl) ?_
      refine va_get (ci := 11) (v := .ref a_chances) (C := RX11) (T := TX11) (N := 25) hx hb hts inX11 hown hK hP 0 rfl rfl 9 (by decide) (hts _ tw_954) (fun _ h9 => h9) rfl dX11_weight_22 ?_
      refine lv_iload_n hx hb dX11_weight_25 rfl (lv_at hl 3 rfl) ?_
      obtain ⟨hin, hf⟩ := rd_some hf
      generalize ev26 : f_chances (Int32.toNatClampNeg x3) = v26 at hf
      refine kiald hx hb hK hP 1 0 rfl rfl hin ev26 dX11_weight_26 ?_
      refine lv_goto (tgt := 31) hx hb dX11_weight_27 (by decide) ?_
      exact t_Mo_weight_b31 C a_this a_forms a_sizes a_items a_moved a_bytes a_typed a_chances a_longs a_letters a_isThere a_pieceLongs a_pieceLetters a_song a_settings a_guess a_row a_least a_nights f_latest f_at f_pieces f_songLong f_guesses f_todo F f_names f_chances x1 r rec4 hr4 x3 x2 v26 hf hP _ (lv_sub hl [0, 1, 3] rfl)
set_option maxHeartbeats 4000000 in
set_option maxRecDepth 100000 in
theorem t_Mo_weight_l4 {p : Program} {l : Launch} {e : Env} {s : State} {m : MethodId} {args : Array Value} {below : List Frame} {meth : Method} {c : Code} {D : va_G} {ct : Nat → ClassId} (C : CX p s m args meth c RX11 cX11_weight 4 (some .int) D ct) (a_this a_forms a_sizes a_items a_moved a_bytes a_typed a_chances a_longs a_letters a_isThere a_pieceLongs a_pieceLetters a_song a_settings a_guess a_row a_least a_nights : Nat) (f_latest : Int32) (f_at : Int32) (f_pieces : Int32) (f_songLong : Int32) (f_guesses : Int32) (f_todo : Int32) (F : Nat) (f_names : Int32) (f_chances : Nat → Int32) (x1 : Int32) (r : Int32) : ∀ (n : Nat) (x2 : Int32) (x3 : Int32), Mo_weight_l4 F f_names f_chances x1 n x2 x3 = some r → va_P D vwCl (w_Mo_weight ct a_this a_forms a_sizes a_items a_moved a_bytes a_typed a_chances a_longs a_letters a_isThere a_pieceLongs a_pieceLetters a_song a_settings a_guess a_row a_least a_nights f_latest f_at f_names f_pieces f_songLong f_guesses f_todo f_chances) s.heap → ∀ ls : Array Slot, lv_has ls 4 [(0, .ref a_this), (1, .int x1), (2, .int x2), (3, .int x3)] → W p l e RM_Mo_weight s m args below meth c s.heap [] 0 0 (MQ below (QR (some (.int r))) args s 0 0 (fun _ => False)) (F0 m 4 ls []) := by
  intro n
  induction n with
  | zero =>
    intro x2 x3 hf
    exact absurd hf (by simp [Mo_weight_l4])
  | succ n ih =>
    intro x2 x3 hf
    exact t_Mo_weight_b4 C a_this a_forms a_sizes a_items a_moved a_bytes a_typed a_chances a_longs a_letters a_isThere a_pieceLongs a_pieceLetters a_song a_settings a_guess a_row a_least a_nights f_latest f_at f_pieces f_songLong f_guesses f_todo F f_names f_chances x1 r (Mo_weight_l4 F f_names f_chances x1 n) ih x2 x3 hf
set_option maxHeartbeats 4000000 in
set_option maxRecDepth 100000 in
theorem c_Mo_weight (l : Launch) (D : va_G) (ct : Nat → ClassId) (a_this a_forms a_sizes a_items a_moved a_bytes a_typed a_chances a_longs a_letters a_isThere a_pieceLongs a_pieceLetters a_song a_settings a_guess a_row a_least a_nights : Nat) (f_latest : Int32) (f_at : Int32) (f_pieces : Int32) (f_songLong : Int32) (f_guesses : Int32) (f_todo : Int32) (F : Nat) (f_names : Int32) (f_chances : Nat → Int32) (x1 : Int32) (r : Int32) (hf : Mo_weight F f_names f_chances x1 = some r) : Met l yX11_weight (WS yX11_weight cX11_weight 4 (some .int)) RM_Mo_weight (va_Pc [.ref a_this, .int x1] (PR D ct (w_Mo_weight ct a_this a_forms a_sizes a_items a_moved a_bytes a_typed a_chances a_longs a_letters a_isThere a_pieceLongs a_pieceLetters a_song a_settings a_guess a_row a_least a_nights f_latest f_at f_names f_pieces f_songLong f_guesses f_todo f_chances))) (QR (some (.int r))) 0 0 (fun _ => False) := by
  refine kMetR yn_yX11_weight rfl (Nat.le_of_ble_eq_true rfl) ?_
  intro p e s m args below meth c C hP ls hl
  have hl : lv_has ls 4 [(0, .ref a_this), (1, .int x1)] := hl
  obtain ⟨hx, hb, hr, hml, hown, hts, hlk, hK, hN⟩ := id C
  unfold Mo_weight at hf
  refine lv_iconst (v := 0) hx hb dX11_weight_0 (by decide) ?_
  refine lv_istore_n (lv' := [(2, .int 0), (0, .ref a_this), (1, .int x1)]) hx hb dX11_weight_1 rfl hl (by decide) rfl (fun ls hl => ?_)
  refine lv_iconst (v := 0) hx hb dX11_weight_2 (by decide) ?_
  refine lv_istore_n (lv' := [(3, .int 0), (2, .int 0), (0, .ref a_this), (1, .int x1)]) hx hb dX11_weight_3 rfl hl (by decide) rfl (fun ls hl => ?_)
  exact t_Mo_weight_l4 C a_this a_forms a_sizes a_items a_moved a_bytes a_typed a_chances a_longs a_letters a_isThere a_pieceLongs a_pieceLetters a_song a_settings a_guess a_row a_least a_nights f_latest f_at f_pieces f_songLong f_guesses f_todo F f_names f_chances x1 r F 0 0 hf hP _ (lv_sub hl [2, 3, 1, 0] rfl)
def RM_Mo_part : Room := { frames := 0, cells := 0, slots := 0, locals := 0 }
set_option maxHeartbeats 4000000 in
set_option maxRecDepth 100000 in
theorem t_Mo_part_b41 {p : Program} {l : Launch} {e : Env} {s : State} {m : MethodId} {args : Array Value} {below : List Frame} {meth : Method} {c : Code} {D : va_G} {ct : Nat → ClassId} (C : CX p s m args meth c RX11 cX11_part 11 (some .long) D ct) (F : Nat) (x0 : Int64) (x2 : Int64) (x4 : Int32) (r : Int64) : ∀ (x5 : Int64) (k0 : Int64), Mo_part_b41 F x0 x2 x4 x5 k0 = some r → va_P D vwCl (w_Mo_part ct) s.heap → ∀ ls : Array Slot, lv_has ls 11 [(5, .long x5)] → W p l e RM_Mo_part s m args below meth c s.heap [] 0 0 (MQ below (QR (some (.long r))) args s 0 0 (fun _ => False)) (F0 m 41 ls [.long k0]) := by
  obtain ⟨hx, hb, hr, hml, hown, hts, hlk, hK, hN⟩ := id C
  intro x5 k0 hf hP ls hl
  unfold Mo_part_b41 at hf
  refine lv_lload hx hb dX11_part_41 (lv_at hl 0 rfl) ?_
  obtain ⟨hne, hf⟩ := gd_some hf
  refine lv_ldiv hx hb dX11_part_43 hne ?_
  have e1 := Option.some.inj hf
  subst e1
  exact kretRl C dX11_part_44
set_option maxHeartbeats 4000000 in
set_option maxRecDepth 100000 in
theorem t_Mo_part_b31 {p : Program} {l : Launch} {e : Env} {s : State} {m : MethodId} {args : Array Value} {below : List Frame} {meth : Method} {c : Code} {D : va_G} {ct : Nat → ClassId} (C : CX p s m args meth c RX11 cX11_part 11 (some .long) D ct) (F : Nat) (x0 : Int64) (x2 : Int64) (x4 : Int32) (r : Int64) : ∀ (x5 : Int64), Mo_part_b31 F x0 x2 x4 x5 = some r → va_P D vwCl (w_Mo_part ct) s.heap → ∀ ls : Array Slot, lv_has ls 11 [(0, .long x0), (2, .long x2), (4, .int x4), (5, .long x5)] → W p l e RM_Mo_part s m args below meth c s.heap [] 0 0 (MQ below (QR (some (.long r))) args s 0 0 (fun _ => False)) (F0 m 31 ls []) := by
  obtain ⟨hx, hb, hr, hml, hown, hts, hlk, hK, hN⟩ := id C
  intro x5 hf hP ls hl
  unfold Mo_part_b31 at hf
  refine lv_iload hx hb dX11_part_31 (lv_at hl 2 rfl) ?_
  refine lv_if_ne (tgt := 40) hx hb dX11_part_33 (by decide) (fun hc => ?_) (fun hc => ?_)
  · have hf := kneg hc hf
    refine lv_lload_n hx hb dX11_part_40 rfl (lv_at hl 1 rfl) ?_
    exact t_Mo_part_b41 C F x0 x2 x4 r x5 x2 hf hP _ (lv_sub hl [3] rfl)
  · have hf := kpos hc hf
    refine lv_lload_n hx hb dX11_part_36 rfl (lv_at hl 0 rfl) ?_
    refine lv_goto (tgt := 41) hx hb dX11_part_37 (by decide) ?_
    exact t_Mo_part_b41 C F x0 x2 x4 r x5 x0 hf hP _ (lv_sub hl [3] rfl)
set_option maxHeartbeats 4000000 in
set_option maxRecDepth 100000 in
theorem t_Mo_part_b6 {p : Program} {l : Launch} {e : Env} {s : State} {m : MethodId} {args : Array Value} {below : List Frame} {meth : Method} {c : Code} {D : va_G} {ct : Nat → ClassId} (C : CX p s m args meth c RX11 cX11_part 11 (some .long) D ct) (F : Nat) (x0 : Int64) (x2 : Int64) (x4 : Int32) (r : Int64) (rec6 : Int64 → Int64 → Option Int64) (hr6 : ∀ (x5 : Int64) (x7 : Int64), rec6 x5 x7 = some r → va_P D vwCl (w_Mo_part ct) s.heap → ∀ ls : Array Slot, lv_has ls 11 [(0, .long x0), (2, .long x2), (4, .int x4), (5, .long x5), (7, .long x7)] → W p l e RM_Mo_part s m args below meth c s.heap [] 0 0 (MQ below (QR (some (.long r))) args s 0 0 (fun _ => False)) (F0 m 6 ls [])) : ∀ (x5 : Int64) (x7 : Int64), Mo_part_b6 F x0 x2 x4 rec6 x5 x7 = some r → va_P D vwCl (w_Mo_part ct) s.heap → ∀ ls : Array Slot, lv_has ls 11 [(0, .long x0), (2, .long x2), (4, .int x4), (5, .long x5), (7, .long x7)] → W p l e RM_Mo_part s m args below meth c s.heap [] 0 0 (MQ below (QR (some (.long r))) args s 0 0 (fun _ => False)) (F0 m 6 ls []) := by
  obtain ⟨hx, hb, hr, hml, hown, hts, hlk, hK, hN⟩ := id C
  intro x5 x7 hf hP ls hl
  unfold Mo_part_b6 at hf
  refine lv_lload hx hb dX11_part_6 (lv_at hl 4 rfl) ?_
  refine lv_lconst (v := 0) hx hb dX11_part_8 (by decide) ?_
  refine W.lcmp hx hb dX11_part_9 ?_
  refine lv_if_eq (tgt := 31) hx hb dX11_part_10 (by decide) (fun hc => ?_) (fun hc => ?_)
  · have hf := kpos hc hf
    exact t_Mo_part_b31 C F x0 x2 x4 r x5 hf hP _ (lv_sub hl [0, 1, 2, 3] rfl)
  · have hf := kneg hc hf
    refine lv_lload hx hb dX11_part_13 (lv_at hl 3 rfl) ?_
    refine lv_lload hx hb dX11_part_15 (lv_at hl 4 rfl) ?_
    obtain ⟨hne, hf⟩ := gd_some hf
    refine lv_lrem hx hb dX11_part_17 hne ?_
    refine lv_lstore (lv' := [(9, .long (x5 - x5 / x7 * x7)), (0, .long x0), (2, .long x2), (4, .int x4), (5, .long x5), (7, .long x7)]) hx hb dX11_part_18 hl (by decide) rfl (fun ls hl => ?_)
    refine lv_lload hx hb dX11_part_20 (lv_at hl 5 rfl) ?_
    refine lv_lstore (lv' := [(5, .long x7), (9, .long (x5 - x5 / x7 * x7)), (0, .long x0), (2, .long x2), (4, .int x4), (7, .long x7)]) hx hb dX11_part_22 hl (by decide) rfl (fun ls hl => ?_)
    refine lv_lload hx hb dX11_part_24 (lv_at hl 1 rfl) ?_
    refine lv_lstore (lv' := [(7, .long (x5 - x5 / x7 * x7)), (5, .long x7), (9, .long (x5 - x5 / x7 * x7)), (0, .long x0), (2, .long x2), (4, .int x4)]) hx hb dX11_part_26 hl (by decide) rfl (fun ls hl => ?_)
    refine lv_goto (tgt := 6) hx hb dX11_part_28 (by decide) ?_
    exact hr6 x7 (x5 - x5 / x7 * x7) hf hP _ (lv_sub hl [3, 4, 5, 1, 0] rfl)
set_option maxHeartbeats 4000000 in
set_option maxRecDepth 100000 in
theorem t_Mo_part_l6 {p : Program} {l : Launch} {e : Env} {s : State} {m : MethodId} {args : Array Value} {below : List Frame} {meth : Method} {c : Code} {D : va_G} {ct : Nat → ClassId} (C : CX p s m args meth c RX11 cX11_part 11 (some .long) D ct) (F : Nat) (x0 : Int64) (x2 : Int64) (x4 : Int32) (r : Int64) : ∀ (n : Nat) (x5 : Int64) (x7 : Int64), Mo_part_l6 F x0 x2 x4 n x5 x7 = some r → va_P D vwCl (w_Mo_part ct) s.heap → ∀ ls : Array Slot, lv_has ls 11 [(0, .long x0), (2, .long x2), (4, .int x4), (5, .long x5), (7, .long x7)] → W p l e RM_Mo_part s m args below meth c s.heap [] 0 0 (MQ below (QR (some (.long r))) args s 0 0 (fun _ => False)) (F0 m 6 ls []) := by
  intro n
  induction n with
  | zero =>
    intro x5 x7 hf
    exact absurd hf (by simp [Mo_part_l6])
  | succ n ih =>
    intro x5 x7 hf
    exact t_Mo_part_b6 C F x0 x2 x4 r (Mo_part_l6 F x0 x2 x4 n) ih x5 x7 hf
set_option maxHeartbeats 4000000 in
set_option maxRecDepth 100000 in
theorem c_Mo_part (l : Launch) (D : va_G) (ct : Nat → ClassId) (F : Nat) (x0 : Int64) (x2 : Int64) (x4 : Int32) (r : Int64) (hf : Mo_part F x0 x2 x4 = some r) : Met l yX11_part (WS yX11_part cX11_part 11 (some .long)) RM_Mo_part (va_Pc [.long x0, .long x2, .int x4] (PR D ct (w_Mo_part ct))) (QR (some (.long r))) 0 0 (fun _ => False) := by
  refine kMetR yn_yX11_part rfl (Nat.le_of_ble_eq_true rfl) ?_
  intro p e s m args below meth c C hP ls hl
  have hl : lv_has ls 11 [(0, .long x0), (2, .long x2), (4, .int x4)] := hl
  obtain ⟨hx, hb, hr, hml, hown, hts, hlk, hK, hN⟩ := id C
  unfold Mo_part at hf
  refine lv_lload_n hx hb dX11_part_0 rfl (lv_at hl 0 rfl) ?_
  refine lv_lstore (lv' := [(5, .long x0), (0, .long x0), (2, .long x2), (4, .int x4)]) hx hb dX11_part_1 hl (by decide) rfl (fun ls hl => ?_)
  refine lv_lload_n hx hb dX11_part_3 rfl (lv_at hl 2 rfl) ?_
  refine lv_lstore (lv' := [(7, .long x2), (5, .long x0), (0, .long x0), (2, .long x2), (4, .int x4)]) hx hb dX11_part_4 hl (by decide) rfl (fun ls hl => ?_)
  exact t_Mo_part_l6 C F x0 x2 x4 r F x0 x2 hf hP _ (lv_sub hl [2, 3, 4, 1, 0] rfl)
def RM_Mo_chanceOf : Room := { frames := 3, cells := 0, slots := 0, locals := 71 }
set_option maxHeartbeats 4000000 in
set_option maxRecDepth 100000 in
theorem t_Mo_chanceOf_b36 {p : Program} {l : Launch} {e : Env} {s : State} {m : MethodId} {args : Array Value} {below : List Frame} {meth : Method} {c : Code} {D : va_G} {ct : Nat → ClassId} (C : CX p s m args meth c RX11 cX11_chanceOf 4 (some .long) D ct) (a_this a_forms a_sizes a_items a_moved a_bytes a_typed a_chances a_longs a_letters a_isThere a_pieceLongs a_pieceLetters a_song a_settings a_guess a_row a_least a_nights : Nat) (f_latest : Int32) (f_at : Int32) (f_guesses : Int32) (f_todo : Int32) (F : Nat) (f_names : Int32) (f_pieces : Int32) (f_songLong : Int32) (f_chances : Nat → Int32) (f_longs : Nat → Int32) (f_letters : Nat → Int32) (f_isThere : Nat → Int32) (f_pieceLongs : Nat → Int32) (f_pieceLetters : Nat → Int32) (f_song : Nat → Int32) (x1 : Int32) (x2 : Int32) (r : Int64) : ∀ (x3 : Int32) (k0 : Int64), Mo_chanceOf_b36 F f_names f_pieces f_songLong f_chances f_longs f_letters f_isThere f_pieceLongs f_pieceLetters f_song x1 x2 x3 k0 = some r → va_P D vwCl (w_Mo_chanceOf ct a_this a_forms a_sizes a_items a_moved a_bytes a_typed a_chances a_longs a_letters a_isThere a_pieceLongs a_pieceLetters a_song a_settings a_guess a_row a_least a_nights f_latest f_at f_names f_pieces f_songLong f_guesses f_todo f_chances f_longs f_letters f_isThere f_pieceLongs f_pieceLetters f_song) s.heap → ∀ ls : Array Slot, lv_has ls 4 [(0, .ref a_this), (2, .int x2), (3, .int x3)] → W p l e RM_Mo_chanceOf s m args below meth c s.heap [] 0 0 (MQ below (QR (some (.long r))) args s 0 0 (fun _ => False)) (F0 m 36 ls [.long k0]) := by
  obtain ⟨hx, hb, hr, hml, hown, hts, hlk, hK, hN⟩ := id C
  intro x3 k0 hf hP ls hl
  unfold Mo_chanceOf_b36 at hf
  refine lv_aload_n hx hb dX11_chanceOf_36 rfl (lv_at hl 0 rfl) ?_
  refine lv_iload_n hx hb dX11_chanceOf_37 rfl (lv_at hl 2 rfl) ?_
  obtain ⟨v38, hc38, hf⟩ := cb1_some hf
  refine kcRV (q0 := 0) (ci := 11) (As := [.int x3]) (rest := [.long k0]) (st1 := [.int v38, .long k0]) C (c_Mo_weight l D ct a_this a_forms a_sizes a_items a_moved a_bytes a_typed a_chances a_longs a_letters a_isThere a_pieceLongs a_pieceLetters a_song a_settings a_guess a_row a_least a_nights f_latest f_at f_pieces f_songLong f_guesses f_todo F f_names f_chances x3 v38 hc38) ⟨rfl, rfl⟩ yn_yX11_weight tw_1192 tw_43 tw_1190 ⟨Nat.le_of_ble_eq_true rfl, Nat.le_of_ble_eq_true rfl⟩ ⟨Nat.zero_le _, Nat.zero_le _⟩ hP [0, 1] rfl rfl rfl rfl hl.1 rfl rfl (Nat.le_of_ble_eq_true rfl) dX11_chanceOf_38 rfl ?_
  refine lv_i2l (v := Int32.toInt64 v38) hx hb dX11_chanceOf_41 rfl ?_
  refine lv_iload_n hx hb dX11_chanceOf_42 rfl (lv_at hl 1 rfl) ?_
  obtain ⟨v43, hc43, hf⟩ := cb1_some hf
  refine kcRS (As := [.long k0, .long (Int32.toInt64 v38), .int x2]) (rest := []) (st1 := [.long v43]) C (c_Mo_part l D ct F k0 (Int32.toInt64 v38) x2 v43 hc43) ⟨rfl, rfl⟩ yn_yX11_part tw_1195 tw_1194 ⟨Nat.le_of_ble_eq_true rfl, Nat.le_of_ble_eq_true rfl⟩ ⟨Nat.zero_le _, Nat.zero_le _⟩ hP [] rfl hl.1 rfl rfl (Nat.le_of_ble_eq_true rfl) dX11_chanceOf_43 rfl ?_
  have e1 := Option.some.inj hf
  subst e1
  exact kretRl C dX11_chanceOf_46
set_option maxHeartbeats 4000000 in
set_option maxRecDepth 100000 in
theorem c_Mo_chanceOf (l : Launch) (D : va_G) (ct : Nat → ClassId) (a_this a_forms a_sizes a_items a_moved a_bytes a_typed a_chances a_longs a_letters a_isThere a_pieceLongs a_pieceLetters a_song a_settings a_guess a_row a_least a_nights : Nat) (f_latest : Int32) (f_at : Int32) (f_guesses : Int32) (f_todo : Int32) (F : Nat) (f_names : Int32) (f_pieces : Int32) (f_songLong : Int32) (f_chances : Nat → Int32) (f_longs : Nat → Int32) (f_letters : Nat → Int32) (f_isThere : Nat → Int32) (f_pieceLongs : Nat → Int32) (f_pieceLetters : Nat → Int32) (f_song : Nat → Int32) (x1 : Int32) (x2 : Int32) (r : Int64) (hf : Mo_chanceOf F f_names f_pieces f_songLong f_chances f_longs f_letters f_isThere f_pieceLongs f_pieceLetters f_song x1 x2 = some r) : Met l yX11_chanceOf (WS yX11_chanceOf cX11_chanceOf 4 (some .long)) RM_Mo_chanceOf (va_Pc [.ref a_this, .int x1, .int x2] (PR D ct (w_Mo_chanceOf ct a_this a_forms a_sizes a_items a_moved a_bytes a_typed a_chances a_longs a_letters a_isThere a_pieceLongs a_pieceLetters a_song a_settings a_guess a_row a_least a_nights f_latest f_at f_names f_pieces f_songLong f_guesses f_todo f_chances f_longs f_letters f_isThere f_pieceLongs f_pieceLetters f_song))) (QR (some (.long r))) 0 0 (fun _ => False) := by
  refine kMetR yn_yX11_chanceOf rfl (Nat.le_of_ble_eq_true rfl) ?_
  intro p e s m args below meth c C hP ls hl
  have hl : lv_has ls 4 [(0, .ref a_this), (1, .int x1), (2, .int x2)] := hl
  obtain ⟨hx, hb, hr, hml, hown, hts, hlk, hK, hN⟩ := id C
  unfold Mo_chanceOf at hf
  refine lv_aload_n hx hb dX11_chanceOf_0 rfl (lv_at hl 0 rfl) ?_
  obtain ⟨v1, hc1, hf⟩ := cb1_some hf
  refine kcRV (q0 := 0) (ci := 11) (As := []) (rest := []) (st1 := [.int v1]) C (c_Mo_fitsNow l D ct a_this a_forms a_sizes a_items a_moved a_bytes a_typed a_chances a_longs a_letters a_isThere a_pieceLongs a_pieceLetters a_song a_settings a_guess a_row a_least a_nights f_latest f_at f_guesses f_todo F f_names f_pieces f_songLong f_longs f_letters f_isThere f_pieceLongs f_pieceLetters f_song v1 hc1) ⟨rfl, rfl⟩ yn_yX11_fitsNow tw_1158 tw_38 tw_1156 ⟨Nat.le_of_ble_eq_true rfl, Nat.le_of_ble_eq_true rfl⟩ ⟨Nat.zero_le _, Nat.zero_le _⟩ hP [0, 2, 3, 4, 5, 6, 7] rfl rfl rfl rfl hl.1 rfl rfl (Nat.le_of_ble_eq_true rfl) dX11_chanceOf_1 rfl ?_
  refine lv_istore_n (lv' := [(3, .int v1), (0, .ref a_this), (1, .int x1), (2, .int x2)]) hx hb dX11_chanceOf_4 rfl hl (by decide) rfl (fun ls hl => ?_)
  refine lv_iload_n hx hb dX11_chanceOf_5 rfl (lv_at hl 0 rfl) ?_
  refine lv_if_ne (tgt := 17) hx hb dX11_chanceOf_6 (by decide) (fun hc => ?_) (fun hc => ?_)
  · have hf := kneg hc hf
    refine lv_iload_n hx hb dX11_chanceOf_17 rfl (lv_at hl 0 rfl) ?_
    refine lv_iload_n hx hb dX11_chanceOf_18 rfl (lv_at hl 2 rfl) ?_
    obtain ⟨v19, hc19, hf⟩ := cb1_some hf
    refine kcRS (As := [.int v1, .int x1]) (rest := []) (st1 := [.int v19]) C (c_Mo_isIn l D ct v1 x1 v19 hc19) ⟨rfl, rfl⟩ yn_yX11_isIn tw_1169 tw_1168 ⟨Nat.le_of_ble_eq_true rfl, Nat.le_of_ble_eq_true rfl⟩ ⟨Nat.zero_le _, Nat.zero_le _⟩ hP [] rfl hl.1 rfl rfl (Nat.le_of_ble_eq_true rfl) dX11_chanceOf_19 rfl ?_
    refine lv_if_eq (tgt := 35) hx hb dX11_chanceOf_22 (by decide) (fun hc => ?_) (fun hc => ?_)
    · have hf := kpos hc hf
      refine lv_lconst (v := 0) hx hb dX11_chanceOf_35 (by decide) ?_
      exact t_Mo_chanceOf_b36 C a_this a_forms a_sizes a_items a_moved a_bytes a_typed a_chances a_longs a_letters a_isThere a_pieceLongs a_pieceLetters a_song a_settings a_guess a_row a_least a_nights f_latest f_at f_guesses f_todo F f_names f_pieces f_songLong f_chances f_longs f_letters f_isThere f_pieceLongs f_pieceLetters f_song x1 x2 r v1 0 hf hP _ (lv_sub hl [1, 3, 0] rfl)
    · have hf := kneg hc hf
      refine lv_aload_n hx hb dX11_chanceOf_25 rfl (lv_at hl 1 rfl) ?_
      refine va_get (ci := 11) (v := .ref a_chances) (C := RX11) (T := TX11) (N := 25) hx hb hts inX11 hown hK hP 0 rfl rfl 9 (by decide) (hts _ tw_954) (fun _ h9 => h9) rfl dX11_chanceOf_26 ?_
      refine lv_iload_n hx hb dX11_chanceOf_29 rfl (lv_at hl 2 rfl) ?_
      obtain ⟨hin, hf⟩ := rd_some hf
      generalize ev30 : f_chances (Int32.toNatClampNeg x1) = v30 at hf
      refine kiald hx hb hK hP 1 0 rfl rfl hin ev30 dX11_chanceOf_30 ?_
      refine lv_i2l (v := Int32.toInt64 v30) hx hb dX11_chanceOf_31 rfl ?_
      refine lv_goto (tgt := 36) hx hb dX11_chanceOf_32 (by decide) ?_
      exact t_Mo_chanceOf_b36 C a_this a_forms a_sizes a_items a_moved a_bytes a_typed a_chances a_longs a_letters a_isThere a_pieceLongs a_pieceLetters a_song a_settings a_guess a_row a_least a_nights f_latest f_at f_guesses f_todo F f_names f_pieces f_songLong f_chances f_longs f_letters f_isThere f_pieceLongs f_pieceLetters f_song x1 x2 r v1 (Int32.toInt64 v30) hf hP _ (lv_sub hl [1, 3, 0] rfl)
  · have hf := kpos hc hf
    refine lv_bipush (v := (-3)) hx hb dX11_chanceOf_9 (by decide) ?_
    obtain ⟨v11, hc11, hf⟩ := cb1_some hf
    refine kcRS (As := [.int (-3)]) (rest := []) (st1 := [.long v11]) C (c_Mo_no l D ct (-3) v11 hc11) ⟨rfl, rfl⟩ yn_yX11_no tw_1187 tw_1186 ⟨Nat.le_of_ble_eq_true rfl, Nat.le_of_ble_eq_true rfl⟩ ⟨Nat.zero_le _, Nat.zero_le _⟩ hP [] rfl hl.1 rfl rfl (Nat.le_of_ble_eq_true rfl) dX11_chanceOf_11 rfl ?_
    refine lv_goto (tgt := 46) hx hb dX11_chanceOf_14 (by decide) ?_
    have e1 := Option.some.inj hf
    subst e1
    exact kretRl C dX11_chanceOf_46
def RM_Mo_chance : Room := { frames := 5, cells := 0, slots := 0, locals := 111 }
set_option maxHeartbeats 4000000 in
set_option maxRecDepth 100000 in
theorem t_Mo_chance_b28 {p : Program} {l : Launch} {e : Env} {s : State} {m : MethodId} {args : Array Value} {below : List Frame} {meth : Method} {c : Code} {D : va_G} {ct : Nat → ClassId} (C : CX p s m args meth c RX11 cX11_chance 3 (some .long) D ct) {A : Nat → Prop} (hA : ∀ q : Nat, s.heap.size ≤ q → A q) (a_this a_forms a_sizes a_items a_moved a_bytes a_typed a_chances a_longs a_letters a_isThere a_pieceLongs a_pieceLetters a_song a_settings a_guess a_row a_least a_nights : Nat) (f_latest : Int32) (f_guesses : Int32) (f_todo : Int32) (F : Nat) (f_bytes : Nat → Int32) (f_typed : Nat → Int32) (x1 : Int32) (x2 : Int32) (r : Int64) (r_at : Int32) (r_names : Int32) (r_pieces : Int32) (r_songLong : Int32) (r_chances : Nat → Int32) (r_longs : Nat → Int32) (r_letters : Nat → Int32) (r_isThere : Nat → Int32) (r_pieceLongs : Nat → Int32) (r_pieceLetters : Nat → Int32) (r_song : Nat → Int32) : ∀ (f_at : Int32) (f_names : Int32) (f_pieces : Int32) (f_songLong : Int32) (f_chances : Nat → Int32) (f_longs : Nat → Int32) (f_letters : Nat → Int32) (f_isThere : Nat → Int32) (f_pieceLongs : Nat → Int32) (f_pieceLetters : Nat → Int32) (f_song : Nat → Int32), Mo_chance_b28 F f_bytes f_typed x1 x2 f_at f_names f_pieces f_songLong f_chances f_longs f_letters f_isThere f_pieceLongs f_pieceLetters f_song = some (r, r_at, r_names, r_pieces, r_songLong, r_chances, r_longs, r_letters, r_isThere, r_pieceLongs, r_pieceLetters, r_song) → ∀ (H : Heap) (locs : List Loc), va_P D vwCl (w_Mo_chance ct a_this a_forms a_sizes a_items a_moved a_bytes a_typed a_chances a_longs a_letters a_isThere a_pieceLongs a_pieceLetters a_song a_settings a_guess a_row a_least a_nights f_latest f_at f_names f_pieces f_songLong f_guesses f_todo f_bytes f_typed f_chances f_longs f_letters f_isThere f_pieceLongs f_pieceLetters f_song) H → va_D A (w_Mo_chance ct a_this a_forms a_sizes a_items a_moved a_bytes a_typed a_chances a_longs a_letters a_isThere a_pieceLongs a_pieceLetters a_song a_settings a_guess a_row a_least a_nights f_latest f_at f_names f_pieces f_songLong f_guesses f_todo f_bytes f_typed f_chances f_longs f_letters f_isThere f_pieceLongs f_pieceLetters f_song) → va_S A s.heap H locs → ∀ ls : Array Slot, lv_has ls 3 [] → W p l e RM_Mo_chance s m args below meth c H locs 0 0 (MQ below (QM D (some (.long r)) (w_Mo_chance ct a_this a_forms a_sizes a_items a_moved a_bytes a_typed a_chances a_longs a_letters a_isThere a_pieceLongs a_pieceLetters a_song a_settings a_guess a_row a_least a_nights f_latest r_at r_names r_pieces r_songLong f_guesses f_todo f_bytes f_typed r_chances r_longs r_letters r_isThere r_pieceLongs r_pieceLetters r_song) A) args s 0 0 A) (F0 m 28 ls []) := by
  obtain ⟨hx, hb, hr, hml, hown, hts, hlk, hK, hN⟩ := id C
  intro f_at f_names f_pieces f_songLong f_chances f_longs f_letters f_isThere f_pieceLongs f_pieceLetters f_song hf H locs hP hD hS ls hl
  unfold Mo_chance_b28 at hf
  refine lv_bipush (v := (-2)) hx hb dX11_chance_28 (by decide) ?_
  obtain ⟨v30, hc30, hf⟩ := cb1_some hf
  refine kcRS (As := [.int (-2)]) (rest := []) (st1 := [.long v30]) C (c_Mo_no l D ct (-2) v30 hc30) ⟨rfl, rfl⟩ yn_yX11_no tw_1187 tw_1186 ⟨Nat.le_of_ble_eq_true rfl, Nat.le_of_ble_eq_true rfl⟩ ⟨Nat.zero_le _, Nat.zero_le _⟩ hP [] rfl hl.1 rfl rfl (Nat.le_of_ble_eq_true rfl) dX11_chance_30 rfl ?_
  obtain ⟨e1, e2, e3, e4, e5, e6, e7, e8, e9, e10, e11, e12⟩ := ti12 hf
  subst e1; subst e2; subst e3; subst e4; subst e5; subst e6; subst e7; subst e8; subst e9; subst e10; subst e11; subst e12
  exact kretMl C hP hD hS dX11_chance_33
set_option maxHeartbeats 4000000 in
set_option maxRecDepth 100000 in
theorem c_Mo_chance (l : Launch) (D : va_G) (ct : Nat → ClassId) (a_this a_forms a_sizes a_items a_moved a_bytes a_typed a_chances a_longs a_letters a_isThere a_pieceLongs a_pieceLetters a_song a_settings a_guess a_row a_least a_nights : Nat) (f_latest : Int32) (f_guesses : Int32) (f_todo : Int32) (F : Nat) (f_bytes : Nat → Int32) (f_typed : Nat → Int32) (f_at : Int32) (f_names : Int32) (f_pieces : Int32) (f_songLong : Int32) (f_chances : Nat → Int32) (f_longs : Nat → Int32) (f_letters : Nat → Int32) (f_isThere : Nat → Int32) (f_pieceLongs : Nat → Int32) (f_pieceLetters : Nat → Int32) (f_song : Nat → Int32) (x1 : Int32) (x2 : Int32) (r : Int64) (r_at : Int32) (r_names : Int32) (r_pieces : Int32) (r_songLong : Int32) (r_chances : Nat → Int32) (r_longs : Nat → Int32) (r_letters : Nat → Int32) (r_isThere : Nat → Int32) (r_pieceLongs : Nat → Int32) (r_pieceLetters : Nat → Int32) (r_song : Nat → Int32) (sz : Nat) (hf : Mo_chance F f_bytes f_typed f_at f_names f_pieces f_songLong f_chances f_longs f_letters f_isThere f_pieceLongs f_pieceLetters f_song x1 x2 = some (r, r_at, r_names, r_pieces, r_songLong, r_chances, r_longs, r_letters, r_isThere, r_pieceLongs, r_pieceLetters, r_song)) : Met l yX11_chance (WS yX11_chance cX11_chance 3 (some .long)) RM_Mo_chance (va_Pc [.ref a_this, .int x1, .int x2] (PM D ct sz (w_Mo_chance ct a_this a_forms a_sizes a_items a_moved a_bytes a_typed a_chances a_longs a_letters a_isThere a_pieceLongs a_pieceLetters a_song a_settings a_guess a_row a_least a_nights f_latest f_at f_names f_pieces f_songLong f_guesses f_todo f_bytes f_typed f_chances f_longs f_letters f_isThere f_pieceLongs f_pieceLetters f_song))) (QM D (some (.long r)) (w_Mo_chance ct a_this a_forms a_sizes a_items a_moved a_bytes a_typed a_chances a_longs a_letters a_isThere a_pieceLongs a_pieceLetters a_song a_settings a_guess a_row a_least a_nights f_latest r_at r_names r_pieces r_songLong f_guesses f_todo f_bytes f_typed r_chances r_longs r_letters r_isThere r_pieceLongs r_pieceLetters r_song) (va_A (w_Mo_chance ct a_this a_forms a_sizes a_items a_moved a_bytes a_typed a_chances a_longs a_letters a_isThere a_pieceLongs a_pieceLetters a_song a_settings a_guess a_row a_least a_nights f_latest f_at f_names f_pieces f_songLong f_guesses f_todo f_bytes f_typed f_chances f_longs f_letters f_isThere f_pieceLongs f_pieceLetters f_song) sz)) 0 0 (va_A (w_Mo_chance ct a_this a_forms a_sizes a_items a_moved a_bytes a_typed a_chances a_longs a_letters a_isThere a_pieceLongs a_pieceLetters a_song a_settings a_guess a_row a_least a_nights f_latest f_at f_names f_pieces f_songLong f_guesses f_todo f_bytes f_typed f_chances f_longs f_letters f_isThere f_pieceLongs f_pieceLetters f_song) sz) := by
  refine kMetM yn_yX11_chance rfl (Nat.le_of_ble_eq_true rfl) ?_
  intro p e s m args below meth c A C hA hP hD ls hl
  have hl : lv_has ls 3 [(0, .ref a_this), (1, .int x1), (2, .int x2)] := hl
  have hS : va_S A s.heap s.heap [] := va_S.rf
  obtain ⟨hx, hb, hr, hml, hown, hts, hlk, hK, hN⟩ := id C
  unfold Mo_chance at hf
  refine lv_aload_n hx hb dX11_chance_0 rfl (lv_at hl 0 rfl) ?_
  obtain ⟨f_at_1, f_names_1, f_pieces_1, f_songLong_1, f_chances_1, f_longs_1, f_letters_1, f_isThere_1, f_pieceLongs_1, f_pieceLetters_1, f_song_1, hc1, hf⟩ := cb11_some hf
  refine kcMV (q0 := 0) (ci := 11) (As := []) (rest := []) (st1 := []) (wf := (w_Mo_chance ct a_this a_forms a_sizes a_items a_moved a_bytes a_typed a_chances a_longs a_letters a_isThere a_pieceLongs a_pieceLetters a_song a_settings a_guess a_row a_least a_nights f_latest f_at_1 f_names_1 f_pieces_1 f_songLong_1 f_guesses f_todo f_bytes f_typed f_chances_1 f_longs_1 f_letters_1 f_isThere_1 f_pieceLongs_1 f_pieceLetters_1 f_song_1)) C (c_Mo_reads l D ct a_this a_forms a_sizes a_items a_moved a_bytes a_typed a_chances a_longs a_letters a_isThere a_pieceLongs a_pieceLetters a_song a_settings a_guess a_row a_least a_nights f_latest f_guesses f_todo F f_bytes f_typed f_at f_names f_pieces f_songLong f_chances f_longs f_letters f_isThere f_pieceLongs f_pieceLetters f_song f_at_1 f_names_1 f_pieces_1 f_songLong_1 f_chances_1 f_longs_1 f_letters_1 f_isThere_1 f_pieceLongs_1 f_pieceLetters_1 f_song_1 _ hc1) ⟨rfl, rfl⟩ yn_yX11_reads tw_1121 tw_35 tw_1119 ⟨Nat.le_of_ble_eq_true rfl, Nat.le_of_ble_eq_true rfl⟩ ⟨Nat.zero_le _, Nat.zero_le _⟩ hP hD hS hA [0, 1, 2, 3, 4, 5, 6, 7, 8, 9] [] [0, 1, 2, 3, 4, 5, 6, 7, 8, 9] rfl rfl rfl rfl rfl (by decide) rfl rfl rfl rfl rfl rfl hl.1 rfl rfl (Nat.le_of_ble_eq_true rfl) dX11_chance_1 rfl (fun H locs hP hD hS => ?_)
  refine lv_aload_n hx hb dX11_chance_4 rfl (lv_at hl 0 rfl) ?_
  refine lv_iload_n hx hb dX11_chance_5 rfl (lv_at hl 1 rfl) ?_
  obtain ⟨v6, hc6, hf⟩ := cb1_some hf
  refine kcRV (q0 := 0) (ci := 11) (As := [.int x1]) (rest := []) (st1 := [.int v6]) C (c_Mo_isName l D ct a_this a_forms a_sizes a_items a_moved a_bytes a_typed a_chances a_longs a_letters a_isThere a_pieceLongs a_pieceLetters a_song a_settings a_guess a_row a_least a_nights f_latest f_at_1 f_pieces_1 f_songLong_1 f_guesses f_todo f_names_1 x1 v6 hc6) ⟨rfl, rfl⟩ yn_yX11_isName tw_1125 tw_36 tw_1123 ⟨Nat.le_of_ble_eq_true rfl, Nat.le_of_ble_eq_true rfl⟩ ⟨Nat.zero_le _, Nat.zero_le _⟩ hP [0] rfl rfl rfl rfl hl.1 rfl rfl (Nat.le_of_ble_eq_true rfl) dX11_chance_6 rfl ?_
  refine lv_if_eq (tgt := 28) hx hb dX11_chance_9 (by decide) (fun hc => ?_) (fun hc => ?_)
  · have hf := kpos hc hf
    exact t_Mo_chance_b28 C hA a_this a_forms a_sizes a_items a_moved a_bytes a_typed a_chances a_longs a_letters a_isThere a_pieceLongs a_pieceLetters a_song a_settings a_guess a_row a_least a_nights f_latest f_guesses f_todo F f_bytes f_typed x1 x2 r r_at r_names r_pieces r_songLong r_chances r_longs r_letters r_isThere r_pieceLongs r_pieceLetters r_song f_at_1 f_names_1 f_pieces_1 f_songLong_1 f_chances_1 f_longs_1 f_letters_1 f_isThere_1 f_pieceLongs_1 f_pieceLetters_1 f_song_1 hf _ _ hP hD hS _ (lv_sub hl [] rfl)
  · have hf := kneg hc hf
    refine lv_iload_n hx hb dX11_chance_12 rfl (lv_at hl 2 rfl) ?_
    obtain ⟨v13, hc13, hf⟩ := cb1_some hf
    refine kcRS (As := [.int x2]) (rest := []) (st1 := [.int v13]) C (c_Mo_isTwo l D ct x2 v13 hc13) ⟨rfl, rfl⟩ yn_yX11_isTwo tw_1180 tw_1179 ⟨Nat.le_of_ble_eq_true rfl, Nat.le_of_ble_eq_true rfl⟩ ⟨Nat.zero_le _, Nat.zero_le _⟩ hP [] rfl hl.1 rfl rfl (Nat.le_of_ble_eq_true rfl) dX11_chance_13 rfl ?_
    refine lv_if_eq (tgt := 28) hx hb dX11_chance_16 (by decide) (fun hc => ?_) (fun hc => ?_)
    · have hf := kpos hc hf
      exact t_Mo_chance_b28 C hA a_this a_forms a_sizes a_items a_moved a_bytes a_typed a_chances a_longs a_letters a_isThere a_pieceLongs a_pieceLetters a_song a_settings a_guess a_row a_least a_nights f_latest f_guesses f_todo F f_bytes f_typed x1 x2 r r_at r_names r_pieces r_songLong r_chances r_longs r_letters r_isThere r_pieceLongs r_pieceLetters r_song f_at_1 f_names_1 f_pieces_1 f_songLong_1 f_chances_1 f_longs_1 f_letters_1 f_isThere_1 f_pieceLongs_1 f_pieceLetters_1 f_song_1 hf _ _ hP hD hS _ (lv_sub hl [] rfl)
    · have hf := kneg hc hf
      refine lv_aload_n hx hb dX11_chance_19 rfl (lv_at hl 0 rfl) ?_
      refine lv_iload_n hx hb dX11_chance_20 rfl (lv_at hl 1 rfl) ?_
      refine lv_iload_n hx hb dX11_chance_21 rfl (lv_at hl 2 rfl) ?_
      obtain ⟨v22, hc22, hf⟩ := cb1_some hf
      refine kcRV (q0 := 0) (ci := 11) (As := [.int x1, .int x2]) (rest := []) (st1 := [.long v22]) C (c_Mo_chanceOf l D ct a_this a_forms a_sizes a_items a_moved a_bytes a_typed a_chances a_longs a_letters a_isThere a_pieceLongs a_pieceLetters a_song a_settings a_guess a_row a_least a_nights f_latest f_at_1 f_guesses f_todo F f_names_1 f_pieces_1 f_songLong_1 f_chances_1 f_longs_1 f_letters_1 f_isThere_1 f_pieceLongs_1 f_pieceLetters_1 f_song_1 x1 x2 v22 hc22) ⟨rfl, rfl⟩ yn_yX11_chanceOf tw_1184 tw_42 tw_1182 ⟨Nat.le_of_ble_eq_true rfl, Nat.le_of_ble_eq_true rfl⟩ ⟨Nat.zero_le _, Nat.zero_le _⟩ hP [0, 3, 4, 5, 6, 7, 8, 9] rfl rfl rfl rfl hl.1 rfl rfl (Nat.le_of_ble_eq_true rfl) dX11_chance_22 rfl ?_
      refine lv_goto (tgt := 33) hx hb dX11_chance_25 (by decide) ?_
      obtain ⟨e1, e2, e3, e4, e5, e6, e7, e8, e9, e10, e11, e12⟩ := ti12 hf
      subst e1; subst e2; subst e3; subst e4; subst e5; subst e6; subst e7; subst e8; subst e9; subst e10; subst e11; subst e12
      exact kretMl C hP hD hS dX11_chance_33
def RM_Mo_heardOf : Room := { frames := 1, cells := 0, slots := 0, locals := 26 }
set_option maxHeartbeats 4000000 in
set_option maxRecDepth 100000 in
theorem t_Mo_heardOf_b29 {p : Program} {l : Launch} {e : Env} {s : State} {m : MethodId} {args : Array Value} {below : List Frame} {meth : Method} {c : Code} {D : va_G} {ct : Nat → ClassId} (C : CX p s m args meth c RX11 cX11_heardOf 4 (some .int) D ct) (a_this a_forms a_sizes a_items a_moved a_bytes a_typed a_chances a_longs a_letters a_isThere a_pieceLongs a_pieceLetters a_song a_settings a_guess a_row a_least a_nights : Nat) (f_latest : Int32) (f_at : Int32) (f_pieces : Int32) (f_songLong : Int32) (f_guesses : Int32) (f_todo : Int32) (F : Nat) (f_names : Int32) (f_longs : Nat → Int32) (f_letters : Nat → Int32) (f_isThere : Nat → Int32) (f_pieceLongs : Nat → Int32) (f_pieceLetters : Nat → Int32) (x1 : Int32) (r : Int32) (rec4 : Int32 → Int32 → Option Int32) (hr4 : ∀ (x2 : Int32) (x3 : Int32), rec4 x2 x3 = some r → va_P D vwCl (w_Mo_heardOf ct a_this a_forms a_sizes a_items a_moved a_bytes a_typed a_chances a_longs a_letters a_isThere a_pieceLongs a_pieceLetters a_song a_settings a_guess a_row a_least a_nights f_latest f_at f_names f_pieces f_songLong f_guesses f_todo f_longs f_letters f_isThere f_pieceLongs f_pieceLetters) s.heap → ∀ ls : Array Slot, lv_has ls 4 [(0, .ref a_this), (1, .int x1), (2, .int x2), (3, .int x3)] → W p l e RM_Mo_heardOf s m args below meth c s.heap [] 0 0 (MQ below (QR (some (.int r))) args s 0 0 (fun _ => False)) (F0 m 4 ls [])) : ∀ (x3 : Int32) (k0 : Int32) (k1 : Int32), Mo_heardOf_b29 F f_names f_longs f_letters f_isThere f_pieceLongs f_pieceLetters x1 rec4 x3 k0 k1 = some r → va_P D vwCl (w_Mo_heardOf ct a_this a_forms a_sizes a_items a_moved a_bytes a_typed a_chances a_longs a_letters a_isThere a_pieceLongs a_pieceLetters a_song a_settings a_guess a_row a_least a_nights f_latest f_at f_names f_pieces f_songLong f_guesses f_todo f_longs f_letters f_isThere f_pieceLongs f_pieceLetters) s.heap → ∀ ls : Array Slot, lv_has ls 4 [(0, .ref a_this), (1, .int x1), (3, .int x3)] → W p l e RM_Mo_heardOf s m args below meth c s.heap [] 0 0 (MQ below (QR (some (.int r))) args s 0 0 (fun _ => False)) (F0 m 29 ls [.int k1, .int k0]) := by
  obtain ⟨hx, hb, hr, hml, hown, hts, hlk, hK, hN⟩ := id C
  intro x3 k0 k1 hf hP ls hl
  unfold Mo_heardOf_b29 at hf
  refine lv_ior hx hb dX11_heardOf_29 ?_
  refine lv_istore_n (lv' := [(2, .int (k0 ||| k1)), (0, .ref a_this), (1, .int x1), (3, .int x3)]) hx hb dX11_heardOf_30 rfl hl (by decide) rfl (fun ls hl => ?_)
  refine lv_iinc (v := x3 + 1) (lv' := [(3, .int (x3 + 1)), (2, .int (k0 ||| k1)), (0, .ref a_this), (1, .int x1)]) hx hb dX11_heardOf_31 hl (k := 3) rfl rfl (by decide) rfl (fun ls hl => ?_)
  refine lv_goto (tgt := 4) hx hb dX11_heardOf_34 (by decide) ?_
  exact hr4 (k0 ||| k1) (x3 + 1) hf hP _ (lv_sub hl [2, 3, 1, 0] rfl)
set_option maxHeartbeats 4000000 in
set_option maxRecDepth 100000 in
theorem t_Mo_heardOf_b4 {p : Program} {l : Launch} {e : Env} {s : State} {m : MethodId} {args : Array Value} {below : List Frame} {meth : Method} {c : Code} {D : va_G} {ct : Nat → ClassId} (C : CX p s m args meth c RX11 cX11_heardOf 4 (some .int) D ct) (a_this a_forms a_sizes a_items a_moved a_bytes a_typed a_chances a_longs a_letters a_isThere a_pieceLongs a_pieceLetters a_song a_settings a_guess a_row a_least a_nights : Nat) (f_latest : Int32) (f_at : Int32) (f_pieces : Int32) (f_songLong : Int32) (f_guesses : Int32) (f_todo : Int32) (F : Nat) (f_names : Int32) (f_longs : Nat → Int32) (f_letters : Nat → Int32) (f_isThere : Nat → Int32) (f_pieceLongs : Nat → Int32) (f_pieceLetters : Nat → Int32) (x1 : Int32) (r : Int32) (rec4 : Int32 → Int32 → Option Int32) (hr4 : ∀ (x2 : Int32) (x3 : Int32), rec4 x2 x3 = some r → va_P D vwCl (w_Mo_heardOf ct a_this a_forms a_sizes a_items a_moved a_bytes a_typed a_chances a_longs a_letters a_isThere a_pieceLongs a_pieceLetters a_song a_settings a_guess a_row a_least a_nights f_latest f_at f_names f_pieces f_songLong f_guesses f_todo f_longs f_letters f_isThere f_pieceLongs f_pieceLetters) s.heap → ∀ ls : Array Slot, lv_has ls 4 [(0, .ref a_this), (1, .int x1), (2, .int x2), (3, .int x3)] → W p l e RM_Mo_heardOf s m args below meth c s.heap [] 0 0 (MQ below (QR (some (.int r))) args s 0 0 (fun _ => False)) (F0 m 4 ls [])) : ∀ (x2 : Int32) (x3 : Int32), Mo_heardOf_b4 F f_names f_longs f_letters f_isThere f_pieceLongs f_pieceLetters x1 rec4 x2 x3 = some r → va_P D vwCl (w_Mo_heardOf ct a_this a_forms a_sizes a_items a_moved a_bytes a_typed a_chances a_longs a_letters a_isThere a_pieceLongs a_pieceLetters a_song a_settings a_guess a_row a_least a_nights f_latest f_at f_names f_pieces f_songLong f_guesses f_todo f_longs f_letters f_isThere f_pieceLongs f_pieceLetters) s.heap → ∀ ls : Array Slot, lv_has ls 4 [(0, .ref a_this), (1, .int x1), (2, .int x2), (3, .int x3)] → W p l e RM_Mo_heardOf s m args below meth c s.heap [] 0 0 (MQ below (QR (some (.int r))) args s 0 0 (fun _ => False)) (F0 m 4 ls []) := by
  obtain ⟨hx, hb, hr, hml, hown, hts, hlk, hK, hN⟩ := id C
  intro x2 x3 hf hP ls hl
  unfold Mo_heardOf_b4 at hf
  refine lv_iload_n hx hb dX11_heardOf_4 rfl (lv_at hl 3 rfl) ?_
  refine lv_aload_n hx hb dX11_heardOf_5 rfl (lv_at hl 0 rfl) ?_
  refine va_get (ci := 11) (v := .int f_names) (C := RX11) (T := TX11) (N := 25) hx hb hts inX11 hown hK hP 0 rfl rfl 8 (by decide) (hts _ tw_953) (fun _ h9 => h9) rfl dX11_heardOf_6 ?_
  refine lv_icmp_ge (tgt := 37) hx hb dX11_heardOf_9 (by decide) (fun hc => ?_) (fun hc => ?_)
  · have hf := kpos hc hf
    refine lv_iload_n hx hb dX11_heardOf_37 rfl (lv_at hl 2 rfl) ?_
    have e1 := Option.some.inj hf
    subst e1
    exact kretR C dX11_heardOf_38
  · have hf := kneg hc hf
    refine lv_iload_n hx hb dX11_heardOf_12 rfl (lv_at hl 2 rfl) ?_
    refine lv_aload_n hx hb dX11_heardOf_13 rfl (lv_at hl 0 rfl) ?_
    refine lv_iload_n hx hb dX11_heardOf_14 rfl (lv_at hl 3 rfl) ?_
    refine lv_iload_n hx hb dX11_heardOf_15 rfl (lv_at hl 1 rfl) ?_
    obtain ⟨v16, hc16, hf⟩ := cb1_some hf
    refine kcRV (q0 := 0) (ci := 11) (As := [.int x3, .int x1]) (rest := [.int x2]) (st1 := [.int v16, .int x2]) C (c_Mo_isHeard l D ct a_this a_forms a_sizes a_items a_moved a_bytes a_typed a_chances a_longs a_letters a_isThere a_pieceLongs a_pieceLetters a_song a_settings a_guess a_row a_least a_nights f_latest f_at f_names f_pieces f_songLong f_guesses f_todo F f_longs f_letters f_isThere f_pieceLongs f_pieceLetters x3 x1 v16 hc16) ⟨rfl, rfl⟩ yn_yX11_isHeard tw_1173 tw_41 tw_1171 ⟨Nat.le_of_ble_eq_true rfl, Nat.le_of_ble_eq_true rfl⟩ ⟨Nat.zero_le _, Nat.zero_le _⟩ hP [0, 1, 2, 3, 4, 5] rfl rfl rfl rfl hl.1 rfl rfl (Nat.le_of_ble_eq_true rfl) dX11_heardOf_16 rfl ?_
    refine lv_if_eq (tgt := 28) hx hb dX11_heardOf_19 (by decide) (fun hc => ?_) (fun hc => ?_)
    · have hf := kpos hc hf
      refine lv_iconst (v := 0) hx hb dX11_heardOf_28 (by decide) ?_
      exact t_Mo_heardOf_b29 C a_this a_forms a_sizes a_items a_moved a_bytes a_typed a_chances a_longs a_letters a_isThere a_pieceLongs a_pieceLetters a_song a_settings a_guess a_row a_least a_nights f_latest f_at f_pieces f_songLong f_guesses f_todo F f_names f_longs f_letters f_isThere f_pieceLongs f_pieceLetters x1 r rec4 hr4 x3 x2 0 hf hP _ (lv_sub hl [0, 1, 3] rfl)
    · have hf := kneg hc hf
      refine lv_iconst (v := 1) hx hb dX11_heardOf_22 (by decide) ?_
      refine lv_iload_n hx hb dX11_heardOf_23 rfl (lv_at hl 3 rfl) ?_
      refine lv_ishl hx hb dX11_heardOf_24 ?_
      refine lv_goto (tgt := 29) hx hb dX11_heardOf_25 (by decide) ?_
      exact t_Mo_heardOf_b29 C a_this a_forms a_sizes a_items a_moved a_bytes a_typed a_chances a_longs a_letters a_isThere a_pieceLongs a_pieceLetters a_song a_settings a_guess a_row a_least a_nights f_latest f_at f_pieces f_songLong f_guesses f_todo F f_names f_longs f_letters f_isThere f_pieceLongs f_pieceLetters x1 r rec4 hr4 x3 x2 ((1 : Int32) <<< (x3 &&& 31)) hf hP _ (lv_sub hl [0, 1, 3] rfl)
set_option maxHeartbeats 4000000 in
set_option maxRecDepth 100000 in
theorem t_Mo_heardOf_l4 {p : Program} {l : Launch} {e : Env} {s : State} {m : MethodId} {args : Array Value} {below : List Frame} {meth : Method} {c : Code} {D : va_G} {ct : Nat → ClassId} (C : CX p s m args meth c RX11 cX11_heardOf 4 (some .int) D ct) (a_this a_forms a_sizes a_items a_moved a_bytes a_typed a_chances a_longs a_letters a_isThere a_pieceLongs a_pieceLetters a_song a_settings a_guess a_row a_least a_nights : Nat) (f_latest : Int32) (f_at : Int32) (f_pieces : Int32) (f_songLong : Int32) (f_guesses : Int32) (f_todo : Int32) (F : Nat) (f_names : Int32) (f_longs : Nat → Int32) (f_letters : Nat → Int32) (f_isThere : Nat → Int32) (f_pieceLongs : Nat → Int32) (f_pieceLetters : Nat → Int32) (x1 : Int32) (r : Int32) : ∀ (n : Nat) (x2 : Int32) (x3 : Int32), Mo_heardOf_l4 F f_names f_longs f_letters f_isThere f_pieceLongs f_pieceLetters x1 n x2 x3 = some r → va_P D vwCl (w_Mo_heardOf ct a_this a_forms a_sizes a_items a_moved a_bytes a_typed a_chances a_longs a_letters a_isThere a_pieceLongs a_pieceLetters a_song a_settings a_guess a_row a_least a_nights f_latest f_at f_names f_pieces f_songLong f_guesses f_todo f_longs f_letters f_isThere f_pieceLongs f_pieceLetters) s.heap → ∀ ls : Array Slot, lv_has ls 4 [(0, .ref a_this), (1, .int x1), (2, .int x2), (3, .int x3)] → W p l e RM_Mo_heardOf s m args below meth c s.heap [] 0 0 (MQ below (QR (some (.int r))) args s 0 0 (fun _ => False)) (F0 m 4 ls []) := by
  intro n
  induction n with
  | zero =>
    intro x2 x3 hf
    exact absurd hf (by simp [Mo_heardOf_l4])
  | succ n ih =>
    intro x2 x3 hf
    exact t_Mo_heardOf_b4 C a_this a_forms a_sizes a_items a_moved a_bytes a_typed a_chances a_longs a_letters a_isThere a_pieceLongs a_pieceLetters a_song a_settings a_guess a_row a_least a_nights f_latest f_at f_pieces f_songLong f_guesses f_todo F f_names f_longs f_letters f_isThere f_pieceLongs f_pieceLetters x1 r (Mo_heardOf_l4 F f_names f_longs f_letters f_isThere f_pieceLongs f_pieceLetters x1 n) ih x2 x3 hf
set_option maxHeartbeats 4000000 in
set_option maxRecDepth 100000 in
theorem c_Mo_heardOf (l : Launch) (D : va_G) (ct : Nat → ClassId) (a_this a_forms a_sizes a_items a_moved a_bytes a_typed a_chances a_longs a_letters a_isThere a_pieceLongs a_pieceLetters a_song a_settings a_guess a_row a_least a_nights : Nat) (f_latest : Int32) (f_at : Int32) (f_pieces : Int32) (f_songLong : Int32) (f_guesses : Int32) (f_todo : Int32) (F : Nat) (f_names : Int32) (f_longs : Nat → Int32) (f_letters : Nat → Int32) (f_isThere : Nat → Int32) (f_pieceLongs : Nat → Int32) (f_pieceLetters : Nat → Int32) (x1 : Int32) (r : Int32) (hf : Mo_heardOf F f_names f_longs f_letters f_isThere f_pieceLongs f_pieceLetters x1 = some r) : Met l yX11_heardOf (WS yX11_heardOf cX11_heardOf 4 (some .int)) RM_Mo_heardOf (va_Pc [.ref a_this, .int x1] (PR D ct (w_Mo_heardOf ct a_this a_forms a_sizes a_items a_moved a_bytes a_typed a_chances a_longs a_letters a_isThere a_pieceLongs a_pieceLetters a_song a_settings a_guess a_row a_least a_nights f_latest f_at f_names f_pieces f_songLong f_guesses f_todo f_longs f_letters f_isThere f_pieceLongs f_pieceLetters))) (QR (some (.int r))) 0 0 (fun _ => False) := by
  refine kMetR yn_yX11_heardOf rfl (Nat.le_of_ble_eq_true rfl) ?_
  intro p e s m args below meth c C hP ls hl
  have hl : lv_has ls 4 [(0, .ref a_this), (1, .int x1)] := hl
  obtain ⟨hx, hb, hr, hml, hown, hts, hlk, hK, hN⟩ := id C
  unfold Mo_heardOf at hf
  refine lv_iconst (v := 0) hx hb dX11_heardOf_0 (by decide) ?_
  refine lv_istore_n (lv' := [(2, .int 0), (0, .ref a_this), (1, .int x1)]) hx hb dX11_heardOf_1 rfl hl (by decide) rfl (fun ls hl => ?_)
  refine lv_iconst (v := 0) hx hb dX11_heardOf_2 (by decide) ?_
  refine lv_istore_n (lv' := [(3, .int 0), (2, .int 0), (0, .ref a_this), (1, .int x1)]) hx hb dX11_heardOf_3 rfl hl (by decide) rfl (fun ls hl => ?_)
  exact t_Mo_heardOf_l4 C a_this a_forms a_sizes a_items a_moved a_bytes a_typed a_chances a_longs a_letters a_isThere a_pieceLongs a_pieceLetters a_song a_settings a_guess a_row a_least a_nights f_latest f_at f_pieces f_songLong f_guesses f_todo F f_names f_longs f_letters f_isThere f_pieceLongs f_pieceLetters x1 r F 0 0 hf hP _ (lv_sub hl [2, 3, 1, 0] rfl)
def RM_Mo_heard : Room := { frames := 5, cells := 0, slots := 0, locals := 111 }
set_option maxHeartbeats 4000000 in
set_option maxRecDepth 100000 in
theorem c_Mo_heard (l : Launch) (D : va_G) (ct : Nat → ClassId) (a_this a_forms a_sizes a_items a_moved a_bytes a_typed a_chances a_longs a_letters a_isThere a_pieceLongs a_pieceLetters a_song a_settings a_guess a_row a_least a_nights : Nat) (f_latest : Int32) (f_guesses : Int32) (f_todo : Int32) (F : Nat) (f_bytes : Nat → Int32) (f_typed : Nat → Int32) (f_at : Int32) (f_names : Int32) (f_pieces : Int32) (f_songLong : Int32) (f_chances : Nat → Int32) (f_longs : Nat → Int32) (f_letters : Nat → Int32) (f_isThere : Nat → Int32) (f_pieceLongs : Nat → Int32) (f_pieceLetters : Nat → Int32) (f_song : Nat → Int32) (x1 : Int32) (r : Int32) (r_at : Int32) (r_names : Int32) (r_pieces : Int32) (r_songLong : Int32) (r_chances : Nat → Int32) (r_longs : Nat → Int32) (r_letters : Nat → Int32) (r_isThere : Nat → Int32) (r_pieceLongs : Nat → Int32) (r_pieceLetters : Nat → Int32) (r_song : Nat → Int32) (sz : Nat) (hf : Mo_heard F f_bytes f_typed f_at f_names f_pieces f_songLong f_chances f_longs f_letters f_isThere f_pieceLongs f_pieceLetters f_song x1 = some (r, r_at, r_names, r_pieces, r_songLong, r_chances, r_longs, r_letters, r_isThere, r_pieceLongs, r_pieceLetters, r_song)) : Met l yX11_heard (WS yX11_heard cX11_heard 2 (some .int)) RM_Mo_heard (va_Pc [.ref a_this, .int x1] (PM D ct sz (w_Mo_heard ct a_this a_forms a_sizes a_items a_moved a_bytes a_typed a_chances a_longs a_letters a_isThere a_pieceLongs a_pieceLetters a_song a_settings a_guess a_row a_least a_nights f_latest f_at f_names f_pieces f_songLong f_guesses f_todo f_bytes f_typed f_chances f_longs f_letters f_isThere f_pieceLongs f_pieceLetters f_song))) (QM D (some (.int r)) (w_Mo_heard ct a_this a_forms a_sizes a_items a_moved a_bytes a_typed a_chances a_longs a_letters a_isThere a_pieceLongs a_pieceLetters a_song a_settings a_guess a_row a_least a_nights f_latest r_at r_names r_pieces r_songLong f_guesses f_todo f_bytes f_typed r_chances r_longs r_letters r_isThere r_pieceLongs r_pieceLetters r_song) (va_A (w_Mo_heard ct a_this a_forms a_sizes a_items a_moved a_bytes a_typed a_chances a_longs a_letters a_isThere a_pieceLongs a_pieceLetters a_song a_settings a_guess a_row a_least a_nights f_latest f_at f_names f_pieces f_songLong f_guesses f_todo f_bytes f_typed f_chances f_longs f_letters f_isThere f_pieceLongs f_pieceLetters f_song) sz)) 0 0 (va_A (w_Mo_heard ct a_this a_forms a_sizes a_items a_moved a_bytes a_typed a_chances a_longs a_letters a_isThere a_pieceLongs a_pieceLetters a_song a_settings a_guess a_row a_least a_nights f_latest f_at f_names f_pieces f_songLong f_guesses f_todo f_bytes f_typed f_chances f_longs f_letters f_isThere f_pieceLongs f_pieceLetters f_song) sz) := by
  refine kMetM yn_yX11_heard rfl (Nat.le_of_ble_eq_true rfl) ?_
  intro p e s m args below meth c A C hA hP hD ls hl
  have hl : lv_has ls 2 [(0, .ref a_this), (1, .int x1)] := hl
  have hS : va_S A s.heap s.heap [] := va_S.rf
  obtain ⟨hx, hb, hr, hml, hown, hts, hlk, hK, hN⟩ := id C
  unfold Mo_heard at hf
  refine lv_aload_n hx hb dX11_heard_0 rfl (lv_at hl 0 rfl) ?_
  obtain ⟨f_at_1, f_names_1, f_pieces_1, f_songLong_1, f_chances_1, f_longs_1, f_letters_1, f_isThere_1, f_pieceLongs_1, f_pieceLetters_1, f_song_1, hc1, hf⟩ := cb11_some hf
  refine kcMV (q0 := 0) (ci := 11) (As := []) (rest := []) (st1 := []) (wf := (w_Mo_heard ct a_this a_forms a_sizes a_items a_moved a_bytes a_typed a_chances a_longs a_letters a_isThere a_pieceLongs a_pieceLetters a_song a_settings a_guess a_row a_least a_nights f_latest f_at_1 f_names_1 f_pieces_1 f_songLong_1 f_guesses f_todo f_bytes f_typed f_chances_1 f_longs_1 f_letters_1 f_isThere_1 f_pieceLongs_1 f_pieceLetters_1 f_song_1)) C (c_Mo_reads l D ct a_this a_forms a_sizes a_items a_moved a_bytes a_typed a_chances a_longs a_letters a_isThere a_pieceLongs a_pieceLetters a_song a_settings a_guess a_row a_least a_nights f_latest f_guesses f_todo F f_bytes f_typed f_at f_names f_pieces f_songLong f_chances f_longs f_letters f_isThere f_pieceLongs f_pieceLetters f_song f_at_1 f_names_1 f_pieces_1 f_songLong_1 f_chances_1 f_longs_1 f_letters_1 f_isThere_1 f_pieceLongs_1 f_pieceLetters_1 f_song_1 _ hc1) ⟨rfl, rfl⟩ yn_yX11_reads tw_1121 tw_35 tw_1119 ⟨Nat.le_of_ble_eq_true rfl, Nat.le_of_ble_eq_true rfl⟩ ⟨Nat.zero_le _, Nat.zero_le _⟩ hP hD hS hA [0, 1, 2, 3, 4, 5, 6, 7, 8, 9] [] [0, 1, 2, 3, 4, 5, 6, 7, 8, 9] rfl rfl rfl rfl rfl (by decide) rfl rfl rfl rfl rfl rfl hl.1 rfl rfl (Nat.le_of_ble_eq_true rfl) dX11_heard_1 rfl (fun H locs hP hD hS => ?_)
  refine lv_iload_n hx hb dX11_heard_4 rfl (lv_at hl 1 rfl) ?_
  refine lv_i2l (v := Int32.toInt64 x1) hx hb dX11_heard_5 rfl ?_
  refine lv_lconst (v := 0) hx hb dX11_heard_6 (by decide) ?_
  refine lv_aload_n hx hb dX11_heard_7 rfl (lv_at hl 0 rfl) ?_
  refine va_get (ci := 11) (v := .int f_pieces_1) (C := RX11) (T := TX11) (N := 25) hx hb hts inX11 hown hK hP 0 rfl rfl 12 (by decide) (hts _ tw_957) (fun _ h9 => h9) rfl dX11_heard_8 ?_
  refine lv_iconst (v := 1) hx hb dX11_heard_11 (by decide) ?_
  refine lv_isub hx hb dX11_heard_12 ?_
  refine lv_i2l (v := Int32.toInt64 (f_pieces_1 - 1)) hx hb dX11_heard_13 rfl ?_
  obtain ⟨v14, hc14, hf⟩ := cb1_some hf
  refine kcRS (As := [.long (Int32.toInt64 x1), .long 0, .long (Int32.toInt64 (f_pieces_1 - 1))]) (rest := []) (st1 := [.int v14]) C (c_Mo_in l D ct (Int32.toInt64 x1) 0 (Int32.toInt64 (f_pieces_1 - 1)) v14 hc14) ⟨rfl, rfl⟩ yn_yX11_in tw_1031 tw_1030 ⟨Nat.le_of_ble_eq_true rfl, Nat.le_of_ble_eq_true rfl⟩ ⟨Nat.zero_le _, Nat.zero_le _⟩ hP [] rfl hl.1 rfl rfl (Nat.le_of_ble_eq_true rfl) dX11_heard_14 rfl ?_
  refine lv_if_eq (tgt := 28) hx hb dX11_heard_17 (by decide) (fun hc => ?_) (fun hc => ?_)
  · have hf := kpos hc hf
    refine lv_bipush (v := (-2)) hx hb dX11_heard_28 (by decide) ?_
    obtain ⟨e1, e2, e3, e4, e5, e6, e7, e8, e9, e10, e11, e12⟩ := ti12 hf
    subst e1; subst e2; subst e3; subst e4; subst e5; subst e6; subst e7; subst e8; subst e9; subst e10; subst e11; subst e12
    exact kretM C hP hD hS dX11_heard_30
  · have hf := kneg hc hf
    refine lv_aload_n hx hb dX11_heard_20 rfl (lv_at hl 0 rfl) ?_
    refine lv_iload_n hx hb dX11_heard_21 rfl (lv_at hl 1 rfl) ?_
    obtain ⟨v22, hc22, hf⟩ := cb1_some hf
    refine kcRV (q0 := 0) (ci := 11) (As := [.int x1]) (rest := []) (st1 := [.int v22]) C (c_Mo_heardOf l D ct a_this a_forms a_sizes a_items a_moved a_bytes a_typed a_chances a_longs a_letters a_isThere a_pieceLongs a_pieceLetters a_song a_settings a_guess a_row a_least a_nights f_latest f_at_1 f_pieces_1 f_songLong_1 f_guesses f_todo F f_names_1 f_longs_1 f_letters_1 f_isThere_1 f_pieceLongs_1 f_pieceLetters_1 x1 v22 hc22) ⟨rfl, rfl⟩ yn_yX11_heardOf tw_1203 tw_44 tw_1201 ⟨Nat.le_of_ble_eq_true rfl, Nat.le_of_ble_eq_true rfl⟩ ⟨Nat.zero_le _, Nat.zero_le _⟩ hP [0, 4, 5, 6, 7, 8] rfl rfl rfl rfl hl.1 rfl rfl (Nat.le_of_ble_eq_true rfl) dX11_heard_22 rfl ?_
    refine lv_goto (tgt := 30) hx hb dX11_heard_25 (by decide) ?_
    obtain ⟨e1, e2, e3, e4, e5, e6, e7, e8, e9, e10, e11, e12⟩ := ti12 hf
    subst e1; subst e2; subst e3; subst e4; subst e5; subst e6; subst e7; subst e8; subst e9; subst e10; subst e11; subst e12
    exact kretM C hP hD hS dX11_heard_30
def RM_Mo_offOf : Room := { frames := 0, cells := 0, slots := 0, locals := 0 }
set_option maxHeartbeats 4000000 in
set_option maxRecDepth 100000 in
theorem t_Mo_offOf_b101 {p : Program} {l : Launch} {e : Env} {s : State} {m : MethodId} {args : Array Value} {below : List Frame} {meth : Method} {c : Code} {D : va_G} {ct : Nat → ClassId} (C : CX p s m args meth c RX11 cX11_offOf 6 (some .int) D ct) (a_this a_forms a_sizes a_items a_moved a_bytes a_typed a_chances a_longs a_letters a_isThere a_pieceLongs a_pieceLetters a_song a_settings a_guess a_row a_least a_nights : Nat) (f_latest : Int32) (f_at : Int32) (f_pieces : Int32) (f_songLong : Int32) (f_guesses : Int32) (f_todo : Int32) (F : Nat) (f_names : Int32) (f_longs : Nat → Int32) (f_letters : Nat → Int32) (x1 : Int32) (r : Int32) (rec4 : Int32 → Int32 → Option Int32) (hr4 : ∀ (x2 : Int32) (x3 : Int32), rec4 x2 x3 = some r → va_P D vwCl (w_Mo_offOf ct a_this a_forms a_sizes a_items a_moved a_bytes a_typed a_chances a_longs a_letters a_isThere a_pieceLongs a_pieceLetters a_song a_settings a_guess a_row a_least a_nights f_latest f_at f_names f_pieces f_songLong f_guesses f_todo f_longs f_letters) s.heap → ∀ ls : Array Slot, lv_has ls 6 [(0, .ref a_this), (1, .int x1), (2, .int x2), (3, .int x3)] → W p l e RM_Mo_offOf s m args below meth c s.heap [] 0 0 (MQ below (QR (some (.int r))) args s 0 0 (fun _ => False)) (F0 m 4 ls [])) : ∀ (x3 : Int32) (k0 : Int32) (k1 : Int32), Mo_offOf_b101 F f_names f_longs f_letters x1 rec4 x3 k0 k1 = some r → va_P D vwCl (w_Mo_offOf ct a_this a_forms a_sizes a_items a_moved a_bytes a_typed a_chances a_longs a_letters a_isThere a_pieceLongs a_pieceLetters a_song a_settings a_guess a_row a_least a_nights f_latest f_at f_names f_pieces f_songLong f_guesses f_todo f_longs f_letters) s.heap → ∀ ls : Array Slot, lv_has ls 6 [(0, .ref a_this), (1, .int x1), (3, .int x3)] → W p l e RM_Mo_offOf s m args below meth c s.heap [] 0 0 (MQ below (QR (some (.int r))) args s 0 0 (fun _ => False)) (F0 m 101 ls [.int k1, .int k0]) := by
  obtain ⟨hx, hb, hr, hml, hown, hts, hlk, hK, hN⟩ := id C
  intro x3 k0 k1 hf hP ls hl
  unfold Mo_offOf_b101 at hf
  refine lv_ior hx hb dX11_offOf_101 ?_
  refine lv_istore_n (lv' := [(2, .int (k0 ||| k1)), (0, .ref a_this), (1, .int x1), (3, .int x3)]) hx hb dX11_offOf_102 rfl hl (by decide) rfl (fun ls hl => ?_)
  refine lv_iinc (v := x3 + 1) (lv' := [(3, .int (x3 + 1)), (2, .int (k0 ||| k1)), (0, .ref a_this), (1, .int x1)]) hx hb dX11_offOf_103 hl (k := 3) rfl rfl (by decide) rfl (fun ls hl => ?_)
  refine lv_goto (tgt := 4) hx hb dX11_offOf_106 (by decide) ?_
  exact hr4 (k0 ||| k1) (x3 + 1) hf hP _ (lv_sub hl [2, 3, 1, 0] rfl)
set_option maxHeartbeats 4000000 in
set_option maxRecDepth 100000 in
theorem t_Mo_offOf_b87 {p : Program} {l : Launch} {e : Env} {s : State} {m : MethodId} {args : Array Value} {below : List Frame} {meth : Method} {c : Code} {D : va_G} {ct : Nat → ClassId} (C : CX p s m args meth c RX11 cX11_offOf 6 (some .int) D ct) (a_this a_forms a_sizes a_items a_moved a_bytes a_typed a_chances a_longs a_letters a_isThere a_pieceLongs a_pieceLetters a_song a_settings a_guess a_row a_least a_nights : Nat) (f_latest : Int32) (f_at : Int32) (f_pieces : Int32) (f_songLong : Int32) (f_guesses : Int32) (f_todo : Int32) (F : Nat) (f_names : Int32) (f_longs : Nat → Int32) (f_letters : Nat → Int32) (x1 : Int32) (r : Int32) (rec4 : Int32 → Int32 → Option Int32) (hr4 : ∀ (x2 : Int32) (x3 : Int32), rec4 x2 x3 = some r → va_P D vwCl (w_Mo_offOf ct a_this a_forms a_sizes a_items a_moved a_bytes a_typed a_chances a_longs a_letters a_isThere a_pieceLongs a_pieceLetters a_song a_settings a_guess a_row a_least a_nights f_latest f_at f_names f_pieces f_songLong f_guesses f_todo f_longs f_letters) s.heap → ∀ ls : Array Slot, lv_has ls 6 [(0, .ref a_this), (1, .int x1), (2, .int x2), (3, .int x3)] → W p l e RM_Mo_offOf s m args below meth c s.heap [] 0 0 (MQ below (QR (some (.int r))) args s 0 0 (fun _ => False)) (F0 m 4 ls [])) : ∀ (x2 : Int32) (x3 : Int32) (x4 : Int32), Mo_offOf_b87 F f_names f_longs f_letters x1 rec4 x2 x3 x4 = some r → va_P D vwCl (w_Mo_offOf ct a_this a_forms a_sizes a_items a_moved a_bytes a_typed a_chances a_longs a_letters a_isThere a_pieceLongs a_pieceLetters a_song a_settings a_guess a_row a_least a_nights f_latest f_at f_names f_pieces f_songLong f_guesses f_todo f_longs f_letters) s.heap → ∀ ls : Array Slot, lv_has ls 6 [(0, .ref a_this), (1, .int x1), (2, .int x2), (3, .int x3), (4, .int x4)] → W p l e RM_Mo_offOf s m args below meth c s.heap [] 0 0 (MQ below (QR (some (.int r))) args s 0 0 (fun _ => False)) (F0 m 87 ls []) := by
  obtain ⟨hx, hb, hr, hml, hown, hts, hlk, hK, hN⟩ := id C
  intro x2 x3 x4 hf hP ls hl
  unfold Mo_offOf_b87 at hf
  refine lv_iload_n hx hb dX11_offOf_87 rfl (lv_at hl 2 rfl) ?_
  refine lv_iload hx hb dX11_offOf_88 (lv_at hl 4 rfl) ?_
  refine lv_iconst (v := 1) hx hb dX11_offOf_90 (by decide) ?_
  refine lv_icmp_ne (tgt := 100) hx hb dX11_offOf_91 (by decide) (fun hc => ?_) (fun hc => ?_)
  · have hf := kneg hc hf
    refine lv_iconst (v := 0) hx hb dX11_offOf_100 (by decide) ?_
    exact t_Mo_offOf_b101 C a_this a_forms a_sizes a_items a_moved a_bytes a_typed a_chances a_longs a_letters a_isThere a_pieceLongs a_pieceLetters a_song a_settings a_guess a_row a_least a_nights f_latest f_at f_pieces f_songLong f_guesses f_todo F f_names f_longs f_letters x1 r rec4 hr4 x3 x2 0 hf hP _ (lv_sub hl [0, 1, 3] rfl)
  · have hf := kpos hc hf
    refine lv_iconst (v := 1) hx hb dX11_offOf_94 (by decide) ?_
    refine lv_iload_n hx hb dX11_offOf_95 rfl (lv_at hl 3 rfl) ?_
    refine lv_ishl hx hb dX11_offOf_96 ?_
    refine lv_goto (tgt := 101) hx hb dX11_offOf_97 (by decide) ?_
    exact t_Mo_offOf_b101 C a_this a_forms a_sizes a_items a_moved a_bytes a_typed a_chances a_longs a_letters a_isThere a_pieceLongs a_pieceLetters a_song a_settings a_guess a_row a_least a_nights f_latest f_at f_pieces f_songLong f_guesses f_todo F f_names f_longs f_letters x1 r rec4 hr4 x3 x2 ((1 : Int32) <<< (x3 &&& 31)) hf hP _ (lv_sub hl [0, 1, 3] rfl)
set_option maxHeartbeats 4000000 in
set_option maxRecDepth 100000 in
theorem t_Mo_offOf_b78 {p : Program} {l : Launch} {e : Env} {s : State} {m : MethodId} {args : Array Value} {below : List Frame} {meth : Method} {c : Code} {D : va_G} {ct : Nat → ClassId} (C : CX p s m args meth c RX11 cX11_offOf 6 (some .int) D ct) (a_this a_forms a_sizes a_items a_moved a_bytes a_typed a_chances a_longs a_letters a_isThere a_pieceLongs a_pieceLetters a_song a_settings a_guess a_row a_least a_nights : Nat) (f_latest : Int32) (f_at : Int32) (f_pieces : Int32) (f_songLong : Int32) (f_guesses : Int32) (f_todo : Int32) (F : Nat) (f_names : Int32) (f_longs : Nat → Int32) (f_letters : Nat → Int32) (x1 : Int32) (r : Int32) (rec4 : Int32 → Int32 → Option Int32) (rec18 : Int32 → Int32 → Int32 → Int32 → Option Int32) (hr4 : ∀ (x2 : Int32) (x3 : Int32), rec4 x2 x3 = some r → va_P D vwCl (w_Mo_offOf ct a_this a_forms a_sizes a_items a_moved a_bytes a_typed a_chances a_longs a_letters a_isThere a_pieceLongs a_pieceLetters a_song a_settings a_guess a_row a_least a_nights f_latest f_at f_names f_pieces f_songLong f_guesses f_todo f_longs f_letters) s.heap → ∀ ls : Array Slot, lv_has ls 6 [(0, .ref a_this), (1, .int x1), (2, .int x2), (3, .int x3)] → W p l e RM_Mo_offOf s m args below meth c s.heap [] 0 0 (MQ below (QR (some (.int r))) args s 0 0 (fun _ => False)) (F0 m 4 ls [])) (hr18 : ∀ (x2 : Int32) (x3 : Int32) (x4 : Int32) (x5 : Int32), rec18 x2 x3 x4 x5 = some r → va_P D vwCl (w_Mo_offOf ct a_this a_forms a_sizes a_items a_moved a_bytes a_typed a_chances a_longs a_letters a_isThere a_pieceLongs a_pieceLetters a_song a_settings a_guess a_row a_least a_nights f_latest f_at f_names f_pieces f_songLong f_guesses f_todo f_longs f_letters) s.heap → ∀ ls : Array Slot, lv_has ls 6 [(0, .ref a_this), (1, .int x1), (2, .int x2), (3, .int x3), (4, .int x4), (5, .int x5)] → W p l e RM_Mo_offOf s m args below meth c s.heap [] 0 0 (MQ below (QR (some (.int r))) args s 0 0 (fun _ => False)) (F0 m 18 ls [])) : ∀ (x2 : Int32) (x3 : Int32) (x5 : Int32) (k0 : Int32) (k1 : Int32), Mo_offOf_b78 F f_names f_longs f_letters x1 rec4 rec18 x2 x3 x5 k0 k1 = some r → va_P D vwCl (w_Mo_offOf ct a_this a_forms a_sizes a_items a_moved a_bytes a_typed a_chances a_longs a_letters a_isThere a_pieceLongs a_pieceLetters a_song a_settings a_guess a_row a_least a_nights f_latest f_at f_names f_pieces f_songLong f_guesses f_todo f_longs f_letters) s.heap → ∀ ls : Array Slot, lv_has ls 6 [(0, .ref a_this), (1, .int x1), (2, .int x2), (3, .int x3), (5, .int x5)] → W p l e RM_Mo_offOf s m args below meth c s.heap [] 0 0 (MQ below (QR (some (.int r))) args s 0 0 (fun _ => False)) (F0 m 78 ls [.int k1, .int k0]) := by
  obtain ⟨hx, hb, hr, hml, hown, hts, hlk, hK, hN⟩ := id C
  intro x2 x3 x5 k0 k1 hf hP ls hl
  unfold Mo_offOf_b78 at hf
  refine lv_iadd hx hb dX11_offOf_78 ?_
  refine lv_istore (lv' := [(4, .int (k0 + k1)), (0, .ref a_this), (1, .int x1), (2, .int x2), (3, .int x3), (5, .int x5)]) hx hb dX11_offOf_79 hl (by decide) rfl (fun ls hl => ?_)
  refine lv_iinc (v := x5 + 1) (lv' := [(5, .int (x5 + 1)), (4, .int (k0 + k1)), (0, .ref a_this), (1, .int x1), (2, .int x2), (3, .int x3)]) hx hb dX11_offOf_81 hl (k := 5) rfl rfl (by decide) rfl (fun ls hl => ?_)
  refine lv_goto (tgt := 18) hx hb dX11_offOf_84 (by decide) ?_
  exact hr18 x2 x3 (k0 + k1) (x5 + 1) hf hP _ (lv_sub hl [2, 3, 4, 5, 1, 0] rfl)
set_option maxHeartbeats 4000000 in
set_option maxRecDepth 100000 in
theorem t_Mo_offOf_b18 {p : Program} {l : Launch} {e : Env} {s : State} {m : MethodId} {args : Array Value} {below : List Frame} {meth : Method} {c : Code} {D : va_G} {ct : Nat → ClassId} (C : CX p s m args meth c RX11 cX11_offOf 6 (some .int) D ct) (a_this a_forms a_sizes a_items a_moved a_bytes a_typed a_chances a_longs a_letters a_isThere a_pieceLongs a_pieceLetters a_song a_settings a_guess a_row a_least a_nights : Nat) (f_latest : Int32) (f_at : Int32) (f_pieces : Int32) (f_songLong : Int32) (f_guesses : Int32) (f_todo : Int32) (F : Nat) (f_names : Int32) (f_longs : Nat → Int32) (f_letters : Nat → Int32) (x1 : Int32) (r : Int32) (rec4 : Int32 → Int32 → Option Int32) (rec18 : Int32 → Int32 → Int32 → Int32 → Option Int32) (hr4 : ∀ (x2 : Int32) (x3 : Int32), rec4 x2 x3 = some r → va_P D vwCl (w_Mo_offOf ct a_this a_forms a_sizes a_items a_moved a_bytes a_typed a_chances a_longs a_letters a_isThere a_pieceLongs a_pieceLetters a_song a_settings a_guess a_row a_least a_nights f_latest f_at f_names f_pieces f_songLong f_guesses f_todo f_longs f_letters) s.heap → ∀ ls : Array Slot, lv_has ls 6 [(0, .ref a_this), (1, .int x1), (2, .int x2), (3, .int x3)] → W p l e RM_Mo_offOf s m args below meth c s.heap [] 0 0 (MQ below (QR (some (.int r))) args s 0 0 (fun _ => False)) (F0 m 4 ls [])) (hr18 : ∀ (x2 : Int32) (x3 : Int32) (x4 : Int32) (x5 : Int32), rec18 x2 x3 x4 x5 = some r → va_P D vwCl (w_Mo_offOf ct a_this a_forms a_sizes a_items a_moved a_bytes a_typed a_chances a_longs a_letters a_isThere a_pieceLongs a_pieceLetters a_song a_settings a_guess a_row a_least a_nights f_latest f_at f_names f_pieces f_songLong f_guesses f_todo f_longs f_letters) s.heap → ∀ ls : Array Slot, lv_has ls 6 [(0, .ref a_this), (1, .int x1), (2, .int x2), (3, .int x3), (4, .int x4), (5, .int x5)] → W p l e RM_Mo_offOf s m args below meth c s.heap [] 0 0 (MQ below (QR (some (.int r))) args s 0 0 (fun _ => False)) (F0 m 18 ls [])) : ∀ (x2 : Int32) (x3 : Int32) (x4 : Int32) (x5 : Int32), Mo_offOf_b18 F f_names f_longs f_letters x1 rec4 rec18 x2 x3 x4 x5 = some r → va_P D vwCl (w_Mo_offOf ct a_this a_forms a_sizes a_items a_moved a_bytes a_typed a_chances a_longs a_letters a_isThere a_pieceLongs a_pieceLetters a_song a_settings a_guess a_row a_least a_nights f_latest f_at f_names f_pieces f_songLong f_guesses f_todo f_longs f_letters) s.heap → ∀ ls : Array Slot, lv_has ls 6 [(0, .ref a_this), (1, .int x1), (2, .int x2), (3, .int x3), (4, .int x4), (5, .int x5)] → W p l e RM_Mo_offOf s m args below meth c s.heap [] 0 0 (MQ below (QR (some (.int r))) args s 0 0 (fun _ => False)) (F0 m 18 ls []) := by
  obtain ⟨hx, hb, hr, hml, hown, hts, hlk, hK, hN⟩ := id C
  intro x2 x3 x4 x5 hf hP ls hl
  unfold Mo_offOf_b18 at hf
  refine lv_iload hx hb dX11_offOf_18 (lv_at hl 5 rfl) ?_
  refine lv_aload_n hx hb dX11_offOf_20 rfl (lv_at hl 0 rfl) ?_
  refine va_get (ci := 11) (v := .ref a_longs) (C := RX11) (T := TX11) (N := 25) hx hb hts inX11 hown hK hP 0 rfl rfl 10 (by decide) (hts _ tw_955) (fun _ h9 => h9) rfl dX11_offOf_21 ?_
  refine lv_iload_n hx hb dX11_offOf_24 rfl (lv_at hl 1 rfl) ?_
  obtain ⟨hin, hf⟩ := rd_some hf
  generalize ev25 : f_longs (Int32.toNatClampNeg x1) = v25 at hf
  refine kiald hx hb hK hP 1 0 rfl rfl hin ev25 dX11_offOf_25 ?_
  refine lv_icmp_ge (tgt := 87) hx hb dX11_offOf_26 (by decide) (fun hc => ?_) (fun hc => ?_)
  · have hf := kpos hc hf
    exact t_Mo_offOf_b87 C a_this a_forms a_sizes a_items a_moved a_bytes a_typed a_chances a_longs a_letters a_isThere a_pieceLongs a_pieceLetters a_song a_settings a_guess a_row a_least a_nights f_latest f_at f_pieces f_songLong f_guesses f_todo F f_names f_longs f_letters x1 r rec4 hr4 x2 x3 x4 hf hP _ (lv_sub hl [0, 1, 2, 3, 4] rfl)
  · have hf := kneg hc hf
    refine lv_aload_n hx hb dX11_offOf_29 rfl (lv_at hl 0 rfl) ?_
    refine va_get (ci := 11) (v := .ref a_longs) (C := RX11) (T := TX11) (N := 25) hx hb hts inX11 hown hK hP 0 rfl rfl 10 (by decide) (hts _ tw_955) (fun _ h9 => h9) rfl dX11_offOf_30 ?_
    refine lv_iload_n hx hb dX11_offOf_33 rfl (lv_at hl 3 rfl) ?_
    obtain ⟨hin, hf⟩ := rd_some hf
    generalize ev34 : f_longs (Int32.toNatClampNeg x3) = v34 at hf
    refine kiald hx hb hK hP 1 0 rfl rfl hin ev34 dX11_offOf_34 ?_
    refine lv_aload_n hx hb dX11_offOf_35 rfl (lv_at hl 0 rfl) ?_
    refine va_get (ci := 11) (v := .ref a_longs) (C := RX11) (T := TX11) (N := 25) hx hb hts inX11 hown hK hP 0 rfl rfl 10 (by decide) (hts _ tw_955) (fun _ h9 => h9) rfl dX11_offOf_36 ?_
    refine lv_iload_n hx hb dX11_offOf_39 rfl (lv_at hl 1 rfl) ?_
    obtain ⟨hin, hf⟩ := rd_some hf
    generalize ev40 : f_longs (Int32.toNatClampNeg x1) = v40 at hf
    refine kiald hx hb hK hP 1 0 rfl rfl hin ev40 dX11_offOf_40 ?_
    refine lv_icmp_ne (tgt := 87) hx hb dX11_offOf_41 (by decide) (fun hc => ?_) (fun hc => ?_)
    · have hf := kneg hc hf
      exact t_Mo_offOf_b87 C a_this a_forms a_sizes a_items a_moved a_bytes a_typed a_chances a_longs a_letters a_isThere a_pieceLongs a_pieceLetters a_song a_settings a_guess a_row a_least a_nights f_latest f_at f_pieces f_songLong f_guesses f_todo F f_names f_longs f_letters x1 r rec4 hr4 x2 x3 x4 hf hP _ (lv_sub hl [0, 1, 2, 3, 4] rfl)
    · have hf := kpos hc hf
      refine lv_iload hx hb dX11_offOf_44 (lv_at hl 4 rfl) ?_
      refine lv_aload_n hx hb dX11_offOf_46 rfl (lv_at hl 0 rfl) ?_
      refine va_get (ci := 11) (v := .ref a_letters) (C := RX11) (T := TX11) (N := 25) hx hb hts inX11 hown hK hP 0 rfl rfl 11 (by decide) (hts _ tw_956) (fun _ h9 => h9) rfl dX11_offOf_47 ?_
      refine lv_bipush (v := 6) hx hb dX11_offOf_50 (by decide) ?_
      refine lv_iload_n hx hb dX11_offOf_52 rfl (lv_at hl 3 rfl) ?_
      refine lv_imul hx hb dX11_offOf_53 ?_
      refine lv_iload hx hb dX11_offOf_54 (lv_at hl 5 rfl) ?_
      refine lv_iadd hx hb dX11_offOf_56 ?_
      obtain ⟨hin, hf⟩ := rd_some hf
      generalize ev57 : f_letters (Int32.toNatClampNeg ((6 * x3) + x5)) = v57 at hf
      refine kiald hx hb hK hP 2 0 rfl rfl hin ev57 dX11_offOf_57 ?_
      refine lv_aload_n hx hb dX11_offOf_58 rfl (lv_at hl 0 rfl) ?_
      refine va_get (ci := 11) (v := .ref a_letters) (C := RX11) (T := TX11) (N := 25) hx hb hts inX11 hown hK hP 0 rfl rfl 11 (by decide) (hts _ tw_956) (fun _ h9 => h9) rfl dX11_offOf_59 ?_
      refine lv_bipush (v := 6) hx hb dX11_offOf_62 (by decide) ?_
      refine lv_iload_n hx hb dX11_offOf_64 rfl (lv_at hl 1 rfl) ?_
      refine lv_imul hx hb dX11_offOf_65 ?_
      refine lv_iload hx hb dX11_offOf_66 (lv_at hl 5 rfl) ?_
      refine lv_iadd hx hb dX11_offOf_68 ?_
      obtain ⟨hin, hf⟩ := rd_some hf
      generalize ev69 : f_letters (Int32.toNatClampNeg ((6 * x1) + x5)) = v69 at hf
      refine kiald hx hb hK hP 2 0 rfl rfl hin ev69 dX11_offOf_69 ?_
      refine lv_icmp_ne (tgt := 77) hx hb dX11_offOf_70 (by decide) (fun hc => ?_) (fun hc => ?_)
      · have hf := kneg hc hf
        refine lv_iconst (v := 1) hx hb dX11_offOf_77 (by decide) ?_
        exact t_Mo_offOf_b78 C a_this a_forms a_sizes a_items a_moved a_bytes a_typed a_chances a_longs a_letters a_isThere a_pieceLongs a_pieceLetters a_song a_settings a_guess a_row a_least a_nights f_latest f_at f_pieces f_songLong f_guesses f_todo F f_names f_longs f_letters x1 r rec4 rec18 hr4 hr18 x2 x3 x5 x4 1 hf hP _ (lv_sub hl [0, 1, 2, 3, 5] rfl)
      · have hf := kpos hc hf
        refine lv_iconst (v := 0) hx hb dX11_offOf_73 (by decide) ?_
        refine lv_goto (tgt := 78) hx hb dX11_offOf_74 (by decide) ?_
        exact t_Mo_offOf_b78 C a_this a_forms a_sizes a_items a_moved a_bytes a_typed a_chances a_longs a_letters a_isThere a_pieceLongs a_pieceLetters a_song a_settings a_guess a_row a_least a_nights f_latest f_at f_pieces f_songLong f_guesses f_todo F f_names f_longs f_letters x1 r rec4 rec18 hr4 hr18 x2 x3 x5 x4 0 hf hP _ (lv_sub hl [0, 1, 2, 3, 5] rfl)
set_option maxHeartbeats 4000000 in
set_option maxRecDepth 100000 in
theorem t_Mo_offOf_l18 {p : Program} {l : Launch} {e : Env} {s : State} {m : MethodId} {args : Array Value} {below : List Frame} {meth : Method} {c : Code} {D : va_G} {ct : Nat → ClassId} (C : CX p s m args meth c RX11 cX11_offOf 6 (some .int) D ct) (a_this a_forms a_sizes a_items a_moved a_bytes a_typed a_chances a_longs a_letters a_isThere a_pieceLongs a_pieceLetters a_song a_settings a_guess a_row a_least a_nights : Nat) (f_latest : Int32) (f_at : Int32) (f_pieces : Int32) (f_songLong : Int32) (f_guesses : Int32) (f_todo : Int32) (F : Nat) (f_names : Int32) (f_longs : Nat → Int32) (f_letters : Nat → Int32) (x1 : Int32) (r : Int32) (rec4 : Int32 → Int32 → Option Int32) (hr4 : ∀ (x2 : Int32) (x3 : Int32), rec4 x2 x3 = some r → va_P D vwCl (w_Mo_offOf ct a_this a_forms a_sizes a_items a_moved a_bytes a_typed a_chances a_longs a_letters a_isThere a_pieceLongs a_pieceLetters a_song a_settings a_guess a_row a_least a_nights f_latest f_at f_names f_pieces f_songLong f_guesses f_todo f_longs f_letters) s.heap → ∀ ls : Array Slot, lv_has ls 6 [(0, .ref a_this), (1, .int x1), (2, .int x2), (3, .int x3)] → W p l e RM_Mo_offOf s m args below meth c s.heap [] 0 0 (MQ below (QR (some (.int r))) args s 0 0 (fun _ => False)) (F0 m 4 ls [])) : ∀ (n : Nat) (x2 : Int32) (x3 : Int32) (x4 : Int32) (x5 : Int32), Mo_offOf_l18 F f_names f_longs f_letters x1 rec4 n x2 x3 x4 x5 = some r → va_P D vwCl (w_Mo_offOf ct a_this a_forms a_sizes a_items a_moved a_bytes a_typed a_chances a_longs a_letters a_isThere a_pieceLongs a_pieceLetters a_song a_settings a_guess a_row a_least a_nights f_latest f_at f_names f_pieces f_songLong f_guesses f_todo f_longs f_letters) s.heap → ∀ ls : Array Slot, lv_has ls 6 [(0, .ref a_this), (1, .int x1), (2, .int x2), (3, .int x3), (4, .int x4), (5, .int x5)] → W p l e RM_Mo_offOf s m args below meth c s.heap [] 0 0 (MQ below (QR (some (.int r))) args s 0 0 (fun _ => False)) (F0 m 18 ls []) := by
  intro n
  induction n with
  | zero =>
    intro x2 x3 x4 x5 hf
    exact absurd hf (by simp [Mo_offOf_l18])
  | succ n ih =>
    intro x2 x3 x4 x5 hf
    exact t_Mo_offOf_b18 C a_this a_forms a_sizes a_items a_moved a_bytes a_typed a_chances a_longs a_letters a_isThere a_pieceLongs a_pieceLetters a_song a_settings a_guess a_row a_least a_nights f_latest f_at f_pieces f_songLong f_guesses f_todo F f_names f_longs f_letters x1 r rec4 (Mo_offOf_l18 F f_names f_longs f_letters x1 rec4 n) hr4 ih x2 x3 x4 x5 hf
set_option maxHeartbeats 4000000 in
set_option maxRecDepth 100000 in
theorem t_Mo_offOf_b4 {p : Program} {l : Launch} {e : Env} {s : State} {m : MethodId} {args : Array Value} {below : List Frame} {meth : Method} {c : Code} {D : va_G} {ct : Nat → ClassId} (C : CX p s m args meth c RX11 cX11_offOf 6 (some .int) D ct) (a_this a_forms a_sizes a_items a_moved a_bytes a_typed a_chances a_longs a_letters a_isThere a_pieceLongs a_pieceLetters a_song a_settings a_guess a_row a_least a_nights : Nat) (f_latest : Int32) (f_at : Int32) (f_pieces : Int32) (f_songLong : Int32) (f_guesses : Int32) (f_todo : Int32) (F : Nat) (f_names : Int32) (f_longs : Nat → Int32) (f_letters : Nat → Int32) (x1 : Int32) (r : Int32) (rec4 : Int32 → Int32 → Option Int32) (hr4 : ∀ (x2 : Int32) (x3 : Int32), rec4 x2 x3 = some r → va_P D vwCl (w_Mo_offOf ct a_this a_forms a_sizes a_items a_moved a_bytes a_typed a_chances a_longs a_letters a_isThere a_pieceLongs a_pieceLetters a_song a_settings a_guess a_row a_least a_nights f_latest f_at f_names f_pieces f_songLong f_guesses f_todo f_longs f_letters) s.heap → ∀ ls : Array Slot, lv_has ls 6 [(0, .ref a_this), (1, .int x1), (2, .int x2), (3, .int x3)] → W p l e RM_Mo_offOf s m args below meth c s.heap [] 0 0 (MQ below (QR (some (.int r))) args s 0 0 (fun _ => False)) (F0 m 4 ls [])) : ∀ (x2 : Int32) (x3 : Int32), Mo_offOf_b4 F f_names f_longs f_letters x1 rec4 x2 x3 = some r → va_P D vwCl (w_Mo_offOf ct a_this a_forms a_sizes a_items a_moved a_bytes a_typed a_chances a_longs a_letters a_isThere a_pieceLongs a_pieceLetters a_song a_settings a_guess a_row a_least a_nights f_latest f_at f_names f_pieces f_songLong f_guesses f_todo f_longs f_letters) s.heap → ∀ ls : Array Slot, lv_has ls 6 [(0, .ref a_this), (1, .int x1), (2, .int x2), (3, .int x3)] → W p l e RM_Mo_offOf s m args below meth c s.heap [] 0 0 (MQ below (QR (some (.int r))) args s 0 0 (fun _ => False)) (F0 m 4 ls []) := by
  obtain ⟨hx, hb, hr, hml, hown, hts, hlk, hK, hN⟩ := id C
  intro x2 x3 hf hP ls hl
  unfold Mo_offOf_b4 at hf
  refine lv_iload_n hx hb dX11_offOf_4 rfl (lv_at hl 3 rfl) ?_
  refine lv_aload_n hx hb dX11_offOf_5 rfl (lv_at hl 0 rfl) ?_
  refine va_get (ci := 11) (v := .int f_names) (C := RX11) (T := TX11) (N := 25) hx hb hts inX11 hown hK hP 0 rfl rfl 8 (by decide) (hts _ tw_953) (fun _ h9 => h9) rfl dX11_offOf_6 ?_
  refine lv_icmp_ge (tgt := 109) hx hb dX11_offOf_9 (by decide) (fun hc => ?_) (fun hc => ?_)
  · have hf := kpos hc hf
    refine lv_iload_n hx hb dX11_offOf_109 rfl (lv_at hl 2 rfl) ?_
    have e1 := Option.some.inj hf
    subst e1
    exact kretR C dX11_offOf_110
  · have hf := kneg hc hf
    refine lv_iconst (v := 0) hx hb dX11_offOf_12 (by decide) ?_
    refine lv_istore (lv' := [(4, .int 0), (0, .ref a_this), (1, .int x1), (2, .int x2), (3, .int x3)]) hx hb dX11_offOf_13 hl (by decide) rfl (fun ls hl => ?_)
    refine lv_iconst (v := 0) hx hb dX11_offOf_15 (by decide) ?_
    refine lv_istore (lv' := [(5, .int 0), (4, .int 0), (0, .ref a_this), (1, .int x1), (2, .int x2), (3, .int x3)]) hx hb dX11_offOf_16 hl (by decide) rfl (fun ls hl => ?_)
    exact t_Mo_offOf_l18 C a_this a_forms a_sizes a_items a_moved a_bytes a_typed a_chances a_longs a_letters a_isThere a_pieceLongs a_pieceLetters a_song a_settings a_guess a_row a_least a_nights f_latest f_at f_pieces f_songLong f_guesses f_todo F f_names f_longs f_letters x1 r rec4 hr4 F x2 x3 0 0 hf hP _ (lv_sub hl [2, 3, 4, 5, 1, 0] rfl)
set_option maxHeartbeats 4000000 in
set_option maxRecDepth 100000 in
theorem t_Mo_offOf_l4 {p : Program} {l : Launch} {e : Env} {s : State} {m : MethodId} {args : Array Value} {below : List Frame} {meth : Method} {c : Code} {D : va_G} {ct : Nat → ClassId} (C : CX p s m args meth c RX11 cX11_offOf 6 (some .int) D ct) (a_this a_forms a_sizes a_items a_moved a_bytes a_typed a_chances a_longs a_letters a_isThere a_pieceLongs a_pieceLetters a_song a_settings a_guess a_row a_least a_nights : Nat) (f_latest : Int32) (f_at : Int32) (f_pieces : Int32) (f_songLong : Int32) (f_guesses : Int32) (f_todo : Int32) (F : Nat) (f_names : Int32) (f_longs : Nat → Int32) (f_letters : Nat → Int32) (x1 : Int32) (r : Int32) : ∀ (n : Nat) (x2 : Int32) (x3 : Int32), Mo_offOf_l4 F f_names f_longs f_letters x1 n x2 x3 = some r → va_P D vwCl (w_Mo_offOf ct a_this a_forms a_sizes a_items a_moved a_bytes a_typed a_chances a_longs a_letters a_isThere a_pieceLongs a_pieceLetters a_song a_settings a_guess a_row a_least a_nights f_latest f_at f_names f_pieces f_songLong f_guesses f_todo f_longs f_letters) s.heap → ∀ ls : Array Slot, lv_has ls 6 [(0, .ref a_this), (1, .int x1), (2, .int x2), (3, .int x3)] → W p l e RM_Mo_offOf s m args below meth c s.heap [] 0 0 (MQ below (QR (some (.int r))) args s 0 0 (fun _ => False)) (F0 m 4 ls []) := by
  intro n
  induction n with
  | zero =>
    intro x2 x3 hf
    exact absurd hf (by simp [Mo_offOf_l4])
  | succ n ih =>
    intro x2 x3 hf
    exact t_Mo_offOf_b4 C a_this a_forms a_sizes a_items a_moved a_bytes a_typed a_chances a_longs a_letters a_isThere a_pieceLongs a_pieceLetters a_song a_settings a_guess a_row a_least a_nights f_latest f_at f_pieces f_songLong f_guesses f_todo F f_names f_longs f_letters x1 r (Mo_offOf_l4 F f_names f_longs f_letters x1 n) ih x2 x3 hf
set_option maxHeartbeats 4000000 in
set_option maxRecDepth 100000 in
theorem c_Mo_offOf (l : Launch) (D : va_G) (ct : Nat → ClassId) (a_this a_forms a_sizes a_items a_moved a_bytes a_typed a_chances a_longs a_letters a_isThere a_pieceLongs a_pieceLetters a_song a_settings a_guess a_row a_least a_nights : Nat) (f_latest : Int32) (f_at : Int32) (f_pieces : Int32) (f_songLong : Int32) (f_guesses : Int32) (f_todo : Int32) (F : Nat) (f_names : Int32) (f_longs : Nat → Int32) (f_letters : Nat → Int32) (x1 : Int32) (r : Int32) (hf : Mo_offOf F f_names f_longs f_letters x1 = some r) : Met l yX11_offOf (WS yX11_offOf cX11_offOf 6 (some .int)) RM_Mo_offOf (va_Pc [.ref a_this, .int x1] (PR D ct (w_Mo_offOf ct a_this a_forms a_sizes a_items a_moved a_bytes a_typed a_chances a_longs a_letters a_isThere a_pieceLongs a_pieceLetters a_song a_settings a_guess a_row a_least a_nights f_latest f_at f_names f_pieces f_songLong f_guesses f_todo f_longs f_letters))) (QR (some (.int r))) 0 0 (fun _ => False) := by
  refine kMetR yn_yX11_offOf rfl (Nat.le_of_ble_eq_true rfl) ?_
  intro p e s m args below meth c C hP ls hl
  have hl : lv_has ls 6 [(0, .ref a_this), (1, .int x1)] := hl
  obtain ⟨hx, hb, hr, hml, hown, hts, hlk, hK, hN⟩ := id C
  unfold Mo_offOf at hf
  refine lv_iconst (v := 0) hx hb dX11_offOf_0 (by decide) ?_
  refine lv_istore_n (lv' := [(2, .int 0), (0, .ref a_this), (1, .int x1)]) hx hb dX11_offOf_1 rfl hl (by decide) rfl (fun ls hl => ?_)
  refine lv_iconst (v := 0) hx hb dX11_offOf_2 (by decide) ?_
  refine lv_istore_n (lv' := [(3, .int 0), (2, .int 0), (0, .ref a_this), (1, .int x1)]) hx hb dX11_offOf_3 rfl hl (by decide) rfl (fun ls hl => ?_)
  exact t_Mo_offOf_l4 C a_this a_forms a_sizes a_items a_moved a_bytes a_typed a_chances a_longs a_letters a_isThere a_pieceLongs a_pieceLetters a_song a_settings a_guess a_row a_least a_nights f_latest f_at f_pieces f_songLong f_guesses f_todo F f_names f_longs f_letters x1 r F 0 0 hf hP _ (lv_sub hl [2, 3, 1, 0] rfl)
def RM_Mo_off : Room := { frames := 5, cells := 0, slots := 0, locals := 111 }
set_option maxHeartbeats 4000000 in
set_option maxRecDepth 100000 in
theorem c_Mo_off (l : Launch) (D : va_G) (ct : Nat → ClassId) (a_this a_forms a_sizes a_items a_moved a_bytes a_typed a_chances a_longs a_letters a_isThere a_pieceLongs a_pieceLetters a_song a_settings a_guess a_row a_least a_nights : Nat) (f_latest : Int32) (f_guesses : Int32) (f_todo : Int32) (F : Nat) (f_bytes : Nat → Int32) (f_typed : Nat → Int32) (f_at : Int32) (f_names : Int32) (f_pieces : Int32) (f_songLong : Int32) (f_chances : Nat → Int32) (f_longs : Nat → Int32) (f_letters : Nat → Int32) (f_isThere : Nat → Int32) (f_pieceLongs : Nat → Int32) (f_pieceLetters : Nat → Int32) (f_song : Nat → Int32) (x1 : Int32) (r : Int32) (r_at : Int32) (r_names : Int32) (r_pieces : Int32) (r_songLong : Int32) (r_chances : Nat → Int32) (r_longs : Nat → Int32) (r_letters : Nat → Int32) (r_isThere : Nat → Int32) (r_pieceLongs : Nat → Int32) (r_pieceLetters : Nat → Int32) (r_song : Nat → Int32) (sz : Nat) (hf : Mo_off F f_bytes f_typed f_at f_names f_pieces f_songLong f_chances f_longs f_letters f_isThere f_pieceLongs f_pieceLetters f_song x1 = some (r, r_at, r_names, r_pieces, r_songLong, r_chances, r_longs, r_letters, r_isThere, r_pieceLongs, r_pieceLetters, r_song)) : Met l yX11_off (WS yX11_off cX11_off 2 (some .int)) RM_Mo_off (va_Pc [.ref a_this, .int x1] (PM D ct sz (w_Mo_off ct a_this a_forms a_sizes a_items a_moved a_bytes a_typed a_chances a_longs a_letters a_isThere a_pieceLongs a_pieceLetters a_song a_settings a_guess a_row a_least a_nights f_latest f_at f_names f_pieces f_songLong f_guesses f_todo f_bytes f_typed f_chances f_longs f_letters f_isThere f_pieceLongs f_pieceLetters f_song))) (QM D (some (.int r)) (w_Mo_off ct a_this a_forms a_sizes a_items a_moved a_bytes a_typed a_chances a_longs a_letters a_isThere a_pieceLongs a_pieceLetters a_song a_settings a_guess a_row a_least a_nights f_latest r_at r_names r_pieces r_songLong f_guesses f_todo f_bytes f_typed r_chances r_longs r_letters r_isThere r_pieceLongs r_pieceLetters r_song) (va_A (w_Mo_off ct a_this a_forms a_sizes a_items a_moved a_bytes a_typed a_chances a_longs a_letters a_isThere a_pieceLongs a_pieceLetters a_song a_settings a_guess a_row a_least a_nights f_latest f_at f_names f_pieces f_songLong f_guesses f_todo f_bytes f_typed f_chances f_longs f_letters f_isThere f_pieceLongs f_pieceLetters f_song) sz)) 0 0 (va_A (w_Mo_off ct a_this a_forms a_sizes a_items a_moved a_bytes a_typed a_chances a_longs a_letters a_isThere a_pieceLongs a_pieceLetters a_song a_settings a_guess a_row a_least a_nights f_latest f_at f_names f_pieces f_songLong f_guesses f_todo f_bytes f_typed f_chances f_longs f_letters f_isThere f_pieceLongs f_pieceLetters f_song) sz) := by
  refine kMetM yn_yX11_off rfl (Nat.le_of_ble_eq_true rfl) ?_
  intro p e s m args below meth c A C hA hP hD ls hl
  have hl : lv_has ls 2 [(0, .ref a_this), (1, .int x1)] := hl
  have hS : va_S A s.heap s.heap [] := va_S.rf
  obtain ⟨hx, hb, hr, hml, hown, hts, hlk, hK, hN⟩ := id C
  unfold Mo_off at hf
  refine lv_aload_n hx hb dX11_off_0 rfl (lv_at hl 0 rfl) ?_
  obtain ⟨f_at_1, f_names_1, f_pieces_1, f_songLong_1, f_chances_1, f_longs_1, f_letters_1, f_isThere_1, f_pieceLongs_1, f_pieceLetters_1, f_song_1, hc1, hf⟩ := cb11_some hf
  refine kcMV (q0 := 0) (ci := 11) (As := []) (rest := []) (st1 := []) (wf := (w_Mo_off ct a_this a_forms a_sizes a_items a_moved a_bytes a_typed a_chances a_longs a_letters a_isThere a_pieceLongs a_pieceLetters a_song a_settings a_guess a_row a_least a_nights f_latest f_at_1 f_names_1 f_pieces_1 f_songLong_1 f_guesses f_todo f_bytes f_typed f_chances_1 f_longs_1 f_letters_1 f_isThere_1 f_pieceLongs_1 f_pieceLetters_1 f_song_1)) C (c_Mo_reads l D ct a_this a_forms a_sizes a_items a_moved a_bytes a_typed a_chances a_longs a_letters a_isThere a_pieceLongs a_pieceLetters a_song a_settings a_guess a_row a_least a_nights f_latest f_guesses f_todo F f_bytes f_typed f_at f_names f_pieces f_songLong f_chances f_longs f_letters f_isThere f_pieceLongs f_pieceLetters f_song f_at_1 f_names_1 f_pieces_1 f_songLong_1 f_chances_1 f_longs_1 f_letters_1 f_isThere_1 f_pieceLongs_1 f_pieceLetters_1 f_song_1 _ hc1) ⟨rfl, rfl⟩ yn_yX11_reads tw_1121 tw_35 tw_1119 ⟨Nat.le_of_ble_eq_true rfl, Nat.le_of_ble_eq_true rfl⟩ ⟨Nat.zero_le _, Nat.zero_le _⟩ hP hD hS hA [0, 1, 2, 3, 4, 5, 6, 7, 8, 9] [] [0, 1, 2, 3, 4, 5, 6, 7, 8, 9] rfl rfl rfl rfl rfl (by decide) rfl rfl rfl rfl rfl rfl hl.1 rfl rfl (Nat.le_of_ble_eq_true rfl) dX11_off_1 rfl (fun H locs hP hD hS => ?_)
  refine lv_aload_n hx hb dX11_off_4 rfl (lv_at hl 0 rfl) ?_
  refine lv_iload_n hx hb dX11_off_5 rfl (lv_at hl 1 rfl) ?_
  obtain ⟨v6, hc6, hf⟩ := cb1_some hf
  refine kcRV (q0 := 0) (ci := 11) (As := [.int x1]) (rest := []) (st1 := [.int v6]) C (c_Mo_isName l D ct a_this a_forms a_sizes a_items a_moved a_bytes a_typed a_chances a_longs a_letters a_isThere a_pieceLongs a_pieceLetters a_song a_settings a_guess a_row a_least a_nights f_latest f_at_1 f_pieces_1 f_songLong_1 f_guesses f_todo f_names_1 x1 v6 hc6) ⟨rfl, rfl⟩ yn_yX11_isName tw_1125 tw_36 tw_1123 ⟨Nat.le_of_ble_eq_true rfl, Nat.le_of_ble_eq_true rfl⟩ ⟨Nat.zero_le _, Nat.zero_le _⟩ hP [0] rfl rfl rfl rfl hl.1 rfl rfl (Nat.le_of_ble_eq_true rfl) dX11_off_6 rfl ?_
  refine lv_if_eq (tgt := 20) hx hb dX11_off_9 (by decide) (fun hc => ?_) (fun hc => ?_)
  · have hf := kpos hc hf
    refine lv_bipush (v := (-2)) hx hb dX11_off_20 (by decide) ?_
    obtain ⟨e1, e2, e3, e4, e5, e6, e7, e8, e9, e10, e11, e12⟩ := ti12 hf
    subst e1; subst e2; subst e3; subst e4; subst e5; subst e6; subst e7; subst e8; subst e9; subst e10; subst e11; subst e12
    exact kretM C hP hD hS dX11_off_22
  · have hf := kneg hc hf
    refine lv_aload_n hx hb dX11_off_12 rfl (lv_at hl 0 rfl) ?_
    refine lv_iload_n hx hb dX11_off_13 rfl (lv_at hl 1 rfl) ?_
    obtain ⟨v14, hc14, hf⟩ := cb1_some hf
    refine kcRV (q0 := 0) (ci := 11) (As := [.int x1]) (rest := []) (st1 := [.int v14]) C (c_Mo_offOf l D ct a_this a_forms a_sizes a_items a_moved a_bytes a_typed a_chances a_longs a_letters a_isThere a_pieceLongs a_pieceLetters a_song a_settings a_guess a_row a_least a_nights f_latest f_at_1 f_pieces_1 f_songLong_1 f_guesses f_todo F f_names_1 f_longs_1 f_letters_1 x1 v14 hc14) ⟨rfl, rfl⟩ yn_yX11_offOf tw_1211 tw_45 tw_1209 ⟨Nat.le_of_ble_eq_true rfl, Nat.le_of_ble_eq_true rfl⟩ ⟨Nat.zero_le _, Nat.zero_le _⟩ hP [0, 4, 5] rfl rfl rfl rfl hl.1 rfl rfl (Nat.le_of_ble_eq_true rfl) dX11_off_14 rfl ?_
    refine lv_goto (tgt := 22) hx hb dX11_off_17 (by decide) ?_
    obtain ⟨e1, e2, e3, e4, e5, e6, e7, e8, e9, e10, e11, e12⟩ := ti12 hf
    subst e1; subst e2; subst e3; subst e4; subst e5; subst e6; subst e7; subst e8; subst e9; subst e10; subst e11; subst e12
    exact kretM C hP hD hS dX11_off_22
