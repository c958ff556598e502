def RM_ND_isText : Room := { frames := 0, cells := 0, slots := 0, locals := 0 }
set_option maxHeartbeats 4000000 in
set_option maxRecDepth 100000 in
theorem c_ND_isText (l : Launch) (D : va_G) (ct : Nat → ClassId) (x0 : Int32) (r : Int32) (hf : ND_isText x0 = some r) : Met l yX10_isText (WS yX10_isText cX10_isText 1 (some .boolean)) RM_ND_isText (va_Pc [.int x0] (PR D ct (w_ND_isText ct))) (QR (some (.int r))) 0 0 (fun _ => False) := by
  refine kMetR yn_yX10_isText rfl (Nat.le_of_ble_eq_true rfl) ?_
  intro p e s m args below meth c C hP ls hl
  have hl : lv_has ls 1 [(0, .int x0)] := hl
  obtain ⟨hx, hb, hr, hml, hown, hts, hlk, hK, hN⟩ := id C
  unfold ND_isText at hf
  refine lv_iload_n hx hb dX10_isText_0 rfl (lv_at hl 0 rfl) ?_
  refine lv_if_lt (tgt := 13) hx hb dX10_isText_1 (by decide) (fun hc => ?_) (fun hc => ?_)
  · have hf := kpos hc hf
    refine lv_iconst (v := 0) hx hb dX10_isText_13 (by decide) ?_
    have e1 := Option.some.inj hf
    subst e1
    exact kretRz C (by decide) dX10_isText_14
  · have hf := kneg hc hf
    refine lv_iload_n hx hb dX10_isText_4 rfl (lv_at hl 0 rfl) ?_
    refine lv_iconst (v := 3) hx hb dX10_isText_5 (by decide) ?_
    refine lv_icmp_ge (tgt := 13) hx hb dX10_isText_6 (by decide) (fun hc => ?_) (fun hc => ?_)
    · have hf := kpos hc hf
      refine lv_iconst (v := 0) hx hb dX10_isText_13 (by decide) ?_
      have e1 := Option.some.inj hf
      subst e1
      exact kretRz C (by decide) dX10_isText_14
    · have hf := kneg hc hf
      refine lv_iconst (v := 1) hx hb dX10_isText_9 (by decide) ?_
      refine lv_goto (tgt := 14) hx hb dX10_isText_10 (by decide) ?_
      have e1 := Option.some.inj hf
      subst e1
      exact kretRz C (by decide) dX10_isText_14
def RM_Te_isFull : Room := { frames := 0, cells := 0, slots := 0, locals := 0 }
set_option maxHeartbeats 4000000 in
set_option maxRecDepth 100000 in
theorem c_Te_isFull (l : Launch) (D : va_G) (ct : Nat → ClassId) (a_this a_bytes : Nat) (n_bytes : Nat) (f_bytes : Nat → Int32) (f_size : Int32) (r : Int32) (hf : Te_isFull n_bytes f_size = some r) : Met l yX8_isFull (WS yX8_isFull cX8_isFull 1 (some .boolean)) RM_Te_isFull (va_Pc [.ref a_this] (PR D ct (w_Te_isFull ct a_this a_bytes n_bytes f_size f_bytes))) (QR (some (.int r))) 0 0 (fun _ => False) := by
  refine kMetR yn_yX8_isFull rfl (Nat.le_of_ble_eq_true rfl) ?_
  intro p e s m args below meth c C hP ls hl
  have hl : lv_has ls 1 [(0, .ref a_this)] := hl
  obtain ⟨hx, hb, hr, hml, hown, hts, hlk, hK, hN⟩ := id C
  unfold Te_isFull at hf
  refine lv_aload_n hx hb dX8_isFull_0 rfl (lv_at hl 0 rfl) ?_
  refine va_get (ci := 8) (v := .int f_size) (C := RX8) (T := TX8) (N := 2) hx hb hts inX8 hown hK hP 0 rfl rfl 1 (by decide) (hts _ tw_106) (fun _ h9 => h9) rfl dX8_isFull_1 ?_
  refine lv_aload_n hx hb dX8_isFull_4 rfl (lv_at hl 0 rfl) ?_
  refine va_get (ci := 8) (v := .ref a_bytes) (C := RX8) (T := TX8) (N := 2) hx hb hts inX8 hown hK hP 0 rfl rfl 0 (by decide) (hts _ tw_105) (fun _ h9 => h9) rfl dX8_isFull_5 ?_
  refine va_alen (v := Int32.ofNat n_bytes) hx hb hK hP 1 0 rfl rfl rfl dX8_isFull_8 ?_
  refine lv_icmp_lt (tgt := 16) hx hb dX8_isFull_9 (by decide) (fun hc => ?_) (fun hc => ?_)
  · have hf := kpos hc hf
    refine lv_iconst (v := 0) hx hb dX8_isFull_16 (by decide) ?_
    have e1 := Option.some.inj hf
    subst e1
    exact kretRz C (by decide) dX8_isFull_17
  · have hf := kneg hc hf
    refine lv_iconst (v := 1) hx hb dX8_isFull_12 (by decide) ?_
    refine lv_goto (tgt := 17) hx hb dX8_isFull_13 (by decide) ?_
    have e1 := Option.some.inj hf
    subst e1
    exact kretRz C (by decide) dX8_isFull_17
def RM_Te_append : Room := { frames := 0, cells := 0, slots := 0, locals := 0 }
set_option maxHeartbeats 4000000 in
set_option maxRecDepth 100000 in
theorem c_Te_append (l : Launch) (D : va_G) (ct : Nat → ClassId) (a_this a_bytes : Nat) (n_bytes : Nat) (f_size : Int32) (f_bytes : Nat → Int32) (x1 : Int32) (r_size : Int32) (r_bytes : Nat → Int32) (sz : Nat) (hf : Te_append n_bytes f_size f_bytes x1 = some (r_size, r_bytes)) : Met l yX8_append (WS yX8_append cX8_append 2 none) RM_Te_append (va_Pc [.ref a_this, .int x1] (PM D ct sz (w_Te_append ct a_this a_bytes n_bytes f_size f_bytes))) (QM D none (w_Te_append ct a_this a_bytes n_bytes r_size r_bytes) (va_A (w_Te_append ct a_this a_bytes n_bytes f_size f_bytes) sz)) 0 0 (va_A (w_Te_append ct a_this a_bytes n_bytes f_size f_bytes) sz) := by
  refine kMetM yn_yX8_append rfl (Nat.le_of_ble_eq_true rfl) ?_
  intro p e s m args below meth c A C hA hP hD ls hl
  have hl : lv_has ls 2 [(0, .ref a_this), (1, .int x1)] := hl
  have hS : va_S A s.heap s.heap [] := va_S.rf
  obtain ⟨hx, hb, hr, hml, hown, hts, hlk, hK, hN⟩ := id C
  unfold Te_append at hf
  refine lv_aload_n hx hb dX8_append_0 rfl (lv_at hl 0 rfl) ?_
  refine va_get (ci := 8) (v := .int f_size) (C := RX8) (T := TX8) (N := 2) hx hb hts inX8 hown hK hP 0 rfl rfl 1 (by decide) (hts _ tw_106) (fun _ h9 => h9) rfl dX8_append_1 ?_
  refine lv_if_lt (tgt := 39) hx hb dX8_append_4 (by decide) (fun hc => ?_) (fun hc => ?_)
  · have hf := kpos hc hf
    obtain ⟨e1, e2⟩ := ti2 hf
    subst e1; subst e2
    exact kretMv C hP hD hS dX8_append_39
  · have hf := kneg hc hf
    refine lv_aload_n hx hb dX8_append_7 rfl (lv_at hl 0 rfl) ?_
    refine va_get (ci := 8) (v := .int f_size) (C := RX8) (T := TX8) (N := 2) hx hb hts inX8 hown hK hP 0 rfl rfl 1 (by decide) (hts _ tw_106) (fun _ h9 => h9) rfl dX8_append_8 ?_
    refine lv_aload_n hx hb dX8_append_11 rfl (lv_at hl 0 rfl) ?_
    refine va_get (ci := 8) (v := .ref a_bytes) (C := RX8) (T := TX8) (N := 2) hx hb hts inX8 hown hK hP 0 rfl rfl 0 (by decide) (hts _ tw_105) (fun _ h9 => h9) rfl dX8_append_12 ?_
    refine va_alen (v := Int32.ofNat n_bytes) hx hb hK hP 1 0 rfl rfl rfl dX8_append_15 ?_
    refine lv_icmp_ge (tgt := 39) hx hb dX8_append_16 (by decide) (fun hc => ?_) (fun hc => ?_)
    · have hf := kpos hc hf
      obtain ⟨e1, e2⟩ := ti2 hf
      subst e1; subst e2
      exact kretMv C hP hD hS dX8_append_39
    · have hf := kneg hc hf
      refine lv_aload_n hx hb dX8_append_19 rfl (lv_at hl 0 rfl) ?_
      refine va_get (ci := 8) (v := .ref a_bytes) (C := RX8) (T := TX8) (N := 2) hx hb hts inX8 hown hK hP 0 rfl rfl 0 (by decide) (hts _ tw_105) (fun _ h9 => h9) rfl dX8_append_20 ?_
      refine lv_aload_n hx hb dX8_append_23 rfl (lv_at hl 0 rfl) ?_
      refine va_get (ci := 8) (v := .int f_size) (C := RX8) (T := TX8) (N := 2) hx hb hts inX8 hown hK hP 0 rfl rfl 1 (by decide) (hts _ tw_106) (fun _ h9 => h9) rfl dX8_append_24 ?_
      refine lv_iload_n hx hb dX8_append_27 rfl (lv_at hl 1 rfl) ?_
      obtain ⟨hin, f_bytes_28, ev28, hf⟩ := wr_ex hf
      refine kiast hx hb hK hP hD hS 1 0 rfl rfl hin ev28 dX8_append_28 (fun H locs hP hD hS => ?_)
      have hP : va_P D vwCl (w_Te_append ct a_this a_bytes n_bytes f_size f_bytes_28) H := hP
      have hD : va_D A (w_Te_append ct a_this a_bytes n_bytes f_size f_bytes_28) := hD
      refine lv_aload_n hx hb dX8_append_29 rfl (lv_at hl 0 rfl) ?_
      refine lv_dup hx hb dX8_append_30 rfl ?_
      refine va_get (ci := 8) (v := .int f_size) (C := RX8) (T := TX8) (N := 2) hx hb hts inX8 hown hK hP 0 rfl rfl 1 (by decide) (hts _ tw_106) (fun _ h9 => h9) rfl dX8_append_31 ?_
      refine lv_iconst (v := 1) hx hb dX8_append_34 (by decide) ?_
      refine lv_iadd hx hb dX8_append_35 ?_
      refine va_put (ci := 8) (v := .int (f_size + 1)) (ty := .int) (C := RX8) (T := TX8) (N := 2) hx hb hts inX8 tyX8 tyX8_ok nmX8 hown hK hP hD hS 0 rfl rfl 1 (by decide) (hts _ tw_106) (fun _ h9 => h9) rfl (tyX8_ok 1 (by decide)) rfl rfl (Nat.le_of_ble_eq_true rfl) dX8_append_36 (fun H locs hP hD hS => ?_)
      have hP : va_P D vwCl (w_Te_append ct a_this a_bytes n_bytes (f_size + 1) f_bytes_28) H := hP
      have hD : va_D A (w_Te_append ct a_this a_bytes n_bytes (f_size + 1) f_bytes_28) := hD
      obtain ⟨e1, e2⟩ := ti2 hf
      subst e1; subst e2
      exact kretMv C hP hD hS dX8_append_39
def RM_Wi_forgetAll : Room := { frames := 0, cells := 0, slots := 0, locals := 0 }
set_option maxHeartbeats 4000000 in
set_option maxRecDepth 100000 in
theorem c_Wi_forgetAll (l : Launch) (D : va_G) (ct : Nat → ClassId) (a_this a_names a_deal a_least : Nat) (f_stale : Int32) (r_stale : Int32) (sz : Nat) (hf : Wi_forgetAll f_stale = some r_stale) : Met l yX9_forgetAll (WS yX9_forgetAll cX9_forgetAll 1 none) RM_Wi_forgetAll (va_Pc [.ref a_this] (PM D ct sz (w_Wi_forgetAll ct a_this a_names a_deal a_least f_stale))) (QM D none (w_Wi_forgetAll ct a_this a_names a_deal a_least r_stale) (va_A (w_Wi_forgetAll ct a_this a_names a_deal a_least f_stale) sz)) 0 0 (va_A (w_Wi_forgetAll ct a_this a_names a_deal a_least f_stale) sz) := by
  refine kMetM yn_yX9_forgetAll rfl (Nat.le_of_ble_eq_true rfl) ?_
  intro p e s m args below meth c A C hA hP hD ls hl
  have hl : lv_has ls 1 [(0, .ref a_this)] := hl
  have hS : va_S A s.heap s.heap [] := va_S.rf
  obtain ⟨hx, hb, hr, hml, hown, hts, hlk, hK, hN⟩ := id C
  unfold Wi_forgetAll at hf
  refine lv_aload_n hx hb dX9_forgetAll_0 rfl (lv_at hl 0 rfl) ?_
  refine lv_iconst (v := 1) hx hb dX9_forgetAll_1 (by decide) ?_
  refine va_put (ci := 9) (v := .int 1) (ty := .boolean) (C := RX9) (T := TX9) (N := 4) hx hb hts inX9 tyX9 tyX9_ok nmX9 hown hK hP hD hS 0 rfl rfl 3 (by decide) (hts _ tw_237) (fun _ h9 => h9) rfl (tyX9_ok 3 (by decide)) rfl rfl (Nat.le_of_ble_eq_true rfl) dX9_forgetAll_2 (fun H locs hP hD hS => ?_)
  have hP : va_P D vwCl (w_Wi_forgetAll ct a_this a_names a_deal a_least 1) H := hP
  have hD : va_D A (w_Wi_forgetAll ct a_this a_names a_deal a_least 1) := hD
  have e1 := Option.some.inj hf
  subst e1
  exact kretMv C hP hD hS dX9_forgetAll_5
def RM_Sp_forgetAll : Room := { frames := 0, cells := 0, slots := 0, locals := 0 }
set_option maxHeartbeats 4000000 in
set_option maxRecDepth 100000 in
theorem c_Sp_forgetAll (l : Launch) (D : va_G) (ct : Nat → ClassId) (a_this a_names a_nights : Nat) (f_settled : Int32) (f_stale : Int32) (r_stale : Int32) (sz : Nat) (hf : Sp_forgetAll f_stale = some r_stale) : Met l yX7_forgetAll (WS yX7_forgetAll cX7_forgetAll 1 none) RM_Sp_forgetAll (va_Pc [.ref a_this] (PM D ct sz (w_Sp_forgetAll ct a_this a_names a_nights f_stale f_settled))) (QM D none (w_Sp_forgetAll ct a_this a_names a_nights r_stale f_settled) (va_A (w_Sp_forgetAll ct a_this a_names a_nights f_stale f_settled) sz)) 0 0 (va_A (w_Sp_forgetAll ct a_this a_names a_nights f_stale f_settled) sz) := by
  refine kMetM yn_yX7_forgetAll rfl (Nat.le_of_ble_eq_true rfl) ?_
  intro p e s m args below meth c A C hA hP hD ls hl
  have hl : lv_has ls 1 [(0, .ref a_this)] := hl
  have hS : va_S A s.heap s.heap [] := va_S.rf
  obtain ⟨hx, hb, hr, hml, hown, hts, hlk, hK, hN⟩ := id C
  unfold Sp_forgetAll at hf
  refine lv_aload_n hx hb dX7_forgetAll_0 rfl (lv_at hl 0 rfl) ?_
  refine lv_iconst (v := 1) hx hb dX7_forgetAll_1 (by decide) ?_
  refine va_put (ci := 7) (v := .int 1) (ty := .boolean) (C := RX7) (T := TX7) (N := 4) hx hb hts inX7 tyX7 tyX7_ok nmX7 hown hK hP hD hS 0 rfl rfl 2 (by decide) (hts _ tw_255) (fun _ h9 => h9) rfl (tyX7_ok 2 (by decide)) rfl rfl (Nat.le_of_ble_eq_true rfl) dX7_forgetAll_2 (fun H locs hP hD hS => ?_)
  have hP : va_P D vwCl (w_Sp_forgetAll ct a_this a_names a_nights 1 f_settled) H := hP
  have hD : va_D A (w_Sp_forgetAll ct a_this a_names a_nights 1 f_settled) := hD
  have e1 := Option.some.inj hf
  subst e1
  exact kretMv C hP hD hS dX7_forgetAll_5
def RM_ND_forget : Room := { frames := 1, cells := 0, slots := 0, locals := 20 }
set_option maxHeartbeats 4000000 in
set_option maxRecDepth 100000 in
theorem c_ND_forget (l : Launch) (D : va_G) (ct : Nat → ClassId) (a_this a_texts a_names a_pieces a_song a_fitting a_deal a_guesses a_wise a_spy a_sheets a_wise_least a_spy_nights : Nat) (f_finding : Int32) (f_spy_settled : Int32) (f_stale : Int32) (f_wise_stale : Int32) (f_spy_stale : Int32) (x1 : Int32) (r_stale : Int32) (r_wise_stale : Int32) (r_spy_stale : Int32) (sz : Nat) (hf : ND_forget f_stale f_wise_stale f_spy_stale x1 = some (r_stale, r_wise_stale, r_spy_stale)) : Met l yX10_forget (WS yX10_forget cX10_forget 2 none) RM_ND_forget (va_Pc [.ref a_this, .int x1] (PM D ct sz (w_ND_forget ct a_this a_texts a_names a_pieces a_song a_fitting a_deal a_guesses a_wise a_spy a_sheets a_wise_least a_spy_nights f_stale f_finding f_wise_stale f_spy_stale f_spy_settled))) (QM D none (w_ND_forget ct a_this a_texts a_names a_pieces a_song a_fitting a_deal a_guesses a_wise a_spy a_sheets a_wise_least a_spy_nights r_stale f_finding r_wise_stale r_spy_stale f_spy_settled) (va_A (w_ND_forget ct a_this a_texts a_names a_pieces a_song a_fitting a_deal a_guesses a_wise a_spy a_sheets a_wise_least a_spy_nights f_stale f_finding f_wise_stale f_spy_stale f_spy_settled) sz)) 0 0 (va_A (w_ND_forget ct a_this a_texts a_names a_pieces a_song a_fitting a_deal a_guesses a_wise a_spy a_sheets a_wise_least a_spy_nights f_stale f_finding f_wise_stale f_spy_stale f_spy_settled) sz) := by
  refine kMetM yn_yX10_forget rfl (Nat.le_of_ble_eq_true rfl) ?_
  intro p e s m args below meth c A C hA hP hD ls hl
  have hl : lv_has ls 2 [(0, .ref a_this), (1, .int x1)] := hl
  have hS : va_S A s.heap s.heap [] := va_S.rf
  obtain ⟨hx, hb, hr, hml, hown, hts, hlk, hK, hN⟩ := id C
  unfold ND_forget at hf
  refine lv_aload_n hx hb dX10_forget_0 rfl (lv_at hl 0 rfl) ?_
  refine lv_iconst (v := 1) hx hb dX10_forget_1 (by decide) ?_
  refine va_put (ci := 10) (v := .int 1) (ty := .boolean) (C := RX10) (T := TX10) (N := 12) hx hb hts inX10 tyX10 tyX10_ok nmX10 hown hK hP hD hS 0 rfl rfl 10 (by decide) (hts _ tw_293) (fun _ h9 => h9) rfl (tyX10_ok 10 (by decide)) rfl rfl (Nat.le_of_ble_eq_true rfl) dX10_forget_2 (fun H locs hP hD hS => ?_)
  have hP : va_P D vwCl (w_ND_forget ct a_this a_texts a_names a_pieces a_song a_fitting a_deal a_guesses a_wise a_spy a_sheets a_wise_least a_spy_nights 1 f_finding f_wise_stale f_spy_stale f_spy_settled) H := hP
  have hD : va_D A (w_ND_forget ct a_this a_texts a_names a_pieces a_song a_fitting a_deal a_guesses a_wise a_spy a_sheets a_wise_least a_spy_nights 1 f_finding f_wise_stale f_spy_stale f_spy_settled) := hD
  refine lv_iload_n hx hb dX10_forget_5 rfl (lv_at hl 1 rfl) ?_
  refine lv_if_ne (tgt := 23) hx hb dX10_forget_6 (by decide) (fun hc => ?_) (fun hc => ?_)
  · have hf := kneg hc hf
    obtain ⟨e1, e2, e3⟩ := ti3 hf
    subst e1; subst e2; subst e3
    exact kretMv C hP hD hS dX10_forget_23
  · have hf := kpos hc hf
    refine lv_aload_n hx hb dX10_forget_9 rfl (lv_at hl 0 rfl) ?_
    refine va_get (ci := 10) (v := .ref a_wise) (C := RX10) (T := TX10) (N := 12) hx hb hts inX10 hown hK hP 0 rfl rfl 7 (by decide) (hts _ tw_290) (fun _ h9 => h9) rfl dX10_forget_10 ?_
    obtain ⟨f_wise_stale_13, hc13, hf⟩ := cb1_some hf
    refine kcMV (q0 := 1) (ci := 9) (As := []) (rest := []) (st1 := []) (wf := (w_ND_forget ct a_this a_texts a_names a_pieces a_song a_fitting a_deal a_guesses a_wise a_spy a_sheets a_wise_least a_spy_nights 1 f_finding f_wise_stale_13 f_spy_stale f_spy_settled)) C (c_Wi_forgetAll l D ct a_wise a_names a_deal a_wise_least f_wise_stale f_wise_stale_13 _ hc13) ⟨rfl, rfl⟩ yn_yX9_forgetAll tw_340 tw_341 tw_339 ⟨Nat.le_of_ble_eq_true rfl, Nat.le_of_ble_eq_true rfl⟩ ⟨Nat.zero_le _, Nat.zero_le _⟩ hP hD hS hA [1] [0, 2] [0, 2, 1] rfl rfl rfl rfl rfl (by decide) rfl rfl rfl rfl rfl rfl hl.1 rfl rfl (Nat.le_of_ble_eq_true rfl) dX10_forget_13 rfl (fun H locs hP hD hS => ?_)
    refine lv_aload_n hx hb dX10_forget_16 rfl (lv_at hl 0 rfl) ?_
    refine va_get (ci := 10) (v := .ref a_spy) (C := RX10) (T := TX10) (N := 12) hx hb hts inX10 hown hK hP 0 rfl rfl 8 (by decide) (hts _ tw_291) (fun _ h9 => h9) rfl dX10_forget_17 ?_
    obtain ⟨f_spy_stale_20, hc20, hf⟩ := cb1_some hf
    refine kcMV (q0 := 2) (ci := 7) (As := []) (rest := []) (st1 := []) (wf := (w_ND_forget ct a_this a_texts a_names a_pieces a_song a_fitting a_deal a_guesses a_wise a_spy a_sheets a_wise_least a_spy_nights 1 f_finding f_wise_stale_13 f_spy_stale_20 f_spy_settled)) C (c_Sp_forgetAll l D ct a_spy a_names a_spy_nights f_spy_settled f_spy_stale f_spy_stale_20 _ hc20) ⟨rfl, rfl⟩ yn_yX7_forgetAll tw_344 tw_345 tw_343 ⟨Nat.le_of_ble_eq_true rfl, Nat.le_of_ble_eq_true rfl⟩ ⟨Nat.zero_le _, Nat.zero_le _⟩ hP hD hS hA [2] [0, 1] [0, 1, 2] rfl rfl rfl rfl rfl (by decide) rfl rfl rfl rfl rfl rfl hl.1 rfl rfl (Nat.le_of_ble_eq_true rfl) dX10_forget_20 rfl (fun H locs hP hD hS => ?_)
    obtain ⟨e1, e2, e3⟩ := ti3 hf
    subst e1; subst e2; subst e3
    exact kretMv C hP hD hS dX10_forget_23
def RM_Te_size : Room := { frames := 0, cells := 0, slots := 0, locals := 0 }
set_option maxHeartbeats 4000000 in
set_option maxRecDepth 100000 in
theorem c_Te_size (l : Launch) (D : va_G) (ct : Nat → ClassId) (a_this a_bytes : Nat) (f_size : Int32) (r : Int32) (hf : Te_size f_size = some r) : Met l yX8_size (WS yX8_size cX8_size 1 (some .int)) RM_Te_size (va_Pc [.ref a_this] (PR D ct (w_Te_size ct a_this a_bytes f_size))) (QR (some (.int r))) 0 0 (fun _ => False) := by
  refine kMetR yn_yX8_size rfl (Nat.le_of_ble_eq_true rfl) ?_
  intro p e s m args below meth c C hP ls hl
  have hl : lv_has ls 1 [(0, .ref a_this)] := hl
  obtain ⟨hx, hb, hr, hml, hown, hts, hlk, hK, hN⟩ := id C
  unfold Te_size at hf
  refine lv_aload_n hx hb dX8_size_0 rfl (lv_at hl 0 rfl) ?_
  refine va_get (ci := 8) (v := .int f_size) (C := RX8) (T := TX8) (N := 2) hx hb hts inX8 hown hK hP 0 rfl rfl 1 (by decide) (hts _ tw_106) (fun _ h9 => h9) rfl dX8_size_1 ?_
  have e1 := Option.some.inj hf
  subst e1
  exact kretR C dX8_size_4
def RM_ND_type : Room := { frames := 2, cells := 0, slots := 0, locals := 41 }
set_option maxHeartbeats 4000000 in
set_option maxRecDepth 100000 in
theorem c_ND_type (l : Launch) (D : va_G) (ct : Nat → ClassId) (a_this a_texts a_names a_pieces a_song a_fitting a_deal a_guesses a_wise a_spy a_sheets a_texts0 a_texts1 a_texts2 a_texts0_bytes a_texts1_bytes a_texts2_bytes a_wise_least a_spy_nights : Nat) (f_finding : Int32) (f_spy_settled : Int32) (f_stale : Int32) (f_texts0_size : Int32) (f_texts0_bytes : Nat → Int32) (f_texts1_size : Int32) (f_texts1_bytes : Nat → Int32) (f_texts2_size : Int32) (f_texts2_bytes : Nat → Int32) (f_wise_stale : Int32) (f_spy_stale : Int32) (x1 : Int32) (x2 : Int32) (r : Int32) (r_stale : Int32) (r_texts0_size : Int32) (r_texts0_bytes : Nat → Int32) (r_texts1_size : Int32) (r_texts1_bytes : Nat → Int32) (r_texts2_size : Int32) (r_texts2_bytes : Nat → Int32) (r_wise_stale : Int32) (r_spy_stale : Int32) (sz : Nat) (hf : ND_type f_stale f_texts0_size f_texts0_bytes f_texts1_size f_texts1_bytes f_texts2_size f_texts2_bytes f_wise_stale f_spy_stale x1 x2 = some (r, r_stale, r_texts0_size, r_texts0_bytes, r_texts1_size, r_texts1_bytes, r_texts2_size, r_texts2_bytes, r_wise_stale, r_spy_stale)) : Met l yX10_type (WS yX10_type cX10_type 3 (some .int)) RM_ND_type (va_Pc [.ref a_this, .int x1, .int x2] (PM D ct sz (w_ND_type ct a_this a_texts a_names a_pieces a_song a_fitting a_deal a_guesses a_wise a_spy a_sheets a_texts0 a_texts1 a_texts2 a_texts0_bytes a_texts1_bytes a_texts2_bytes a_wise_least a_spy_nights f_stale f_finding f_texts0_size f_texts0_bytes f_texts1_size f_texts1_bytes f_texts2_size f_texts2_bytes f_wise_stale f_spy_stale f_spy_settled))) (QM D (some (.int r)) (w_ND_type ct a_this a_texts a_names a_pieces a_song a_fitting a_deal a_guesses a_wise a_spy a_sheets a_texts0 a_texts1 a_texts2 a_texts0_bytes a_texts1_bytes a_texts2_bytes a_wise_least a_spy_nights r_stale f_finding r_texts0_size r_texts0_bytes r_texts1_size r_texts1_bytes r_texts2_size r_texts2_bytes r_wise_stale r_spy_stale f_spy_settled) (va_A (w_ND_type ct a_this a_texts a_names a_pieces a_song a_fitting a_deal a_guesses a_wise a_spy a_sheets a_texts0 a_texts1 a_texts2 a_texts0_bytes a_texts1_bytes a_texts2_bytes a_wise_least a_spy_nights f_stale f_finding f_texts0_size f_texts0_bytes f_texts1_size f_texts1_bytes f_texts2_size f_texts2_bytes f_wise_stale f_spy_stale f_spy_settled) sz)) 0 0 (va_A (w_ND_type ct a_this a_texts a_names a_pieces a_song a_fitting a_deal a_guesses a_wise a_spy a_sheets a_texts0 a_texts1 a_texts2 a_texts0_bytes a_texts1_bytes a_texts2_bytes a_wise_least a_spy_nights f_stale f_finding f_texts0_size f_texts0_bytes f_texts1_size f_texts1_bytes f_texts2_size f_texts2_bytes f_wise_stale f_spy_stale f_spy_settled) sz) := by
  refine kMetM yn_yX10_type rfl (Nat.le_of_ble_eq_true rfl) ?_
  intro p e s m args below meth c A C hA hP hD ls hl
  have hl : lv_has ls 3 [(0, .ref a_this), (1, .int x1), (2, .int x2)] := hl
  have hS : va_S A s.heap s.heap [] := va_S.rf
  obtain ⟨hx, hb, hr, hml, hown, hts, hlk, hK, hN⟩ := id C
  unfold ND_type at hf
  refine lv_iload_n hx hb dX10_type_0 rfl (lv_at hl 1 rfl) ?_
  obtain ⟨v1, hc1, hf⟩ := cb1_some hf
  refine kcRS (As := [.int x1]) (rest := []) (st1 := [.int v1]) C (c_ND_isText l D ct x1 v1 hc1) ⟨rfl, rfl⟩ yn_yX10_isText tw_325 tw_324 ⟨Nat.le_of_ble_eq_true rfl, Nat.le_of_ble_eq_true rfl⟩ ⟨Nat.zero_le _, Nat.zero_le _⟩ hP [] rfl hl.1 rfl rfl (Nat.le_of_ble_eq_true rfl) dX10_type_1 rfl ?_
  refine lv_if_eq (tgt := 18) hx hb dX10_type_4 (by decide) (fun hc => ?_) (fun hc => ?_)
  · have hf := kpos hc hf
    refine lv_bipush (v := (-2)) hx hb dX10_type_18 (by decide) ?_
    obtain ⟨e1, e2, e3, e4, e5, e6, e7, e8, e9, e10⟩ := ti10 hf
    subst e1; subst e2; subst e3; subst e4; subst e5; subst e6; subst e7; subst e8; subst e9; subst e10
    exact kretM C hP hD hS dX10_type_20
  · have hf := kneg hc hf
    refine lv_iload_n hx hb dX10_type_7 rfl (lv_at hl 2 rfl) ?_
    refine lv_if_lt (tgt := 18) hx hb dX10_type_8 (by decide) (fun hc => ?_) (fun hc => ?_)
    · have hf := kpos hc hf
      refine lv_bipush (v := (-2)) hx hb dX10_type_18 (by decide) ?_
      obtain ⟨e1, e2, e3, e4, e5, e6, e7, e8, e9, e10⟩ := ti10 hf
      subst e1; subst e2; subst e3; subst e4; subst e5; subst e6; subst e7; subst e8; subst e9; subst e10
      exact kretM C hP hD hS dX10_type_20
    · have hf := kneg hc hf
      refine lv_iload_n hx hb dX10_type_11 rfl (lv_at hl 2 rfl) ?_
      refine lv_sipush (v := 255) hx hb dX10_type_12 (by decide) ?_
      refine lv_icmp_le (tgt := 21) hx hb dX10_type_15 (by decide) (fun hc => ?_) (fun hc => ?_)
      · have hf := kpos hc hf
        refine lv_aload_n hx hb dX10_type_21 rfl (lv_at hl 0 rfl) ?_
        refine va_get (ci := 10) (v := .ref a_texts) (C := RX10) (T := TX10) (N := 12) hx hb hts inX10 hown hK hP 0 rfl rfl 0 (by decide) (hts _ tw_283) (fun _ h9 => h9) rfl dX10_type_22 ?_
        refine lv_iload_n hx hb dX10_type_25 rfl (lv_at hl 1 rfl) ?_
        by_cases hs_1 : x1 = 0
        · have hf := kpos hs_1 hf
          refine kaald hx hb hK hP 1 3 rfl rfl (k := 0) (by rw [hs_1]; rfl) rfl (by decide) dX10_type_26 ?_
          obtain ⟨v27, hc27, hf⟩ := cb1_some hf
          refine kcRV (q0 := 2) (ci := 8) (As := []) (rest := []) (st1 := [.int v27]) C (c_Te_isFull l D ct a_texts0 a_texts0_bytes 80 f_texts0_bytes f_texts0_size v27 hc27) ⟨rfl, rfl⟩ yn_yX8_isFull tw_328 tw_329 tw_327 ⟨Nat.le_of_ble_eq_true rfl, Nat.le_of_ble_eq_true rfl⟩ ⟨Nat.zero_le _, Nat.zero_le _⟩ hP [2, 3] rfl rfl rfl rfl hl.1 rfl rfl (Nat.le_of_ble_eq_true rfl) dX10_type_27 rfl ?_
          refine lv_if_eq (tgt := 36) hx hb dX10_type_30 (by decide) (fun hc => ?_) (fun hc => ?_)
          · have hf := kpos hc hf
            refine lv_aload_n hx hb dX10_type_36 rfl (lv_at hl 0 rfl) ?_
            refine va_get (ci := 10) (v := .ref a_texts) (C := RX10) (T := TX10) (N := 12) hx hb hts inX10 hown hK hP 0 rfl rfl 0 (by decide) (hts _ tw_283) (fun _ h9 => h9) rfl dX10_type_37 ?_
            refine lv_iload_n hx hb dX10_type_40 rfl (lv_at hl 1 rfl) ?_
            refine kaald hx hb hK hP 1 3 rfl rfl (k := 0) (by rw [hs_1]; rfl) rfl (by decide) dX10_type_41 ?_
            refine lv_iload_n hx hb dX10_type_42 rfl (lv_at hl 2 rfl) ?_
            obtain ⟨f_texts0_size_43, f_texts0_bytes_43, hc43, hf⟩ := cb2_some hf
            refine kcMV (q0 := 2) (ci := 8) (As := [.int x2]) (rest := []) (st1 := []) (wf := (w_ND_type ct a_this a_texts a_names a_pieces a_song a_fitting a_deal a_guesses a_wise a_spy a_sheets a_texts0 a_texts1 a_texts2 a_texts0_bytes a_texts1_bytes a_texts2_bytes a_wise_least a_spy_nights f_stale f_finding f_texts0_size_43 f_texts0_bytes_43 f_texts1_size f_texts1_bytes f_texts2_size f_texts2_bytes f_wise_stale f_spy_stale f_spy_settled)) C (c_Te_append l D ct a_texts0 a_texts0_bytes 80 f_texts0_size f_texts0_bytes x2 f_texts0_size_43 f_texts0_bytes_43 _ hc43) ⟨rfl, rfl⟩ yn_yX8_append tw_332 tw_333 tw_331 ⟨Nat.le_of_ble_eq_true rfl, Nat.le_of_ble_eq_true rfl⟩ ⟨Nat.zero_le _, Nat.zero_le _⟩ hP hD hS hA [2, 3] [0, 1, 4, 5, 6, 7, 8, 9] [0, 1, 8, 9, 2, 3, 4, 5, 6, 7] rfl rfl rfl rfl rfl (by decide) rfl rfl rfl rfl rfl rfl hl.1 rfl rfl (Nat.le_of_ble_eq_true rfl) dX10_type_43 rfl (fun H locs hP hD hS => ?_)
            refine lv_aload_n hx hb dX10_type_46 rfl (lv_at hl 0 rfl) ?_
            refine lv_iload_n hx hb dX10_type_47 rfl (lv_at hl 1 rfl) ?_
            obtain ⟨f_stale_48, f_wise_stale_48, f_spy_stale_48, hc48, hf⟩ := cb3_some hf
            refine kcMV (q0 := 0) (ci := 10) (As := [.int x1]) (rest := []) (st1 := []) (wf := (w_ND_type ct a_this a_texts a_names a_pieces a_song a_fitting a_deal a_guesses a_wise a_spy a_sheets a_texts0 a_texts1 a_texts2 a_texts0_bytes a_texts1_bytes a_texts2_bytes a_wise_least a_spy_nights f_stale_48 f_finding f_texts0_size_43 f_texts0_bytes_43 f_texts1_size f_texts1_bytes f_texts2_size f_texts2_bytes f_wise_stale_48 f_spy_stale_48 f_spy_settled)) C (c_ND_forget l D ct a_this a_texts a_names a_pieces a_song a_fitting a_deal a_guesses a_wise a_spy a_sheets a_wise_least a_spy_nights f_finding f_spy_settled f_stale f_wise_stale f_spy_stale x1 f_stale_48 f_wise_stale_48 f_spy_stale_48 _ hc48) ⟨rfl, rfl⟩ yn_yX10_forget tw_337 tw_0 tw_335 ⟨Nat.le_of_ble_eq_true rfl, Nat.le_of_ble_eq_true rfl⟩ ⟨Nat.zero_le _, Nat.zero_le _⟩ hP hD hS hA [0, 8, 9] [1, 2, 3, 4, 5, 6, 7] [7, 0, 1, 2, 3, 4, 5, 6, 8, 9] rfl rfl rfl rfl rfl (by decide) rfl rfl rfl rfl rfl rfl hl.1 rfl rfl (Nat.le_of_ble_eq_true rfl) dX10_type_48 rfl (fun H locs hP hD hS => ?_)
            refine lv_aload_n hx hb dX10_type_51 rfl (lv_at hl 0 rfl) ?_
            refine va_get (ci := 10) (v := .ref a_texts) (C := RX10) (T := TX10) (N := 12) hx hb hts inX10 hown hK hP 0 rfl rfl 0 (by decide) (hts _ tw_283) (fun _ h9 => h9) rfl dX10_type_52 ?_
            refine lv_iload_n hx hb dX10_type_55 rfl (lv_at hl 1 rfl) ?_
            refine kaald hx hb hK hP 1 3 rfl rfl (k := 0) (by rw [hs_1]; rfl) rfl (by decide) dX10_type_56 ?_
            obtain ⟨v57, hc57, hf⟩ := cb1_some hf
            refine kcRV (q0 := 2) (ci := 8) (As := []) (rest := []) (st1 := [.int v57]) C (c_Te_size l D ct a_texts0 a_texts0_bytes f_texts0_size_43 v57 hc57) ⟨rfl, rfl⟩ yn_yX8_size tw_348 tw_349 tw_347 ⟨Nat.le_of_ble_eq_true rfl, Nat.le_of_ble_eq_true rfl⟩ ⟨Nat.zero_le _, Nat.zero_le _⟩ hP [2] rfl rfl rfl rfl hl.1 rfl rfl (Nat.le_of_ble_eq_true rfl) dX10_type_57 rfl ?_
            obtain ⟨e1, e2, e3, e4, e5, e6, e7, e8, e9, e10⟩ := ti10 hf
            subst e1; subst e2; subst e3; subst e4; subst e5; subst e6; subst e7; subst e8; subst e9; subst e10
            exact kretM C hP hD hS dX10_type_60
          · have hf := kneg hc hf
            refine lv_bipush (v := (-4)) hx hb dX10_type_33 (by decide) ?_
            obtain ⟨e1, e2, e3, e4, e5, e6, e7, e8, e9, e10⟩ := ti10 hf
            subst e1; subst e2; subst e3; subst e4; subst e5; subst e6; subst e7; subst e8; subst e9; subst e10
            exact kretM C hP hD hS dX10_type_35
        · have hf := kneg hs_1 hf
          by_cases hs_1 : x1 = 1
          · have hf := kpos hs_1 hf
            refine kaald hx hb hK hP 1 3 rfl rfl (k := 1) (by rw [hs_1]; rfl) rfl (by decide) dX10_type_26 ?_
            obtain ⟨v27, hc27, hf⟩ := cb1_some hf
            refine kcRV (q0 := 4) (ci := 8) (As := []) (rest := []) (st1 := [.int v27]) C (c_Te_isFull l D ct a_texts1 a_texts1_bytes 40 f_texts1_bytes f_texts1_size v27 hc27) ⟨rfl, rfl⟩ yn_yX8_isFull tw_328 tw_329 tw_327 ⟨Nat.le_of_ble_eq_true rfl, Nat.le_of_ble_eq_true rfl⟩ ⟨Nat.zero_le _, Nat.zero_le _⟩ hP [4, 5] rfl rfl rfl rfl hl.1 rfl rfl (Nat.le_of_ble_eq_true rfl) dX10_type_27 rfl ?_
            refine lv_if_eq (tgt := 36) hx hb dX10_type_30 (by decide) (fun hc => ?_) (fun hc => ?_)
            · have hf := kpos hc hf
              refine lv_aload_n hx hb dX10_type_36 rfl (lv_at hl 0 rfl) ?_
              refine va_get (ci := 10) (v := .ref a_texts) (C := RX10) (T := TX10) (N := 12) hx hb hts inX10 hown hK hP 0 rfl rfl 0 (by decide) (hts _ tw_283) (fun _ h9 => h9) rfl dX10_type_37 ?_
              refine lv_iload_n hx hb dX10_type_40 rfl (lv_at hl 1 rfl) ?_
              refine kaald hx hb hK hP 1 3 rfl rfl (k := 1) (by rw [hs_1]; rfl) rfl (by decide) dX10_type_41 ?_
              refine lv_iload_n hx hb dX10_type_42 rfl (lv_at hl 2 rfl) ?_
              obtain ⟨f_texts1_size_43, f_texts1_bytes_43, hc43, hf⟩ := cb2_some hf
              refine kcMV (q0 := 4) (ci := 8) (As := [.int x2]) (rest := []) (st1 := []) (wf := (w_ND_type ct a_this a_texts a_names a_pieces a_song a_fitting a_deal a_guesses a_wise a_spy a_sheets a_texts0 a_texts1 a_texts2 a_texts0_bytes a_texts1_bytes a_texts2_bytes a_wise_least a_spy_nights f_stale f_finding f_texts0_size f_texts0_bytes f_texts1_size_43 f_texts1_bytes_43 f_texts2_size f_texts2_bytes f_wise_stale f_spy_stale f_spy_settled)) C (c_Te_append l D ct a_texts1 a_texts1_bytes 40 f_texts1_size f_texts1_bytes x2 f_texts1_size_43 f_texts1_bytes_43 _ hc43) ⟨rfl, rfl⟩ yn_yX8_append tw_332 tw_333 tw_331 ⟨Nat.le_of_ble_eq_true rfl, Nat.le_of_ble_eq_true rfl⟩ ⟨Nat.zero_le _, Nat.zero_le _⟩ hP hD hS hA [4, 5] [0, 1, 2, 3, 6, 7, 8, 9] [0, 1, 2, 3, 8, 9, 4, 5, 6, 7] rfl rfl rfl rfl rfl (by decide) rfl rfl rfl rfl rfl rfl hl.1 rfl rfl (Nat.le_of_ble_eq_true rfl) dX10_type_43 rfl (fun H locs hP hD hS => ?_)
              refine lv_aload_n hx hb dX10_type_46 rfl (lv_at hl 0 rfl) ?_
              refine lv_iload_n hx hb dX10_type_47 rfl (lv_at hl 1 rfl) ?_
              obtain ⟨f_stale_48, f_wise_stale_48, f_spy_stale_48, hc48, hf⟩ := cb3_some hf
              refine kcMV (q0 := 0) (ci := 10) (As := [.int x1]) (rest := []) (st1 := []) (wf := (w_ND_type ct a_this a_texts a_names a_pieces a_song a_fitting a_deal a_guesses a_wise a_spy a_sheets a_texts0 a_texts1 a_texts2 a_texts0_bytes a_texts1_bytes a_texts2_bytes a_wise_least a_spy_nights f_stale_48 f_finding f_texts0_size f_texts0_bytes f_texts1_size_43 f_texts1_bytes_43 f_texts2_size f_texts2_bytes f_wise_stale_48 f_spy_stale_48 f_spy_settled)) C (c_ND_forget l D ct a_this a_texts a_names a_pieces a_song a_fitting a_deal a_guesses a_wise a_spy a_sheets a_wise_least a_spy_nights f_finding f_spy_settled f_stale f_wise_stale f_spy_stale x1 f_stale_48 f_wise_stale_48 f_spy_stale_48 _ hc48) ⟨rfl, rfl⟩ yn_yX10_forget tw_337 tw_0 tw_335 ⟨Nat.le_of_ble_eq_true rfl, Nat.le_of_ble_eq_true rfl⟩ ⟨Nat.zero_le _, Nat.zero_le _⟩ hP hD hS hA [0, 8, 9] [1, 2, 3, 4, 5, 6, 7] [7, 0, 1, 2, 3, 4, 5, 6, 8, 9] rfl rfl rfl rfl rfl (by decide) rfl rfl rfl rfl rfl rfl hl.1 rfl rfl (Nat.le_of_ble_eq_true rfl) dX10_type_48 rfl (fun H locs hP hD hS => ?_)
              refine lv_aload_n hx hb dX10_type_51 rfl (lv_at hl 0 rfl) ?_
              refine va_get (ci := 10) (v := .ref a_texts) (C := RX10) (T := TX10) (N := 12) hx hb hts inX10 hown hK hP 0 rfl rfl 0 (by decide) (hts _ tw_283) (fun _ h9 => h9) rfl dX10_type_52 ?_
              refine lv_iload_n hx hb dX10_type_55 rfl (lv_at hl 1 rfl) ?_
              refine kaald hx hb hK hP 1 3 rfl rfl (k := 1) (by rw [hs_1]; rfl) rfl (by decide) dX10_type_56 ?_
              obtain ⟨v57, hc57, hf⟩ := cb1_some hf
              refine kcRV (q0 := 4) (ci := 8) (As := []) (rest := []) (st1 := [.int v57]) C (c_Te_size l D ct a_texts1 a_texts1_bytes f_texts1_size_43 v57 hc57) ⟨rfl, rfl⟩ yn_yX8_size tw_348 tw_349 tw_347 ⟨Nat.le_of_ble_eq_true rfl, Nat.le_of_ble_eq_true rfl⟩ ⟨Nat.zero_le _, Nat.zero_le _⟩ hP [4] rfl rfl rfl rfl hl.1 rfl rfl (Nat.le_of_ble_eq_true rfl) dX10_type_57 rfl ?_
              obtain ⟨e1, e2, e3, e4, e5, e6, e7, e8, e9, e10⟩ := ti10 hf
              subst e1; subst e2; subst e3; subst e4; subst e5; subst e6; subst e7; subst e8; subst e9; subst e10
              exact kretM C hP hD hS dX10_type_60
            · have hf := kneg hc hf
              refine lv_bipush (v := (-4)) hx hb dX10_type_33 (by decide) ?_
              obtain ⟨e1, e2, e3, e4, e5, e6, e7, e8, e9, e10⟩ := ti10 hf
              subst e1; subst e2; subst e3; subst e4; subst e5; subst e6; subst e7; subst e8; subst e9; subst e10
              exact kretM C hP hD hS dX10_type_35
          · have hf := kneg hs_1 hf
            by_cases hs_1 : x1 = 2
            · have hf := kpos hs_1 hf
              refine kaald hx hb hK hP 1 3 rfl rfl (k := 2) (by rw [hs_1]; rfl) rfl (by decide) dX10_type_26 ?_
              obtain ⟨v27, hc27, hf⟩ := cb1_some hf
              refine kcRV (q0 := 6) (ci := 8) (As := []) (rest := []) (st1 := [.int v27]) C (c_Te_isFull l D ct a_texts2 a_texts2_bytes 6 f_texts2_bytes f_texts2_size v27 hc27) ⟨rfl, rfl⟩ yn_yX8_isFull tw_328 tw_329 tw_327 ⟨Nat.le_of_ble_eq_true rfl, Nat.le_of_ble_eq_true rfl⟩ ⟨Nat.zero_le _, Nat.zero_le _⟩ hP [6, 7] rfl rfl rfl rfl hl.1 rfl rfl (Nat.le_of_ble_eq_true rfl) dX10_type_27 rfl ?_
              refine lv_if_eq (tgt := 36) hx hb dX10_type_30 (by decide) (fun hc => ?_) (fun hc => ?_)
              · have hf := kpos hc hf
                refine lv_aload_n hx hb dX10_type_36 rfl (lv_at hl 0 rfl) ?_
                refine va_get (ci := 10) (v := .ref a_texts) (C := RX10) (T := TX10) (N := 12) hx hb hts inX10 hown hK hP 0 rfl rfl 0 (by decide) (hts _ tw_283) (fun _ h9 => h9) rfl dX10_type_37 ?_
                refine lv_iload_n hx hb dX10_type_40 rfl (lv_at hl 1 rfl) ?_
                refine kaald hx hb hK hP 1 3 rfl rfl (k := 2) (by rw [hs_1]; rfl) rfl (by decide) dX10_type_41 ?_
                refine lv_iload_n hx hb dX10_type_42 rfl (lv_at hl 2 rfl) ?_
                obtain ⟨f_texts2_size_43, f_texts2_bytes_43, hc43, hf⟩ := cb2_some hf
                refine kcMV (q0 := 6) (ci := 8) (As := [.int x2]) (rest := []) (st1 := []) (wf := (w_ND_type ct a_this a_texts a_names a_pieces a_song a_fitting a_deal a_guesses a_wise a_spy a_sheets a_texts0 a_texts1 a_texts2 a_texts0_bytes a_texts1_bytes a_texts2_bytes a_wise_least a_spy_nights f_stale f_finding f_texts0_size f_texts0_bytes f_texts1_size f_texts1_bytes f_texts2_size_43 f_texts2_bytes_43 f_wise_stale f_spy_stale f_spy_settled)) C (c_Te_append l D ct a_texts2 a_texts2_bytes 6 f_texts2_size f_texts2_bytes x2 f_texts2_size_43 f_texts2_bytes_43 _ hc43) ⟨rfl, rfl⟩ yn_yX8_append tw_332 tw_333 tw_331 ⟨Nat.le_of_ble_eq_true rfl, Nat.le_of_ble_eq_true rfl⟩ ⟨Nat.zero_le _, Nat.zero_le _⟩ hP hD hS hA [6, 7] [0, 1, 2, 3, 4, 5, 8, 9] [0, 1, 2, 3, 4, 5, 8, 9, 6, 7] rfl rfl rfl rfl rfl (by decide) rfl rfl rfl rfl rfl rfl hl.1 rfl rfl (Nat.le_of_ble_eq_true rfl) dX10_type_43 rfl (fun H locs hP hD hS => ?_)
                refine lv_aload_n hx hb dX10_type_46 rfl (lv_at hl 0 rfl) ?_
                refine lv_iload_n hx hb dX10_type_47 rfl (lv_at hl 1 rfl) ?_
                obtain ⟨f_stale_48, f_wise_stale_48, f_spy_stale_48, hc48, hf⟩ := cb3_some hf
                refine kcMV (q0 := 0) (ci := 10) (As := [.int x1]) (rest := []) (st1 := []) (wf := (w_ND_type ct a_this a_texts a_names a_pieces a_song a_fitting a_deal a_guesses a_wise a_spy a_sheets a_texts0 a_texts1 a_texts2 a_texts0_bytes a_texts1_bytes a_texts2_bytes a_wise_least a_spy_nights f_stale_48 f_finding f_texts0_size f_texts0_bytes f_texts1_size f_texts1_bytes f_texts2_size_43 f_texts2_bytes_43 f_wise_stale_48 f_spy_stale_48 f_spy_settled)) C (c_ND_forget l D ct a_this a_texts a_names a_pieces a_song a_fitting a_deal a_guesses a_wise a_spy a_sheets a_wise_least a_spy_nights f_finding f_spy_settled f_stale f_wise_stale f_spy_stale x1 f_stale_48 f_wise_stale_48 f_spy_stale_48 _ hc48) ⟨rfl, rfl⟩ yn_yX10_forget tw_337 tw_0 tw_335 ⟨Nat.le_of_ble_eq_true rfl, Nat.le_of_ble_eq_true rfl⟩ ⟨Nat.zero_le _, Nat.zero_le _⟩ hP hD hS hA [0, 8, 9] [1, 2, 3, 4, 5, 6, 7] [7, 0, 1, 2, 3, 4, 5, 6, 8, 9] rfl rfl rfl rfl rfl (by decide) rfl rfl rfl rfl rfl rfl hl.1 rfl rfl (Nat.le_of_ble_eq_true rfl) dX10_type_48 rfl (fun H locs hP hD hS => ?_)
                refine lv_aload_n hx hb dX10_type_51 rfl (lv_at hl 0 rfl) ?_
                refine va_get (ci := 10) (v := .ref a_texts) (C := RX10) (T := TX10) (N := 12) hx hb hts inX10 hown hK hP 0 rfl rfl 0 (by decide) (hts _ tw_283) (fun _ h9 => h9) rfl dX10_type_52 ?_
                refine lv_iload_n hx hb dX10_type_55 rfl (lv_at hl 1 rfl) ?_
                refine kaald hx hb hK hP 1 3 rfl rfl (k := 2) (by rw [hs_1]; rfl) rfl (by decide) dX10_type_56 ?_
                obtain ⟨v57, hc57, hf⟩ := cb1_some hf
                refine kcRV (q0 := 6) (ci := 8) (As := []) (rest := []) (st1 := [.int v57]) C (c_Te_size l D ct a_texts2 a_texts2_bytes f_texts2_size_43 v57 hc57) ⟨rfl, rfl⟩ yn_yX8_size tw_348 tw_349 tw_347 ⟨Nat.le_of_ble_eq_true rfl, Nat.le_of_ble_eq_true rfl⟩ ⟨Nat.zero_le _, Nat.zero_le _⟩ hP [6] rfl rfl rfl rfl hl.1 rfl rfl (Nat.le_of_ble_eq_true rfl) dX10_type_57 rfl ?_
                obtain ⟨e1, e2, e3, e4, e5, e6, e7, e8, e9, e10⟩ := ti10 hf
                subst e1; subst e2; subst e3; subst e4; subst e5; subst e6; subst e7; subst e8; subst e9; subst e10
                exact kretM C hP hD hS dX10_type_60
              · have hf := kneg hc hf
                refine lv_bipush (v := (-4)) hx hb dX10_type_33 (by decide) ?_
                obtain ⟨e1, e2, e3, e4, e5, e6, e7, e8, e9, e10⟩ := ti10 hf
                subst e1; subst e2; subst e3; subst e4; subst e5; subst e6; subst e7; subst e8; subst e9; subst e10
                exact kretM C hP hD hS dX10_type_35
            · have hf := kneg hs_1 hf
              cases hf
      · have hf := kneg hc hf
        refine lv_bipush (v := (-2)) hx hb dX10_type_18 (by decide) ?_
        obtain ⟨e1, e2, e3, e4, e5, e6, e7, e8, e9, e10⟩ := ti10 hf
        subst e1; subst e2; subst e3; subst e4; subst e5; subst e6; subst e7; subst e8; subst e9; subst e10
        exact kretM C hP hD hS dX10_type_20
def RM_Te_empty : Room := { frames := 0, cells := 0, slots := 0, locals := 0 }
set_option maxHeartbeats 4000000 in
set_option maxRecDepth 100000 in
theorem c_Te_empty (l : Launch) (D : va_G) (ct : Nat → ClassId) (a_this a_bytes : Nat) (f_size : Int32) (r_size : Int32) (sz : Nat) (hf : Te_empty f_size = some r_size) : Met l yX8_empty (WS yX8_empty cX8_empty 1 none) RM_Te_empty (va_Pc [.ref a_this] (PM D ct sz (w_Te_empty ct a_this a_bytes f_size))) (QM D none (w_Te_empty ct a_this a_bytes r_size) (va_A (w_Te_empty ct a_this a_bytes f_size) sz)) 0 0 (va_A (w_Te_empty ct a_this a_bytes f_size) sz) := by
  refine kMetM yn_yX8_empty rfl (Nat.le_of_ble_eq_true rfl) ?_
  intro p e s m args below meth c A C hA hP hD ls hl
  have hl : lv_has ls 1 [(0, .ref a_this)] := hl
  have hS : va_S A s.heap s.heap [] := va_S.rf
  obtain ⟨hx, hb, hr, hml, hown, hts, hlk, hK, hN⟩ := id C
  unfold Te_empty at hf
  refine lv_aload_n hx hb dX8_empty_0 rfl (lv_at hl 0 rfl) ?_
  refine lv_iconst (v := 0) hx hb dX8_empty_1 (by decide) ?_
  refine va_put (ci := 8) (v := .int 0) (ty := .int) (C := RX8) (T := TX8) (N := 2) hx hb hts inX8 tyX8 tyX8_ok nmX8 hown hK hP hD hS 0 rfl rfl 1 (by decide) (hts _ tw_106) (fun _ h9 => h9) rfl (tyX8_ok 1 (by decide)) rfl rfl (Nat.le_of_ble_eq_true rfl) dX8_empty_2 (fun H locs hP hD hS => ?_)
  have hP : va_P D vwCl (w_Te_empty ct a_this a_bytes 0) H := hP
  have hD : va_D A (w_Te_empty ct a_this a_bytes 0) := hD
  have e1 := Option.some.inj hf
  subst e1
  exact kretMv C hP hD hS dX8_empty_5
def RM_ND_wipe : Room := { frames := 2, cells := 0, slots := 0, locals := 41 }
set_option maxHeartbeats 4000000 in
set_option maxRecDepth 100000 in
theorem c_ND_wipe (l : Launch) (D : va_G) (ct : Nat → ClassId) (a_this a_texts a_names a_pieces a_song a_fitting a_deal a_guesses a_wise a_spy a_sheets a_texts0 a_texts1 a_texts2 a_texts0_bytes a_texts1_bytes a_texts2_bytes a_wise_least a_spy_nights : Nat) (f_finding : Int32) (f_spy_settled : Int32) (f_stale : Int32) (f_texts0_size : Int32) (f_texts1_size : Int32) (f_texts2_size : Int32) (f_wise_stale : Int32) (f_spy_stale : Int32) (x1 : Int32) (r : Int32) (r_stale : Int32) (r_texts0_size : Int32) (r_texts1_size : Int32) (r_texts2_size : Int32) (r_wise_stale : Int32) (r_spy_stale : Int32) (sz : Nat) (hf : ND_wipe f_stale f_texts0_size f_texts1_size f_texts2_size f_wise_stale f_spy_stale x1 = some (r, r_stale, r_texts0_size, r_texts1_size, r_texts2_size, r_wise_stale, r_spy_stale)) : Met l yX10_wipe (WS yX10_wipe cX10_wipe 3 (some .int)) RM_ND_wipe (va_Pc [.ref a_this, .int x1] (PM D ct sz (w_ND_wipe ct a_this a_texts a_names a_pieces a_song a_fitting a_deal a_guesses a_wise a_spy a_sheets a_texts0 a_texts1 a_texts2 a_texts0_bytes a_texts1_bytes a_texts2_bytes a_wise_least a_spy_nights f_stale f_finding f_texts0_size f_texts1_size f_texts2_size f_wise_stale f_spy_stale f_spy_settled))) (QM D (some (.int r)) (w_ND_wipe ct a_this a_texts a_names a_pieces a_song a_fitting a_deal a_guesses a_wise a_spy a_sheets a_texts0 a_texts1 a_texts2 a_texts0_bytes a_texts1_bytes a_texts2_bytes a_wise_least a_spy_nights r_stale f_finding r_texts0_size r_texts1_size r_texts2_size r_wise_stale r_spy_stale f_spy_settled) (va_A (w_ND_wipe ct a_this a_texts a_names a_pieces a_song a_fitting a_deal a_guesses a_wise a_spy a_sheets a_texts0 a_texts1 a_texts2 a_texts0_bytes a_texts1_bytes a_texts2_bytes a_wise_least a_spy_nights f_stale f_finding f_texts0_size f_texts1_size f_texts2_size f_wise_stale f_spy_stale f_spy_settled) sz)) 0 0 (va_A (w_ND_wipe ct a_this a_texts a_names a_pieces a_song a_fitting a_deal a_guesses a_wise a_spy a_sheets a_texts0 a_texts1 a_texts2 a_texts0_bytes a_texts1_bytes a_texts2_bytes a_wise_least a_spy_nights f_stale f_finding f_texts0_size f_texts1_size f_texts2_size f_wise_stale f_spy_stale f_spy_settled) sz) := by
  refine kMetM yn_yX10_wipe rfl (Nat.le_of_ble_eq_true rfl) ?_
  intro p e s m args below meth c A C hA hP hD ls hl
  have hl : lv_has ls 3 [(0, .ref a_this), (1, .int x1)] := hl
  have hS : va_S A s.heap s.heap [] := va_S.rf
  obtain ⟨hx, hb, hr, hml, hown, hts, hlk, hK, hN⟩ := id C
  unfold ND_wipe at hf
  refine lv_iload_n hx hb dX10_wipe_0 rfl (lv_at hl 1 rfl) ?_
  obtain ⟨v1, hc1, hf⟩ := cb1_some hf
  refine kcRS (As := [.int x1]) (rest := []) (st1 := [.int v1]) C (c_ND_isText l D ct x1 v1 hc1) ⟨rfl, rfl⟩ yn_yX10_isText tw_325 tw_324 ⟨Nat.le_of_ble_eq_true rfl, Nat.le_of_ble_eq_true rfl⟩ ⟨Nat.zero_le _, Nat.zero_le _⟩ hP [] rfl hl.1 rfl rfl (Nat.le_of_ble_eq_true rfl) dX10_wipe_1 rfl ?_
  refine lv_if_ne (tgt := 10) hx hb dX10_wipe_4 (by decide) (fun hc => ?_) (fun hc => ?_)
  · have hf := kneg hc hf
    refine lv_aload_n hx hb dX10_wipe_10 rfl (lv_at hl 0 rfl) ?_
    refine va_get (ci := 10) (v := .ref a_texts) (C := RX10) (T := TX10) (N := 12) hx hb hts inX10 hown hK hP 0 rfl rfl 0 (by decide) (hts _ tw_283) (fun _ h9 => h9) rfl dX10_wipe_11 ?_
    refine lv_iload_n hx hb dX10_wipe_14 rfl (lv_at hl 1 rfl) ?_
    by_cases hs_1 : x1 = 0
    · have hf := kpos hs_1 hf
      refine kaald hx hb hK hP 1 3 rfl rfl (k := 0) (by rw [hs_1]; rfl) rfl (by decide) dX10_wipe_15 ?_
      obtain ⟨v16, hc16, hf⟩ := cb1_some hf
      refine kcRV (q0 := 2) (ci := 8) (As := []) (rest := []) (st1 := [.int v16]) C (c_Te_size l D ct a_texts0 a_texts0_bytes f_texts0_size v16 hc16) ⟨rfl, rfl⟩ yn_yX8_size tw_348 tw_349 tw_347 ⟨Nat.le_of_ble_eq_true rfl, Nat.le_of_ble_eq_true rfl⟩ ⟨Nat.zero_le _, Nat.zero_le _⟩ hP [2] rfl rfl rfl rfl hl.1 rfl rfl (Nat.le_of_ble_eq_true rfl) dX10_wipe_16 rfl ?_
      refine lv_istore_n (lv' := [(2, .int v16), (0, .ref a_this), (1, .int x1)]) hx hb dX10_wipe_19 rfl hl (by decide) rfl (fun ls hl => ?_)
      refine lv_aload_n hx hb dX10_wipe_20 rfl (lv_at hl 1 rfl) ?_
      refine va_get (ci := 10) (v := .ref a_texts) (C := RX10) (T := TX10) (N := 12) hx hb hts inX10 hown hK hP 0 rfl rfl 0 (by decide) (hts _ tw_283) (fun _ h9 => h9) rfl dX10_wipe_21 ?_
      refine lv_iload_n hx hb dX10_wipe_24 rfl (lv_at hl 2 rfl) ?_
      refine kaald hx hb hK hP 1 3 rfl rfl (k := 0) (by rw [hs_1]; rfl) rfl (by decide) dX10_wipe_25 ?_
      obtain ⟨f_texts0_size_26, hc26, hf⟩ := cb1_some hf
      refine kcMV (q0 := 2) (ci := 8) (As := []) (rest := []) (st1 := []) (wf := (w_ND_wipe ct a_this a_texts a_names a_pieces a_song a_fitting a_deal a_guesses a_wise a_spy a_sheets a_texts0 a_texts1 a_texts2 a_texts0_bytes a_texts1_bytes a_texts2_bytes a_wise_least a_spy_nights f_stale f_finding f_texts0_size_26 f_texts1_size f_texts2_size f_wise_stale f_spy_stale f_spy_settled)) C (c_Te_empty l D ct a_texts0 a_texts0_bytes f_texts0_size f_texts0_size_26 _ hc26) ⟨rfl, rfl⟩ yn_yX8_empty tw_356 tw_357 tw_355 ⟨Nat.le_of_ble_eq_true rfl, Nat.le_of_ble_eq_true rfl⟩ ⟨Nat.zero_le _, Nat.zero_le _⟩ hP hD hS hA [2] [0, 1, 3, 4, 5, 6] [0, 1, 6, 2, 3, 4, 5] rfl rfl rfl rfl rfl (by decide) rfl rfl rfl rfl rfl rfl hl.1 rfl rfl (Nat.le_of_ble_eq_true rfl) dX10_wipe_26 rfl (fun H locs hP hD hS => ?_)
      refine lv_aload_n hx hb dX10_wipe_29 rfl (lv_at hl 1 rfl) ?_
      refine lv_iload_n hx hb dX10_wipe_30 rfl (lv_at hl 2 rfl) ?_
      obtain ⟨f_stale_31, f_wise_stale_31, f_spy_stale_31, hc31, hf⟩ := cb3_some hf
      refine kcMV (q0 := 0) (ci := 10) (As := [.int x1]) (rest := []) (st1 := []) (wf := (w_ND_wipe ct a_this a_texts a_names a_pieces a_song a_fitting a_deal a_guesses a_wise a_spy a_sheets a_texts0 a_texts1 a_texts2 a_texts0_bytes a_texts1_bytes a_texts2_bytes a_wise_least a_spy_nights f_stale_31 f_finding f_texts0_size_26 f_texts1_size f_texts2_size f_wise_stale_31 f_spy_stale_31 f_spy_settled)) C (c_ND_forget l D ct a_this a_texts a_names a_pieces a_song a_fitting a_deal a_guesses a_wise a_spy a_sheets a_wise_least a_spy_nights f_finding f_spy_settled f_stale f_wise_stale f_spy_stale x1 f_stale_31 f_wise_stale_31 f_spy_stale_31 _ hc31) ⟨rfl, rfl⟩ yn_yX10_forget tw_337 tw_0 tw_335 ⟨Nat.le_of_ble_eq_true rfl, Nat.le_of_ble_eq_true rfl⟩ ⟨Nat.zero_le _, Nat.zero_le _⟩ hP hD hS hA [0, 5, 6] [1, 2, 3, 4] [4, 0, 1, 2, 3, 5, 6] rfl rfl rfl rfl rfl (by decide) rfl rfl rfl rfl rfl rfl hl.1 rfl rfl (Nat.le_of_ble_eq_true rfl) dX10_wipe_31 rfl (fun H locs hP hD hS => ?_)
      refine lv_iload_n hx hb dX10_wipe_34 rfl (lv_at hl 0 rfl) ?_
      obtain ⟨e1, e2, e3, e4, e5, e6, e7⟩ := ti7 hf
      subst e1; subst e2; subst e3; subst e4; subst e5; subst e6; subst e7
      exact kretM C hP hD hS dX10_wipe_35
    · have hf := kneg hs_1 hf
      by_cases hs_1 : x1 = 1
      · have hf := kpos hs_1 hf
        refine kaald hx hb hK hP 1 3 rfl rfl (k := 1) (by rw [hs_1]; rfl) rfl (by decide) dX10_wipe_15 ?_
        obtain ⟨v16, hc16, hf⟩ := cb1_some hf
        refine kcRV (q0 := 3) (ci := 8) (As := []) (rest := []) (st1 := [.int v16]) C (c_Te_size l D ct a_texts1 a_texts1_bytes f_texts1_size v16 hc16) ⟨rfl, rfl⟩ yn_yX8_size tw_348 tw_349 tw_347 ⟨Nat.le_of_ble_eq_true rfl, Nat.le_of_ble_eq_true rfl⟩ ⟨Nat.zero_le _, Nat.zero_le _⟩ hP [3] rfl rfl rfl rfl hl.1 rfl rfl (Nat.le_of_ble_eq_true rfl) dX10_wipe_16 rfl ?_
        refine lv_istore_n (lv' := [(2, .int v16), (0, .ref a_this), (1, .int x1)]) hx hb dX10_wipe_19 rfl hl (by decide) rfl (fun ls hl => ?_)
        refine lv_aload_n hx hb dX10_wipe_20 rfl (lv_at hl 1 rfl) ?_
        refine va_get (ci := 10) (v := .ref a_texts) (C := RX10) (T := TX10) (N := 12) hx hb hts inX10 hown hK hP 0 rfl rfl 0 (by decide) (hts _ tw_283) (fun _ h9 => h9) rfl dX10_wipe_21 ?_
        refine lv_iload_n hx hb dX10_wipe_24 rfl (lv_at hl 2 rfl) ?_
        refine kaald hx hb hK hP 1 3 rfl rfl (k := 1) (by rw [hs_1]; rfl) rfl (by decide) dX10_wipe_25 ?_
        obtain ⟨f_texts1_size_26, hc26, hf⟩ := cb1_some hf
        refine kcMV (q0 := 3) (ci := 8) (As := []) (rest := []) (st1 := []) (wf := (w_ND_wipe ct a_this a_texts a_names a_pieces a_song a_fitting a_deal a_guesses a_wise a_spy a_sheets a_texts0 a_texts1 a_texts2 a_texts0_bytes a_texts1_bytes a_texts2_bytes a_wise_least a_spy_nights f_stale f_finding f_texts0_size f_texts1_size_26 f_texts2_size f_wise_stale f_spy_stale f_spy_settled)) C (c_Te_empty l D ct a_texts1 a_texts1_bytes f_texts1_size f_texts1_size_26 _ hc26) ⟨rfl, rfl⟩ yn_yX8_empty tw_356 tw_357 tw_355 ⟨Nat.le_of_ble_eq_true rfl, Nat.le_of_ble_eq_true rfl⟩ ⟨Nat.zero_le _, Nat.zero_le _⟩ hP hD hS hA [3] [0, 1, 2, 4, 5, 6] [0, 1, 2, 6, 3, 4, 5] rfl rfl rfl rfl rfl (by decide) rfl rfl rfl rfl rfl rfl hl.1 rfl rfl (Nat.le_of_ble_eq_true rfl) dX10_wipe_26 rfl (fun H locs hP hD hS => ?_)
        refine lv_aload_n hx hb dX10_wipe_29 rfl (lv_at hl 1 rfl) ?_
        refine lv_iload_n hx hb dX10_wipe_30 rfl (lv_at hl 2 rfl) ?_
        obtain ⟨f_stale_31, f_wise_stale_31, f_spy_stale_31, hc31, hf⟩ := cb3_some hf
        refine kcMV (q0 := 0) (ci := 10) (As := [.int x1]) (rest := []) (st1 := []) (wf := (w_ND_wipe ct a_this a_texts a_names a_pieces a_song a_fitting a_deal a_guesses a_wise a_spy a_sheets a_texts0 a_texts1 a_texts2 a_texts0_bytes a_texts1_bytes a_texts2_bytes a_wise_least a_spy_nights f_stale_31 f_finding f_texts0_size f_texts1_size_26 f_texts2_size f_wise_stale_31 f_spy_stale_31 f_spy_settled)) C (c_ND_forget l D ct a_this a_texts a_names a_pieces a_song a_fitting a_deal a_guesses a_wise a_spy a_sheets a_wise_least a_spy_nights f_finding f_spy_settled f_stale f_wise_stale f_spy_stale x1 f_stale_31 f_wise_stale_31 f_spy_stale_31 _ hc31) ⟨rfl, rfl⟩ yn_yX10_forget tw_337 tw_0 tw_335 ⟨Nat.le_of_ble_eq_true rfl, Nat.le_of_ble_eq_true rfl⟩ ⟨Nat.zero_le _, Nat.zero_le _⟩ hP hD hS hA [0, 5, 6] [1, 2, 3, 4] [4, 0, 1, 2, 3, 5, 6] rfl rfl rfl rfl rfl (by decide) rfl rfl rfl rfl rfl rfl hl.1 rfl rfl (Nat.le_of_ble_eq_true rfl) dX10_wipe_31 rfl (fun H locs hP hD hS => ?_)
        refine lv_iload_n hx hb dX10_wipe_34 rfl (lv_at hl 0 rfl) ?_
        obtain ⟨e1, e2, e3, e4, e5, e6, e7⟩ := ti7 hf
        subst e1; subst e2; subst e3; subst e4; subst e5; subst e6; subst e7
        exact kretM C hP hD hS dX10_wipe_35
      · have hf := kneg hs_1 hf
        by_cases hs_1 : x1 = 2
        · have hf := kpos hs_1 hf
          refine kaald hx hb hK hP 1 3 rfl rfl (k := 2) (by rw [hs_1]; rfl) rfl (by decide) dX10_wipe_15 ?_
          obtain ⟨v16, hc16, hf⟩ := cb1_some hf
          refine kcRV (q0 := 4) (ci := 8) (As := []) (rest := []) (st1 := [.int v16]) C (c_Te_size l D ct a_texts2 a_texts2_bytes f_texts2_size v16 hc16) ⟨rfl, rfl⟩ yn_yX8_size tw_348 tw_349 tw_347 ⟨Nat.le_of_ble_eq_true rfl, Nat.le_of_ble_eq_true rfl⟩ ⟨Nat.zero_le _, Nat.zero_le _⟩ hP [4] rfl rfl rfl rfl hl.1 rfl rfl (Nat.le_of_ble_eq_true rfl) dX10_wipe_16 rfl ?_
          refine lv_istore_n (lv' := [(2, .int v16), (0, .ref a_this), (1, .int x1)]) hx hb dX10_wipe_19 rfl hl (by decide) rfl (fun ls hl => ?_)
          refine lv_aload_n hx hb dX10_wipe_20 rfl (lv_at hl 1 rfl) ?_
          refine va_get (ci := 10) (v := .ref a_texts) (C := RX10) (T := TX10) (N := 12) hx hb hts inX10 hown hK hP 0 rfl rfl 0 (by decide) (hts _ tw_283) (fun _ h9 => h9) rfl dX10_wipe_21 ?_
          refine lv_iload_n hx hb dX10_wipe_24 rfl (lv_at hl 2 rfl) ?_
          refine kaald hx hb hK hP 1 3 rfl rfl (k := 2) (by rw [hs_1]; rfl) rfl (by decide) dX10_wipe_25 ?_
          obtain ⟨f_texts2_size_26, hc26, hf⟩ := cb1_some hf
          refine kcMV (q0 := 4) (ci := 8) (As := []) (rest := []) (st1 := []) (wf := (w_ND_wipe ct a_this a_texts a_names a_pieces a_song a_fitting a_deal a_guesses a_wise a_spy a_sheets a_texts0 a_texts1 a_texts2 a_texts0_bytes a_texts1_bytes a_texts2_bytes a_wise_least a_spy_nights f_stale f_finding f_texts0_size f_texts1_size f_texts2_size_26 f_wise_stale f_spy_stale f_spy_settled)) C (c_Te_empty l D ct a_texts2 a_texts2_bytes f_texts2_size f_texts2_size_26 _ hc26) ⟨rfl, rfl⟩ yn_yX8_empty tw_356 tw_357 tw_355 ⟨Nat.le_of_ble_eq_true rfl, Nat.le_of_ble_eq_true rfl⟩ ⟨Nat.zero_le _, Nat.zero_le _⟩ hP hD hS hA [4] [0, 1, 2, 3, 5, 6] [0, 1, 2, 3, 6, 4, 5] rfl rfl rfl rfl rfl (by decide) rfl rfl rfl rfl rfl rfl hl.1 rfl rfl (Nat.le_of_ble_eq_true rfl) dX10_wipe_26 rfl (fun H locs hP hD hS => ?_)
          refine lv_aload_n hx hb dX10_wipe_29 rfl (lv_at hl 1 rfl) ?_
          refine lv_iload_n hx hb dX10_wipe_30 rfl (lv_at hl 2 rfl) ?_
          obtain ⟨f_stale_31, f_wise_stale_31, f_spy_stale_31, hc31, hf⟩ := cb3_some hf
          refine kcMV (q0 := 0) (ci := 10) (As := [.int x1]) (rest := []) (st1 := []) (wf := (w_ND_wipe ct a_this a_texts a_names a_pieces a_song a_fitting a_deal a_guesses a_wise a_spy a_sheets a_texts0 a_texts1 a_texts2 a_texts0_bytes a_texts1_bytes a_texts2_bytes a_wise_least a_spy_nights f_stale_31 f_finding f_texts0_size f_texts1_size f_texts2_size_26 f_wise_stale_31 f_spy_stale_31 f_spy_settled)) C (c_ND_forget l D ct a_this a_texts a_names a_pieces a_song a_fitting a_deal a_guesses a_wise a_spy a_sheets a_wise_least a_spy_nights f_finding f_spy_settled f_stale f_wise_stale f_spy_stale x1 f_stale_31 f_wise_stale_31 f_spy_stale_31 _ hc31) ⟨rfl, rfl⟩ yn_yX10_forget tw_337 tw_0 tw_335 ⟨Nat.le_of_ble_eq_true rfl, Nat.le_of_ble_eq_true rfl⟩ ⟨Nat.zero_le _, Nat.zero_le _⟩ hP hD hS hA [0, 5, 6] [1, 2, 3, 4] [4, 0, 1, 2, 3, 5, 6] rfl rfl rfl rfl rfl (by decide) rfl rfl rfl rfl rfl rfl hl.1 rfl rfl (Nat.le_of_ble_eq_true rfl) dX10_wipe_31 rfl (fun H locs hP hD hS => ?_)
          refine lv_iload_n hx hb dX10_wipe_34 rfl (lv_at hl 0 rfl) ?_
          obtain ⟨e1, e2, e3, e4, e5, e6, e7⟩ := ti7 hf
          subst e1; subst e2; subst e3; subst e4; subst e5; subst e6; subst e7
          exact kretM C hP hD hS dX10_wipe_35
        · have hf := kneg hs_1 hf
          cases hf
  · have hf := kpos hc hf
    refine lv_bipush (v := (-2)) hx hb dX10_wipe_7 (by decide) ?_
    obtain ⟨e1, e2, e3, e4, e5, e6, e7⟩ := ti7 hf
    subst e1; subst e2; subst e3; subst e4; subst e5; subst e6; subst e7
    exact kretM C hP hD hS dX10_wipe_9
def RM_Te_dropLast : Room := { frames := 0, cells := 0, slots := 0, locals := 0 }
set_option maxHeartbeats 4000000 in
set_option maxRecDepth 100000 in
theorem c_Te_dropLast (l : Launch) (D : va_G) (ct : Nat → ClassId) (a_this a_bytes : Nat) (f_size : Int32) (r_size : Int32) (sz : Nat) (hf : Te_dropLast f_size = some r_size) : Met l yX8_dropLast (WS yX8_dropLast cX8_dropLast 1 none) RM_Te_dropLast (va_Pc [.ref a_this] (PM D ct sz (w_Te_dropLast ct a_this a_bytes f_size))) (QM D none (w_Te_dropLast ct a_this a_bytes r_size) (va_A (w_Te_dropLast ct a_this a_bytes f_size) sz)) 0 0 (va_A (w_Te_dropLast ct a_this a_bytes f_size) sz) := by
  refine kMetM yn_yX8_dropLast rfl (Nat.le_of_ble_eq_true rfl) ?_
  intro p e s m args below meth c A C hA hP hD ls hl
  have hl : lv_has ls 1 [(0, .ref a_this)] := hl
  have hS : va_S A s.heap s.heap [] := va_S.rf
  obtain ⟨hx, hb, hr, hml, hown, hts, hlk, hK, hN⟩ := id C
  unfold Te_dropLast at hf
  refine lv_aload_n hx hb dX8_dropLast_0 rfl (lv_at hl 0 rfl) ?_
  refine va_get (ci := 8) (v := .int f_size) (C := RX8) (T := TX8) (N := 2) hx hb hts inX8 hown hK hP 0 rfl rfl 1 (by decide) (hts _ tw_106) (fun _ h9 => h9) rfl dX8_dropLast_1 ?_
  refine lv_if_le (tgt := 17) hx hb dX8_dropLast_4 (by decide) (fun hc => ?_) (fun hc => ?_)
  · have hf := kpos hc hf
    have e1 := Option.some.inj hf
    subst e1
    exact kretMv C hP hD hS dX8_dropLast_17
  · have hf := kneg hc hf
    refine lv_aload_n hx hb dX8_dropLast_7 rfl (lv_at hl 0 rfl) ?_
    refine lv_dup hx hb dX8_dropLast_8 rfl ?_
    refine va_get (ci := 8) (v := .int f_size) (C := RX8) (T := TX8) (N := 2) hx hb hts inX8 hown hK hP 0 rfl rfl 1 (by decide) (hts _ tw_106) (fun _ h9 => h9) rfl dX8_dropLast_9 ?_
    refine lv_iconst (v := 1) hx hb dX8_dropLast_12 (by decide) ?_
    refine lv_isub hx hb dX8_dropLast_13 ?_
    refine va_put (ci := 8) (v := .int (f_size - 1)) (ty := .int) (C := RX8) (T := TX8) (N := 2) hx hb hts inX8 tyX8 tyX8_ok nmX8 hown hK hP hD hS 0 rfl rfl 1 (by decide) (hts _ tw_106) (fun _ h9 => h9) rfl (tyX8_ok 1 (by decide)) rfl rfl (Nat.le_of_ble_eq_true rfl) dX8_dropLast_14 (fun H locs hP hD hS => ?_)
    have hP : va_P D vwCl (w_Te_dropLast ct a_this a_bytes (f_size - 1)) H := hP
    have hD : va_D A (w_Te_dropLast ct a_this a_bytes (f_size - 1)) := hD
    have e1 := Option.some.inj hf
    subst e1
    exact kretMv C hP hD hS dX8_dropLast_17
def RM_ND_undo : Room := { frames := 2, cells := 0, slots := 0, locals := 41 }
set_option maxHeartbeats 4000000 in
set_option maxRecDepth 100000 in
theorem c_ND_undo (l : Launch) (D : va_G) (ct : Nat → ClassId) (a_this a_texts a_names a_pieces a_song a_fitting a_deal a_guesses a_wise a_spy a_sheets a_texts0 a_texts1 a_texts2 a_texts0_bytes a_texts1_bytes a_texts2_bytes a_wise_least a_spy_nights : Nat) (f_finding : Int32) (f_spy_settled : Int32) (f_stale : Int32) (f_texts0_size : Int32) (f_texts1_size : Int32) (f_texts2_size : Int32) (f_wise_stale : Int32) (f_spy_stale : Int32) (x1 : Int32) (r : Int32) (r_stale : Int32) (r_texts0_size : Int32) (r_texts1_size : Int32) (r_texts2_size : Int32) (r_wise_stale : Int32) (r_spy_stale : Int32) (sz : Nat) (hf : ND_undo f_stale f_texts0_size f_texts1_size f_texts2_size f_wise_stale f_spy_stale x1 = some (r, r_stale, r_texts0_size, r_texts1_size, r_texts2_size, r_wise_stale, r_spy_stale)) : Met l yX10_undo (WS yX10_undo cX10_undo 2 (some .int)) RM_ND_undo (va_Pc [.ref a_this, .int x1] (PM D ct sz (w_ND_undo ct a_this a_texts a_names a_pieces a_song a_fitting a_deal a_guesses a_wise a_spy a_sheets a_texts0 a_texts1 a_texts2 a_texts0_bytes a_texts1_bytes a_texts2_bytes a_wise_least a_spy_nights f_stale f_finding f_texts0_size f_texts1_size f_texts2_size f_wise_stale f_spy_stale f_spy_settled))) (QM D (some (.int r)) (w_ND_undo ct a_this a_texts a_names a_pieces a_song a_fitting a_deal a_guesses a_wise a_spy a_sheets a_texts0 a_texts1 a_texts2 a_texts0_bytes a_texts1_bytes a_texts2_bytes a_wise_least a_spy_nights r_stale f_finding r_texts0_size r_texts1_size r_texts2_size r_wise_stale r_spy_stale f_spy_settled) (va_A (w_ND_undo ct a_this a_texts a_names a_pieces a_song a_fitting a_deal a_guesses a_wise a_spy a_sheets a_texts0 a_texts1 a_texts2 a_texts0_bytes a_texts1_bytes a_texts2_bytes a_wise_least a_spy_nights f_stale f_finding f_texts0_size f_texts1_size f_texts2_size f_wise_stale f_spy_stale f_spy_settled) sz)) 0 0 (va_A (w_ND_undo ct a_this a_texts a_names a_pieces a_song a_fitting a_deal a_guesses a_wise a_spy a_sheets a_texts0 a_texts1 a_texts2 a_texts0_bytes a_texts1_bytes a_texts2_bytes a_wise_least a_spy_nights f_stale f_finding f_texts0_size f_texts1_size f_texts2_size f_wise_stale f_spy_stale f_spy_settled) sz) := by
  refine kMetM yn_yX10_undo rfl (Nat.le_of_ble_eq_true rfl) ?_
  intro p e s m args below meth c A C hA hP hD ls hl
  have hl : lv_has ls 2 [(0, .ref a_this), (1, .int x1)] := hl
  have hS : va_S A s.heap s.heap [] := va_S.rf
  obtain ⟨hx, hb, hr, hml, hown, hts, hlk, hK, hN⟩ := id C
  unfold ND_undo at hf
  refine lv_iload_n hx hb dX10_undo_0 rfl (lv_at hl 1 rfl) ?_
  obtain ⟨v1, hc1, hf⟩ := cb1_some hf
  refine kcRS (As := [.int x1]) (rest := []) (st1 := [.int v1]) C (c_ND_isText l D ct x1 v1 hc1) ⟨rfl, rfl⟩ yn_yX10_isText tw_325 tw_324 ⟨Nat.le_of_ble_eq_true rfl, Nat.le_of_ble_eq_true rfl⟩ ⟨Nat.zero_le _, Nat.zero_le _⟩ hP [] rfl hl.1 rfl rfl (Nat.le_of_ble_eq_true rfl) dX10_undo_1 rfl ?_
  refine lv_if_ne (tgt := 10) hx hb dX10_undo_4 (by decide) (fun hc => ?_) (fun hc => ?_)
  · have hf := kneg hc hf
    refine lv_aload_n hx hb dX10_undo_10 rfl (lv_at hl 0 rfl) ?_
    refine va_get (ci := 10) (v := .ref a_texts) (C := RX10) (T := TX10) (N := 12) hx hb hts inX10 hown hK hP 0 rfl rfl 0 (by decide) (hts _ tw_283) (fun _ h9 => h9) rfl dX10_undo_11 ?_
    refine lv_iload_n hx hb dX10_undo_14 rfl (lv_at hl 1 rfl) ?_
    by_cases hs_1 : x1 = 0
    · have hf := kpos hs_1 hf
      refine kaald hx hb hK hP 1 3 rfl rfl (k := 0) (by rw [hs_1]; rfl) rfl (by decide) dX10_undo_15 ?_
      obtain ⟨v16, hc16, hf⟩ := cb1_some hf
      refine kcRV (q0 := 2) (ci := 8) (As := []) (rest := []) (st1 := [.int v16]) C (c_Te_size l D ct a_texts0 a_texts0_bytes f_texts0_size v16 hc16) ⟨rfl, rfl⟩ yn_yX8_size tw_348 tw_349 tw_347 ⟨Nat.le_of_ble_eq_true rfl, Nat.le_of_ble_eq_true rfl⟩ ⟨Nat.zero_le _, Nat.zero_le _⟩ hP [2] rfl rfl rfl rfl hl.1 rfl rfl (Nat.le_of_ble_eq_true rfl) dX10_undo_16 rfl ?_
      refine lv_if_ne (tgt := 25) hx hb dX10_undo_19 (by decide) (fun hc => ?_) (fun hc => ?_)
      · have hf := kneg hc hf
        refine lv_aload_n hx hb dX10_undo_25 rfl (lv_at hl 0 rfl) ?_
        refine va_get (ci := 10) (v := .ref a_texts) (C := RX10) (T := TX10) (N := 12) hx hb hts inX10 hown hK hP 0 rfl rfl 0 (by decide) (hts _ tw_283) (fun _ h9 => h9) rfl dX10_undo_26 ?_
        refine lv_iload_n hx hb dX10_undo_29 rfl (lv_at hl 1 rfl) ?_
        refine kaald hx hb hK hP 1 3 rfl rfl (k := 0) (by rw [hs_1]; rfl) rfl (by decide) dX10_undo_30 ?_
        obtain ⟨f_texts0_size_31, hc31, hf⟩ := cb1_some hf
        refine kcMV (q0 := 2) (ci := 8) (As := []) (rest := []) (st1 := []) (wf := (w_ND_undo ct a_this a_texts a_names a_pieces a_song a_fitting a_deal a_guesses a_wise a_spy a_sheets a_texts0 a_texts1 a_texts2 a_texts0_bytes a_texts1_bytes a_texts2_bytes a_wise_least a_spy_nights f_stale f_finding f_texts0_size_31 f_texts1_size f_texts2_size f_wise_stale f_spy_stale f_spy_settled)) C (c_Te_dropLast l D ct a_texts0 a_texts0_bytes f_texts0_size f_texts0_size_31 _ hc31) ⟨rfl, rfl⟩ yn_yX8_dropLast tw_364 tw_365 tw_363 ⟨Nat.le_of_ble_eq_true rfl, Nat.le_of_ble_eq_true rfl⟩ ⟨Nat.zero_le _, Nat.zero_le _⟩ hP hD hS hA [2] [0, 1, 3, 4, 5, 6] [0, 1, 6, 2, 3, 4, 5] rfl rfl rfl rfl rfl (by decide) rfl rfl rfl rfl rfl rfl hl.1 rfl rfl (Nat.le_of_ble_eq_true rfl) dX10_undo_31 rfl (fun H locs hP hD hS => ?_)
        refine lv_aload_n hx hb dX10_undo_34 rfl (lv_at hl 0 rfl) ?_
        refine lv_iload_n hx hb dX10_undo_35 rfl (lv_at hl 1 rfl) ?_
        obtain ⟨f_stale_36, f_wise_stale_36, f_spy_stale_36, hc36, hf⟩ := cb3_some hf
        refine kcMV (q0 := 0) (ci := 10) (As := [.int x1]) (rest := []) (st1 := []) (wf := (w_ND_undo ct a_this a_texts a_names a_pieces a_song a_fitting a_deal a_guesses a_wise a_spy a_sheets a_texts0 a_texts1 a_texts2 a_texts0_bytes a_texts1_bytes a_texts2_bytes a_wise_least a_spy_nights f_stale_36 f_finding f_texts0_size_31 f_texts1_size f_texts2_size f_wise_stale_36 f_spy_stale_36 f_spy_settled)) C (c_ND_forget l D ct a_this a_texts a_names a_pieces a_song a_fitting a_deal a_guesses a_wise a_spy a_sheets a_wise_least a_spy_nights f_finding f_spy_settled f_stale f_wise_stale f_spy_stale x1 f_stale_36 f_wise_stale_36 f_spy_stale_36 _ hc36) ⟨rfl, rfl⟩ yn_yX10_forget tw_337 tw_0 tw_335 ⟨Nat.le_of_ble_eq_true rfl, Nat.le_of_ble_eq_true rfl⟩ ⟨Nat.zero_le _, Nat.zero_le _⟩ hP hD hS hA [0, 5, 6] [1, 2, 3, 4] [4, 0, 1, 2, 3, 5, 6] rfl rfl rfl rfl rfl (by decide) rfl rfl rfl rfl rfl rfl hl.1 rfl rfl (Nat.le_of_ble_eq_true rfl) dX10_undo_36 rfl (fun H locs hP hD hS => ?_)
        refine lv_aload_n hx hb dX10_undo_39 rfl (lv_at hl 0 rfl) ?_
        refine va_get (ci := 10) (v := .ref a_texts) (C := RX10) (T := TX10) (N := 12) hx hb hts inX10 hown hK hP 0 rfl rfl 0 (by decide) (hts _ tw_283) (fun _ h9 => h9) rfl dX10_undo_40 ?_
        refine lv_iload_n hx hb dX10_undo_43 rfl (lv_at hl 1 rfl) ?_
        refine kaald hx hb hK hP 1 3 rfl rfl (k := 0) (by rw [hs_1]; rfl) rfl (by decide) dX10_undo_44 ?_
        obtain ⟨v45, hc45, hf⟩ := cb1_some hf
        refine kcRV (q0 := 2) (ci := 8) (As := []) (rest := []) (st1 := [.int v45]) C (c_Te_size l D ct a_texts0 a_texts0_bytes f_texts0_size_31 v45 hc45) ⟨rfl, rfl⟩ yn_yX8_size tw_348 tw_349 tw_347 ⟨Nat.le_of_ble_eq_true rfl, Nat.le_of_ble_eq_true rfl⟩ ⟨Nat.zero_le _, Nat.zero_le _⟩ hP [2] rfl rfl rfl rfl hl.1 rfl rfl (Nat.le_of_ble_eq_true rfl) dX10_undo_45 rfl ?_
        obtain ⟨e1, e2, e3, e4, e5, e6, e7⟩ := ti7 hf
        subst e1; subst e2; subst e3; subst e4; subst e5; subst e6; subst e7
        exact kretM C hP hD hS dX10_undo_48
      · have hf := kpos hc hf
        refine lv_bipush (v := (-3)) hx hb dX10_undo_22 (by decide) ?_
        obtain ⟨e1, e2, e3, e4, e5, e6, e7⟩ := ti7 hf
        subst e1; subst e2; subst e3; subst e4; subst e5; subst e6; subst e7
        exact kretM C hP hD hS dX10_undo_24
    · have hf := kneg hs_1 hf
      by_cases hs_1 : x1 = 1
      · have hf := kpos hs_1 hf
        refine kaald hx hb hK hP 1 3 rfl rfl (k := 1) (by rw [hs_1]; rfl) rfl (by decide) dX10_undo_15 ?_
        obtain ⟨v16, hc16, hf⟩ := cb1_some hf
        refine kcRV (q0 := 3) (ci := 8) (As := []) (rest := []) (st1 := [.int v16]) C (c_Te_size l D ct a_texts1 a_texts1_bytes f_texts1_size v16 hc16) ⟨rfl, rfl⟩ yn_yX8_size tw_348 tw_349 tw_347 ⟨Nat.le_of_ble_eq_true rfl, Nat.le_of_ble_eq_true rfl⟩ ⟨Nat.zero_le _, Nat.zero_le _⟩ hP [3] rfl rfl rfl rfl hl.1 rfl rfl (Nat.le_of_ble_eq_true rfl) dX10_undo_16 rfl ?_
        refine lv_if_ne (tgt := 25) hx hb dX10_undo_19 (by decide) (fun hc => ?_) (fun hc => ?_)
        · have hf := kneg hc hf
          refine lv_aload_n hx hb dX10_undo_25 rfl (lv_at hl 0 rfl) ?_
          refine va_get (ci := 10) (v := .ref a_texts) (C := RX10) (T := TX10) (N := 12) hx hb hts inX10 hown hK hP 0 rfl rfl 0 (by decide) (hts _ tw_283) (fun _ h9 => h9) rfl dX10_undo_26 ?_
          refine lv_iload_n hx hb dX10_undo_29 rfl (lv_at hl 1 rfl) ?_
          refine kaald hx hb hK hP 1 3 rfl rfl (k := 1) (by rw [hs_1]; rfl) rfl (by decide) dX10_undo_30 ?_
          obtain ⟨f_texts1_size_31, hc31, hf⟩ := cb1_some hf
          refine kcMV (q0 := 3) (ci := 8) (As := []) (rest := []) (st1 := []) (wf := (w_ND_undo ct a_this a_texts a_names a_pieces a_song a_fitting a_deal a_guesses a_wise a_spy a_sheets a_texts0 a_texts1 a_texts2 a_texts0_bytes a_texts1_bytes a_texts2_bytes a_wise_least a_spy_nights f_stale f_finding f_texts0_size f_texts1_size_31 f_texts2_size f_wise_stale f_spy_stale f_spy_settled)) C (c_Te_dropLast l D ct a_texts1 a_texts1_bytes f_texts1_size f_texts1_size_31 _ hc31) ⟨rfl, rfl⟩ yn_yX8_dropLast tw_364 tw_365 tw_363 ⟨Nat.le_of_ble_eq_true rfl, Nat.le_of_ble_eq_true rfl⟩ ⟨Nat.zero_le _, Nat.zero_le _⟩ hP hD hS hA [3] [0, 1, 2, 4, 5, 6] [0, 1, 2, 6, 3, 4, 5] rfl rfl rfl rfl rfl (by decide) rfl rfl rfl rfl rfl rfl hl.1 rfl rfl (Nat.le_of_ble_eq_true rfl) dX10_undo_31 rfl (fun H locs hP hD hS => ?_)
          refine lv_aload_n hx hb dX10_undo_34 rfl (lv_at hl 0 rfl) ?_
          refine lv_iload_n hx hb dX10_undo_35 rfl (lv_at hl 1 rfl) ?_
          obtain ⟨f_stale_36, f_wise_stale_36, f_spy_stale_36, hc36, hf⟩ := cb3_some hf
          refine kcMV (q0 := 0) (ci := 10) (As := [.int x1]) (rest := []) (st1 := []) (wf := (w_ND_undo ct a_this a_texts a_names a_pieces a_song a_fitting a_deal a_guesses a_wise a_spy a_sheets a_texts0 a_texts1 a_texts2 a_texts0_bytes a_texts1_bytes a_texts2_bytes a_wise_least a_spy_nights f_stale_36 f_finding f_texts0_size f_texts1_size_31 f_texts2_size f_wise_stale_36 f_spy_stale_36 f_spy_settled)) C (c_ND_forget l D ct a_this a_texts a_names a_pieces a_song a_fitting a_deal a_guesses a_wise a_spy a_sheets a_wise_least a_spy_nights f_finding f_spy_settled f_stale f_wise_stale f_spy_stale x1 f_stale_36 f_wise_stale_36 f_spy_stale_36 _ hc36) ⟨rfl, rfl⟩ yn_yX10_forget tw_337 tw_0 tw_335 ⟨Nat.le_of_ble_eq_true rfl, Nat.le_of_ble_eq_true rfl⟩ ⟨Nat.zero_le _, Nat.zero_le _⟩ hP hD hS hA [0, 5, 6] [1, 2, 3, 4] [4, 0, 1, 2, 3, 5, 6] rfl rfl rfl rfl rfl (by decide) rfl rfl rfl rfl rfl rfl hl.1 rfl rfl (Nat.le_of_ble_eq_true rfl) dX10_undo_36 rfl (fun H locs hP hD hS => ?_)
          refine lv_aload_n hx hb dX10_undo_39 rfl (lv_at hl 0 rfl) ?_
          refine va_get (ci := 10) (v := .ref a_texts) (C := RX10) (T := TX10) (N := 12) hx hb hts inX10 hown hK hP 0 rfl rfl 0 (by decide) (hts _ tw_283) (fun _ h9 => h9) rfl dX10_undo_40 ?_
          refine lv_iload_n hx hb dX10_undo_43 rfl (lv_at hl 1 rfl) ?_
          refine kaald hx hb hK hP 1 3 rfl rfl (k := 1) (by rw [hs_1]; rfl) rfl (by decide) dX10_undo_44 ?_
          obtain ⟨v45, hc45, hf⟩ := cb1_some hf
          refine kcRV (q0 := 3) (ci := 8) (As := []) (rest := []) (st1 := [.int v45]) C (c_Te_size l D ct a_texts1 a_texts1_bytes f_texts1_size_31 v45 hc45) ⟨rfl, rfl⟩ yn_yX8_size tw_348 tw_349 tw_347 ⟨Nat.le_of_ble_eq_true rfl, Nat.le_of_ble_eq_true rfl⟩ ⟨Nat.zero_le _, Nat.zero_le _⟩ hP [3] rfl rfl rfl rfl hl.1 rfl rfl (Nat.le_of_ble_eq_true rfl) dX10_undo_45 rfl ?_
          obtain ⟨e1, e2, e3, e4, e5, e6, e7⟩ := ti7 hf
          subst e1; subst e2; subst e3; subst e4; subst e5; subst e6; subst e7
          exact kretM C hP hD hS dX10_undo_48
        · have hf := kpos hc hf
          refine lv_bipush (v := (-3)) hx hb dX10_undo_22 (by decide) ?_
          obtain ⟨e1, e2, e3, e4, e5, e6, e7⟩ := ti7 hf
          subst e1; subst e2; subst e3; subst e4; subst e5; subst e6; subst e7
          exact kretM C hP hD hS dX10_undo_24
      · have hf := kneg hs_1 hf
        by_cases hs_1 : x1 = 2
        · have hf := kpos hs_1 hf
          refine kaald hx hb hK hP 1 3 rfl rfl (k := 2) (by rw [hs_1]; rfl) rfl (by decide) dX10_undo_15 ?_
          obtain ⟨v16, hc16, hf⟩ := cb1_some hf
          refine kcRV (q0 := 4) (ci := 8) (As := []) (rest := []) (st1 := [.int v16]) C (c_Te_size l D ct a_texts2 a_texts2_bytes f_texts2_size v16 hc16) ⟨rfl, rfl⟩ yn_yX8_size tw_348 tw_349 tw_347 ⟨Nat.le_of_ble_eq_true rfl, Nat.le_of_ble_eq_true rfl⟩ ⟨Nat.zero_le _, Nat.zero_le _⟩ hP [4] rfl rfl rfl rfl hl.1 rfl rfl (Nat.le_of_ble_eq_true rfl) dX10_undo_16 rfl ?_
          refine lv_if_ne (tgt := 25) hx hb dX10_undo_19 (by decide) (fun hc => ?_) (fun hc => ?_)
          · have hf := kneg hc hf
            refine lv_aload_n hx hb dX10_undo_25 rfl (lv_at hl 0 rfl) ?_
            refine va_get (ci := 10) (v := .ref a_texts) (C := RX10) (T := TX10) (N := 12) hx hb hts inX10 hown hK hP 0 rfl rfl 0 (by decide) (hts _ tw_283) (fun _ h9 => h9) rfl dX10_undo_26 ?_
            refine lv_iload_n hx hb dX10_undo_29 rfl (lv_at hl 1 rfl) ?_
            refine kaald hx hb hK hP 1 3 rfl rfl (k := 2) (by rw [hs_1]; rfl) rfl (by decide) dX10_undo_30 ?_
            obtain ⟨f_texts2_size_31, hc31, hf⟩ := cb1_some hf
            refine kcMV (q0 := 4) (ci := 8) (As := []) (rest := []) (st1 := []) (wf := (w_ND_undo ct a_this a_texts a_names a_pieces a_song a_fitting a_deal a_guesses a_wise a_spy a_sheets a_texts0 a_texts1 a_texts2 a_texts0_bytes a_texts1_bytes a_texts2_bytes a_wise_least a_spy_nights f_stale f_finding f_texts0_size f_texts1_size f_texts2_size_31 f_wise_stale f_spy_stale f_spy_settled)) C (c_Te_dropLast l D ct a_texts2 a_texts2_bytes f_texts2_size f_texts2_size_31 _ hc31) ⟨rfl, rfl⟩ yn_yX8_dropLast tw_364 tw_365 tw_363 ⟨Nat.le_of_ble_eq_true rfl, Nat.le_of_ble_eq_true rfl⟩ ⟨Nat.zero_le _, Nat.zero_le _⟩ hP hD hS hA [4] [0, 1, 2, 3, 5, 6] [0, 1, 2, 3, 6, 4, 5] rfl rfl rfl rfl rfl (by decide) rfl rfl rfl rfl rfl rfl hl.1 rfl rfl (Nat.le_of_ble_eq_true rfl) dX10_undo_31 rfl (fun H locs hP hD hS => ?_)
            refine lv_aload_n hx hb dX10_undo_34 rfl (lv_at hl 0 rfl) ?_
            refine lv_iload_n hx hb dX10_undo_35 rfl (lv_at hl 1 rfl) ?_
            obtain ⟨f_stale_36, f_wise_stale_36, f_spy_stale_36, hc36, hf⟩ := cb3_some hf
            refine kcMV (q0 := 0) (ci := 10) (As := [.int x1]) (rest := []) (st1 := []) (wf := (w_ND_undo ct a_this a_texts a_names a_pieces a_song a_fitting a_deal a_guesses a_wise a_spy a_sheets a_texts0 a_texts1 a_texts2 a_texts0_bytes a_texts1_bytes a_texts2_bytes a_wise_least a_spy_nights f_stale_36 f_finding f_texts0_size f_texts1_size f_texts2_size_31 f_wise_stale_36 f_spy_stale_36 f_spy_settled)) C (c_ND_forget l D ct a_this a_texts a_names a_pieces a_song a_fitting a_deal a_guesses a_wise a_spy a_sheets a_wise_least a_spy_nights f_finding f_spy_settled f_stale f_wise_stale f_spy_stale x1 f_stale_36 f_wise_stale_36 f_spy_stale_36 _ hc36) ⟨rfl, rfl⟩ yn_yX10_forget tw_337 tw_0 tw_335 ⟨Nat.le_of_ble_eq_true rfl, Nat.le_of_ble_eq_true rfl⟩ ⟨Nat.zero_le _, Nat.zero_le _⟩ hP hD hS hA [0, 5, 6] [1, 2, 3, 4] [4, 0, 1, 2, 3, 5, 6] rfl rfl rfl rfl rfl (by decide) rfl rfl rfl rfl rfl rfl hl.1 rfl rfl (Nat.le_of_ble_eq_true rfl) dX10_undo_36 rfl (fun H locs hP hD hS => ?_)
            refine lv_aload_n hx hb dX10_undo_39 rfl (lv_at hl 0 rfl) ?_
            refine va_get (ci := 10) (v := .ref a_texts) (C := RX10) (T := TX10) (N := 12) hx hb hts inX10 hown hK hP 0 rfl rfl 0 (by decide) (hts _ tw_283) (fun _ h9 => h9) rfl dX10_undo_40 ?_
            refine lv_iload_n hx hb dX10_undo_43 rfl (lv_at hl 1 rfl) ?_
            refine kaald hx hb hK hP 1 3 rfl rfl (k := 2) (by rw [hs_1]; rfl) rfl (by decide) dX10_undo_44 ?_
            obtain ⟨v45, hc45, hf⟩ := cb1_some hf
            refine kcRV (q0 := 4) (ci := 8) (As := []) (rest := []) (st1 := [.int v45]) C (c_Te_size l D ct a_texts2 a_texts2_bytes f_texts2_size_31 v45 hc45) ⟨rfl, rfl⟩ yn_yX8_size tw_348 tw_349 tw_347 ⟨Nat.le_of_ble_eq_true rfl, Nat.le_of_ble_eq_true rfl⟩ ⟨Nat.zero_le _, Nat.zero_le _⟩ hP [4] rfl rfl rfl rfl hl.1 rfl rfl (Nat.le_of_ble_eq_true rfl) dX10_undo_45 rfl ?_
            obtain ⟨e1, e2, e3, e4, e5, e6, e7⟩ := ti7 hf
            subst e1; subst e2; subst e3; subst e4; subst e5; subst e6; subst e7
            exact kretM C hP hD hS dX10_undo_48
          · have hf := kpos hc hf
            refine lv_bipush (v := (-3)) hx hb dX10_undo_22 (by decide) ?_
            obtain ⟨e1, e2, e3, e4, e5, e6, e7⟩ := ti7 hf
            subst e1; subst e2; subst e3; subst e4; subst e5; subst e6; subst e7
            exact kretM C hP hD hS dX10_undo_24
        · have hf := kneg hs_1 hf
          cases hf
  · have hf := kpos hc hf
    refine lv_bipush (v := (-2)) hx hb dX10_undo_7 (by decide) ?_
    obtain ⟨e1, e2, e3, e4, e5, e6, e7⟩ := ti7 hf
    subst e1; subst e2; subst e3; subst e4; subst e5; subst e6; subst e7
    exact kretM C hP hD hS dX10_undo_9
def RM_Te_byteAt : Room := { frames := 0, cells := 0, slots := 0, locals := 0 }
set_option maxHeartbeats 4000000 in
set_option maxRecDepth 100000 in
theorem c_Te_byteAt (l : Launch) (D : va_G) (ct : Nat → ClassId) (a_this a_bytes : Nat) (n_bytes : Nat) (f_size : Int32) (f_bytes : Nat → Int32) (x1 : Int32) (r : Int32) (hf : Te_byteAt n_bytes f_size f_bytes x1 = some r) : Met l yX8_byteAt (WS yX8_byteAt cX8_byteAt 2 (some .int)) RM_Te_byteAt (va_Pc [.ref a_this, .int x1] (PR D ct (w_Te_byteAt ct a_this a_bytes n_bytes f_size f_bytes))) (QR (some (.int r))) 0 0 (fun _ => False) := by
  refine kMetR yn_yX8_byteAt rfl (Nat.le_of_ble_eq_true rfl) ?_
  intro p e s m args below meth c C hP ls hl
  have hl : lv_has ls 2 [(0, .ref a_this), (1, .int x1)] := hl
  obtain ⟨hx, hb, hr, hml, hown, hts, hlk, hK, hN⟩ := id C
  unfold Te_byteAt at hf
  refine lv_iload_n hx hb dX8_byteAt_0 rfl (lv_at hl 1 rfl) ?_
  refine lv_if_lt (tgt := 21) hx hb dX8_byteAt_1 (by decide) (fun hc => ?_) (fun hc => ?_)
  · have hf := kpos hc hf
    refine lv_iconst (v := (-1)) hx hb dX8_byteAt_21 (by decide) ?_
    have e1 := Option.some.inj hf
    subst e1
    exact kretR C dX8_byteAt_22
  · have hf := kneg hc hf
    refine lv_iload_n hx hb dX8_byteAt_4 rfl (lv_at hl 1 rfl) ?_
    refine lv_aload_n hx hb dX8_byteAt_5 rfl (lv_at hl 0 rfl) ?_
    refine va_get (ci := 8) (v := .int f_size) (C := RX8) (T := TX8) (N := 2) hx hb hts inX8 hown hK hP 0 rfl rfl 1 (by decide) (hts _ tw_106) (fun _ h9 => h9) rfl dX8_byteAt_6 ?_
    refine lv_icmp_ge (tgt := 21) hx hb dX8_byteAt_9 (by decide) (fun hc => ?_) (fun hc => ?_)
    · have hf := kpos hc hf
      refine lv_iconst (v := (-1)) hx hb dX8_byteAt_21 (by decide) ?_
      have e1 := Option.some.inj hf
      subst e1
      exact kretR C dX8_byteAt_22
    · have hf := kneg hc hf
      refine lv_iload_n hx hb dX8_byteAt_12 rfl (lv_at hl 1 rfl) ?_
      refine lv_aload_n hx hb dX8_byteAt_13 rfl (lv_at hl 0 rfl) ?_
      refine va_get (ci := 8) (v := .ref a_bytes) (C := RX8) (T := TX8) (N := 2) hx hb hts inX8 hown hK hP 0 rfl rfl 0 (by decide) (hts _ tw_105) (fun _ h9 => h9) rfl dX8_byteAt_14 ?_
      refine va_alen (v := Int32.ofNat n_bytes) hx hb hK hP 1 0 rfl rfl rfl dX8_byteAt_17 ?_
      refine lv_icmp_lt (tgt := 23) hx hb dX8_byteAt_18 (by decide) (fun hc => ?_) (fun hc => ?_)
      · have hf := kpos hc hf
        refine lv_aload_n hx hb dX8_byteAt_23 rfl (lv_at hl 0 rfl) ?_
        refine va_get (ci := 8) (v := .ref a_bytes) (C := RX8) (T := TX8) (N := 2) hx hb hts inX8 hown hK hP 0 rfl rfl 0 (by decide) (hts _ tw_105) (fun _ h9 => h9) rfl dX8_byteAt_24 ?_
        refine lv_iload_n hx hb dX8_byteAt_27 rfl (lv_at hl 1 rfl) ?_
        obtain ⟨hin, hf⟩ := rd_some hf
        generalize ev28 : f_bytes (Int32.toNatClampNeg x1) = v28 at hf
        refine kiald hx hb hK hP 1 0 rfl rfl hin ev28 dX8_byteAt_28 ?_
        have e1 := Option.some.inj hf
        subst e1
        exact kretR C dX8_byteAt_29
      · have hf := kneg hc hf
        refine lv_iconst (v := (-1)) hx hb dX8_byteAt_21 (by decide) ?_
        have e1 := Option.some.inj hf
        subst e1
        exact kretR C dX8_byteAt_22
def RM_ND_letterOf : Room := { frames := 0, cells := 0, slots := 0, locals := 0 }
set_option maxHeartbeats 4000000 in
set_option maxRecDepth 100000 in
theorem c_ND_letterOf (l : Launch) (D : va_G) (ct : Nat → ClassId) (x0 : Int32) (r : Int32) (hf : ND_letterOf x0 = some r) : Met l yX10_letterOf (WS yX10_letterOf cX10_letterOf 1 (some .int)) RM_ND_letterOf (va_Pc [.int x0] (PR D ct (w_ND_letterOf ct))) (QR (some (.int r))) 0 0 (fun _ => False) := by
  refine kMetR yn_yX10_letterOf rfl (Nat.le_of_ble_eq_true rfl) ?_
  intro p e s m args below meth c C hP ls hl
  have hl : lv_has ls 1 [(0, .int x0)] := hl
  obtain ⟨hx, hb, hr, hml, hown, hts, hlk, hK, hN⟩ := id C
  unfold ND_letterOf at hf
  refine lv_iload_n hx hb dX10_letterOf_0 rfl (lv_at hl 0 rfl) ?_
  refine lv_bipush (v := 97) hx hb dX10_letterOf_1 (by decide) ?_
  refine lv_icmp_lt (tgt := 19) hx hb dX10_letterOf_3 (by decide) (fun hc => ?_) (fun hc => ?_)
  · have hf := kpos hc hf
    refine lv_iconst (v := (-1)) hx hb dX10_letterOf_19 (by decide) ?_
    have e1 := Option.some.inj hf
    subst e1
    exact kretR C dX10_letterOf_20
  · have hf := kneg hc hf
    refine lv_iload_n hx hb dX10_letterOf_6 rfl (lv_at hl 0 rfl) ?_
    refine lv_bipush (v := 102) hx hb dX10_letterOf_7 (by decide) ?_
    refine lv_icmp_gt (tgt := 19) hx hb dX10_letterOf_9 (by decide) (fun hc => ?_) (fun hc => ?_)
    · have hf := kpos hc hf
      refine lv_iconst (v := (-1)) hx hb dX10_letterOf_19 (by decide) ?_
      have e1 := Option.some.inj hf
      subst e1
      exact kretR C dX10_letterOf_20
    · have hf := kneg hc hf
      refine lv_iload_n hx hb dX10_letterOf_12 rfl (lv_at hl 0 rfl) ?_
      refine lv_bipush (v := 97) hx hb dX10_letterOf_13 (by decide) ?_
      refine lv_isub hx hb dX10_letterOf_15 ?_
      refine lv_goto (tgt := 20) hx hb dX10_letterOf_16 (by decide) ?_
      have e1 := Option.some.inj hf
      subst e1
      exact kretR C dX10_letterOf_20
def RM_Na_takeLetters : Room := { frames := 1, cells := 0, slots := 0, locals := 21 }
set_option maxHeartbeats 4000000 in
set_option maxRecDepth 100000 in
theorem t_Na_takeLetters_b3 {p : Program} {l : Launch} {e : Env} {s : State} {m : MethodId} {args : Array Value} {below : List Frame} {meth : Method} {c : Code} {D : va_G} {ct : Nat → ClassId} (C : CX p s m args meth c RX3 cX3_takeLetters 6 (some .int) D ct) {A : Nat → Prop} (hA : ∀ q : Nat, s.heap.size ≤ q → A q) (a_this a_odds a_lengths a_letters a_alike a_oddsTogether a_p1 a_p1_bytes : Nat) (n_p1_bytes : Nat) (f_size : Int32) (f_fault : Int32) (F : Nat) (f_p1_size : Int32) (f_p1_bytes : Nat → Int32) (x2 : Int32) (x3 : Int32) (r : Int32) (r_letters : Nat → Int32) (rec3 : Int32 → (Nat → Int32) → Option (Int32 × (Nat → Int32))) (hr3 : ∀ (x4 : Int32) (f_letters : Nat → Int32), rec3 x4 f_letters = some (r, r_letters) → ∀ (H : Heap) (locs : List Loc), va_P D vwCl (w_Na_takeLetters ct a_this a_odds a_lengths a_letters a_alike a_oddsTogether a_p1 a_p1_bytes n_p1_bytes f_size f_fault f_letters f_p1_size f_p1_bytes) H → va_D A (w_Na_takeLetters ct a_this a_odds a_lengths a_letters a_alike a_oddsTogether a_p1 a_p1_bytes n_p1_bytes f_size f_fault f_letters f_p1_size f_p1_bytes) → va_S A s.heap H locs → ∀ ls : Array Slot, lv_has ls 6 [(0, .ref a_this), (1, .ref a_p1), (2, .int x2), (3, .int x3), (4, .int x4)] → W p l e RM_Na_takeLetters s m args below meth c H locs 0 0 (MQ below (QM D (some (.int r)) (w_Na_takeLetters ct a_this a_odds a_lengths a_letters a_alike a_oddsTogether a_p1 a_p1_bytes n_p1_bytes f_size f_fault r_letters f_p1_size f_p1_bytes) A) args s 0 0 A) (F0 m 3 ls [])) : ∀ (x4 : Int32) (f_letters : Nat → Int32), Na_takeLetters_b3 F n_p1_bytes f_p1_size f_p1_bytes x2 x3 rec3 x4 f_letters = some (r, r_letters) → ∀ (H : Heap) (locs : List Loc), va_P D vwCl (w_Na_takeLetters ct a_this a_odds a_lengths a_letters a_alike a_oddsTogether a_p1 a_p1_bytes n_p1_bytes f_size f_fault f_letters f_p1_size f_p1_bytes) H → va_D A (w_Na_takeLetters ct a_this a_odds a_lengths a_letters a_alike a_oddsTogether a_p1 a_p1_bytes n_p1_bytes f_size f_fault f_letters f_p1_size f_p1_bytes) → va_S A s.heap H locs → ∀ ls : Array Slot, lv_has ls 6 [(0, .ref a_this), (1, .ref a_p1), (2, .int x2), (3, .int x3), (4, .int x4)] → W p l e RM_Na_takeLetters s m args below meth c H locs 0 0 (MQ below (QM D (some (.int r)) (w_Na_takeLetters ct a_this a_odds a_lengths a_letters a_alike a_oddsTogether a_p1 a_p1_bytes n_p1_bytes f_size f_fault r_letters f_p1_size f_p1_bytes) A) args s 0 0 A) (F0 m 3 ls []) := by
  obtain ⟨hx, hb, hr, hml, hown, hts, hlk, hK, hN⟩ := id C
  intro x4 f_letters hf H locs hP hD hS ls hl
  unfold Na_takeLetters_b3 at hf
  refine lv_iload hx hb dX3_takeLetters_3 (lv_at hl 4 rfl) ?_
  refine lv_bipush (v := 6) hx hb dX3_takeLetters_5 (by decide) ?_
  refine lv_icmp_ge (tgt := 52) hx hb dX3_takeLetters_7 (by decide) (fun hc => ?_) (fun hc => ?_)
  · have hf := kpos hc hf
    refine lv_bipush (v := 6) hx hb dX3_takeLetters_52 (by decide) ?_
    obtain ⟨e1, e2⟩ := ti2 hf
    subst e1; subst e2
    exact kretM C hP hD hS dX3_takeLetters_54
  · have hf := kneg hc hf
    refine lv_aload_n hx hb dX3_takeLetters_10 rfl (lv_at hl 1 rfl) ?_
    refine lv_iload_n hx hb dX3_takeLetters_11 rfl (lv_at hl 2 rfl) ?_
    refine lv_iload hx hb dX3_takeLetters_12 (lv_at hl 4 rfl) ?_
    refine lv_iadd hx hb dX3_takeLetters_14 ?_
    obtain ⟨v15, hc15, hf⟩ := cb1_some hf
    refine kcRV (q0 := 2) (ci := 8) (As := [.int (x2 + x4)]) (rest := []) (st1 := [.int v15]) C (c_Te_byteAt l D ct a_p1 a_p1_bytes n_p1_bytes f_p1_size f_p1_bytes (x2 + x4) v15 hc15) ⟨rfl, rfl⟩ yn_yX8_byteAt tw_385 tw_386 tw_384 ⟨Nat.le_of_ble_eq_true rfl, Nat.le_of_ble_eq_true rfl⟩ ⟨Nat.zero_le _, Nat.zero_le _⟩ hP [2, 3] rfl rfl rfl rfl hl.1 rfl rfl (Nat.le_of_ble_eq_true rfl) dX3_takeLetters_15 rfl ?_
    obtain ⟨v18, hc18, hf⟩ := cb1_some hf
    refine kcRSN (host := "NamedDwarf") (As := [.int v15]) (rest := []) (st1 := [.int v18]) C (c_ND_letterOf l D ct v15 v18 hc18) ⟨rfl, rfl⟩ yn_yX10_letterOf tw_393 (List.mem_of_getElem? (i := 7) rfl) ⟨Nat.le_of_ble_eq_true rfl, Nat.le_of_ble_eq_true rfl⟩ ⟨Nat.zero_le _, Nat.zero_le _⟩ hP [] rfl hl.1 rfl rfl (Nat.le_of_ble_eq_true rfl) dX3_takeLetters_18 rfl ?_
    refine lv_istore (lv' := [(5, .int v18), (0, .ref a_this), (1, .ref a_p1), (2, .int x2), (3, .int x3), (4, .int x4)]) hx hb dX3_takeLetters_21 hl (by decide) rfl (fun ls hl => ?_)
    refine lv_iload hx hb dX3_takeLetters_23 (lv_at hl 0 rfl) ?_
    refine lv_iconst (v := (-1)) hx hb dX3_takeLetters_25 (by decide) ?_
    refine lv_icmp_ne (tgt := 32) hx hb dX3_takeLetters_26 (by decide) (fun hc => ?_) (fun hc => ?_)
    · have hf := kneg hc hf
      refine lv_aload_n hx hb dX3_takeLetters_32 rfl (lv_at hl 1 rfl) ?_
      refine va_get (ci := 3) (v := .ref a_letters) (C := RX3) (T := TX3) (N := 7) hx hb hts inX3 hown hK hP 0 rfl rfl 2 (by decide) (hts _ tw_121) (fun _ h9 => h9) rfl dX3_takeLetters_33 ?_
      refine lv_iload_n hx hb dX3_takeLetters_36 rfl (lv_at hl 4 rfl) ?_
      refine lv_bipush (v := 6) hx hb dX3_takeLetters_37 (by decide) ?_
      refine lv_imul hx hb dX3_takeLetters_39 ?_
      refine lv_iload hx hb dX3_takeLetters_40 (lv_at hl 5 rfl) ?_
      refine lv_iadd hx hb dX3_takeLetters_42 ?_
      refine lv_iload hx hb dX3_takeLetters_43 (lv_at hl 0 rfl) ?_
      obtain ⟨hin, f_letters_45, ev45, hf⟩ := wr_ex hf
      refine kiast hx hb hK hP hD hS 1 0 rfl rfl hin ev45 dX3_takeLetters_45 (fun H locs hP hD hS => ?_)
      have hP : va_P D vwCl (w_Na_takeLetters ct a_this a_odds a_lengths a_letters a_alike a_oddsTogether a_p1 a_p1_bytes n_p1_bytes f_size f_fault f_letters_45 f_p1_size f_p1_bytes) H := hP
      have hD : va_D A (w_Na_takeLetters ct a_this a_odds a_lengths a_letters a_alike a_oddsTogether a_p1 a_p1_bytes n_p1_bytes f_size f_fault f_letters_45 f_p1_size f_p1_bytes) := hD
      refine lv_iinc (v := x4 + 1) (lv' := [(4, .int (x4 + 1)), (5, .int v18), (0, .ref a_this), (1, .ref a_p1), (2, .int x2), (3, .int x3)]) hx hb dX3_takeLetters_46 hl (k := 5) rfl rfl (by decide) rfl (fun ls hl => ?_)
      refine lv_goto (tgt := 3) hx hb dX3_takeLetters_49 (by decide) ?_
      exact hr3 (x4 + 1) f_letters_45 hf _ _ hP hD hS _ (lv_sub hl [2, 3, 4, 5, 0] rfl)
    · have hf := kpos hc hf
      refine lv_iload hx hb dX3_takeLetters_29 (lv_at hl 5 rfl) ?_
      obtain ⟨e1, e2⟩ := ti2 hf
      subst e1; subst e2
      exact kretM C hP hD hS dX3_takeLetters_31
set_option maxHeartbeats 4000000 in
set_option maxRecDepth 100000 in
theorem t_Na_takeLetters_l3 {p : Program} {l : Launch} {e : Env} {s : State} {m : MethodId} {args : Array Value} {below : List Frame} {meth : Method} {c : Code} {D : va_G} {ct : Nat → ClassId} (C : CX p s m args meth c RX3 cX3_takeLetters 6 (some .int) D ct) {A : Nat → Prop} (hA : ∀ q : Nat, s.heap.size ≤ q → A q) (a_this a_odds a_lengths a_letters a_alike a_oddsTogether a_p1 a_p1_bytes : Nat) (n_p1_bytes : Nat) (f_size : Int32) (f_fault : Int32) (F : Nat) (f_p1_size : Int32) (f_p1_bytes : Nat → Int32) (x2 : Int32) (x3 : Int32) (r : Int32) (r_letters : Nat → Int32) : ∀ (n : Nat) (x4 : Int32) (f_letters : Nat → Int32), Na_takeLetters_l3 F n_p1_bytes f_p1_size f_p1_bytes x2 x3 n x4 f_letters = some (r, r_letters) → ∀ (H : Heap) (locs : List Loc), va_P D vwCl (w_Na_takeLetters ct a_this a_odds a_lengths a_letters a_alike a_oddsTogether a_p1 a_p1_bytes n_p1_bytes f_size f_fault f_letters f_p1_size f_p1_bytes) H → va_D A (w_Na_takeLetters ct a_this a_odds a_lengths a_letters a_alike a_oddsTogether a_p1 a_p1_bytes n_p1_bytes f_size f_fault f_letters f_p1_size f_p1_bytes) → va_S A s.heap H locs → ∀ ls : Array Slot, lv_has ls 6 [(0, .ref a_this), (1, .ref a_p1), (2, .int x2), (3, .int x3), (4, .int x4)] → W p l e RM_Na_takeLetters s m args below meth c H locs 0 0 (MQ below (QM D (some (.int r)) (w_Na_takeLetters ct a_this a_odds a_lengths a_letters a_alike a_oddsTogether a_p1 a_p1_bytes n_p1_bytes f_size f_fault r_letters f_p1_size f_p1_bytes) A) args s 0 0 A) (F0 m 3 ls []) := by
  intro n
  induction n with
  | zero =>
    intro x4 f_letters hf
    exact absurd hf (by simp [Na_takeLetters_l3])
  | succ n ih =>
    intro x4 f_letters hf
    exact t_Na_takeLetters_b3 C hA a_this a_odds a_lengths a_letters a_alike a_oddsTogether a_p1 a_p1_bytes n_p1_bytes f_size f_fault F f_p1_size f_p1_bytes x2 x3 r r_letters (Na_takeLetters_l3 F n_p1_bytes f_p1_size f_p1_bytes x2 x3 n) ih x4 f_letters hf
set_option maxHeartbeats 4000000 in
set_option maxRecDepth 100000 in
theorem c_Na_takeLetters (l : Launch) (D : va_G) (ct : Nat → ClassId) (a_this a_odds a_lengths a_letters a_alike a_oddsTogether a_p1 a_p1_bytes : Nat) (n_p1_bytes : Nat) (f_size : Int32) (f_fault : Int32) (F : Nat) (f_p1_size : Int32) (f_p1_bytes : Nat → Int32) (f_letters : Nat → Int32) (x2 : Int32) (x3 : Int32) (r : Int32) (r_letters : Nat → Int32) (sz : Nat) (hf : Na_takeLetters F n_p1_bytes f_p1_size f_p1_bytes f_letters x2 x3 = some (r, r_letters)) : Met l yX3_takeLetters (WS yX3_takeLetters cX3_takeLetters 6 (some .int)) RM_Na_takeLetters (va_Pc [.ref a_this, .ref a_p1, .int x2, .int x3] (PM D ct sz (w_Na_takeLetters ct a_this a_odds a_lengths a_letters a_alike a_oddsTogether a_p1 a_p1_bytes n_p1_bytes f_size f_fault f_letters f_p1_size f_p1_bytes))) (QM D (some (.int r)) (w_Na_takeLetters ct a_this a_odds a_lengths a_letters a_alike a_oddsTogether a_p1 a_p1_bytes n_p1_bytes f_size f_fault r_letters f_p1_size f_p1_bytes) (va_A (w_Na_takeLetters ct a_this a_odds a_lengths a_letters a_alike a_oddsTogether a_p1 a_p1_bytes n_p1_bytes f_size f_fault f_letters f_p1_size f_p1_bytes) sz)) 0 0 (va_A (w_Na_takeLetters ct a_this a_odds a_lengths a_letters a_alike a_oddsTogether a_p1 a_p1_bytes n_p1_bytes f_size f_fault f_letters f_p1_size f_p1_bytes) sz) := by
  refine kMetM yn_yX3_takeLetters rfl (Nat.le_of_ble_eq_true rfl) ?_
  intro p e s m args below meth c A C hA hP hD ls hl
  have hl : lv_has ls 6 [(0, .ref a_this), (1, .ref a_p1), (2, .int x2), (3, .int x3)] := hl
  have hS : va_S A s.heap s.heap [] := va_S.rf
  obtain ⟨hx, hb, hr, hml, hown, hts, hlk, hK, hN⟩ := id C
  unfold Na_takeLetters at hf
  refine lv_iconst (v := 0) hx hb dX3_takeLetters_0 (by decide) ?_
  refine lv_istore (lv' := [(4, .int 0), (0, .ref a_this), (1, .ref a_p1), (2, .int x2), (3, .int x3)]) hx hb dX3_takeLetters_1 hl (by decide) rfl (fun ls hl => ?_)
  exact t_Na_takeLetters_l3 C hA a_this a_odds a_lengths a_letters a_alike a_oddsTogether a_p1 a_p1_bytes n_p1_bytes f_size f_fault F f_p1_size f_p1_bytes x2 x3 r r_letters F 0 f_letters hf _ _ hP hD hS _ (lv_sub hl [1, 2, 3, 4, 0] rfl)
def RM_Na_scan : Room := { frames := 2, cells := 0, slots := 0, locals := 46 }
set_option maxHeartbeats 4000000 in
set_option maxRecDepth 100000 in
theorem t_Na_scan_b13 {p : Program} {l : Launch} {e : Env} {s : State} {m : MethodId} {args : Array Value} {below : List Frame} {meth : Method} {c : Code} {D : va_G} {ct : Nat → ClassId} (C : CX p s m args meth c RX3 cX3_scan 6 (some .int) D ct) {A : Nat → Prop} (hA : ∀ q : Nat, s.heap.size ≤ q → A q) (a_this a_odds a_lengths a_letters a_alike a_oddsTogether a_p1 a_p1_bytes : Nat) (n_p1_bytes : Nat) (f_fault : Int32) (F : Nat) (f_p1_size : Int32) (f_p1_bytes : Nat → Int32) (r : Int32) (r_size : Int32) (r_odds : Nat → Int32) (r_lengths : Nat → Int32) (r_letters : Nat → Int32) (rec13 : Int32 → Int32 → Int32 → (Nat → Int32) → (Nat → Int32) → (Nat → Int32) → Option (Int32 × Int32 × (Nat → Int32) × (Nat → Int32) × (Nat → Int32))) (hr13 : ∀ (x2 : Int32) (x3 : Int32) (f_size : Int32) (f_odds : Nat → Int32) (f_lengths : Nat → Int32) (f_letters : Nat → Int32), rec13 x2 x3 f_size f_odds f_lengths f_letters = some (r, r_size, r_odds, r_lengths, r_letters) → ∀ (H : Heap) (locs : List Loc), va_P D vwCl (w_Na_scan ct a_this a_odds a_lengths a_letters a_alike a_oddsTogether a_p1 a_p1_bytes n_p1_bytes f_size f_fault f_odds f_lengths f_letters f_p1_size f_p1_bytes) H → va_D A (w_Na_scan ct a_this a_odds a_lengths a_letters a_alike a_oddsTogether a_p1 a_p1_bytes n_p1_bytes f_size f_fault f_odds f_lengths f_letters f_p1_size f_p1_bytes) → va_S A s.heap H locs → ∀ ls : Array Slot, lv_has ls 6 [(0, .ref a_this), (1, .ref a_p1), (2, .int x2), (3, .int x3)] → W p l e RM_Na_scan s m args below meth c H locs 0 0 (MQ below (QM D (some (.int r)) (w_Na_scan ct a_this a_odds a_lengths a_letters a_alike a_oddsTogether a_p1 a_p1_bytes n_p1_bytes r_size f_fault r_odds r_lengths r_letters f_p1_size f_p1_bytes) A) args s 0 0 A) (F0 m 13 ls [])) : ∀ (x2 : Int32) (x3 : Int32) (f_size : Int32) (f_odds : Nat → Int32) (f_lengths : Nat → Int32) (f_letters : Nat → Int32), Na_scan_b13 F n_p1_bytes f_p1_size f_p1_bytes rec13 x2 x3 f_size f_odds f_lengths f_letters = some (r, r_size, r_odds, r_lengths, r_letters) → ∀ (H : Heap) (locs : List Loc), va_P D vwCl (w_Na_scan ct a_this a_odds a_lengths a_letters a_alike a_oddsTogether a_p1 a_p1_bytes n_p1_bytes f_size f_fault f_odds f_lengths f_letters f_p1_size f_p1_bytes) H → va_D A (w_Na_scan ct a_this a_odds a_lengths a_letters a_alike a_oddsTogether a_p1 a_p1_bytes n_p1_bytes f_size f_fault f_odds f_lengths f_letters f_p1_size f_p1_bytes) → va_S A s.heap H locs → ∀ ls : Array Slot, lv_has ls 6 [(0, .ref a_this), (1, .ref a_p1), (2, .int x2), (3, .int x3)] → W p l e RM_Na_scan s m args below meth c H locs 0 0 (MQ below (QM D (some (.int r)) (w_Na_scan ct a_this a_odds a_lengths a_letters a_alike a_oddsTogether a_p1 a_p1_bytes n_p1_bytes r_size f_fault r_odds r_lengths r_letters f_p1_size f_p1_bytes) A) args s 0 0 A) (F0 m 13 ls []) := by
  obtain ⟨hx, hb, hr, hml, hown, hts, hlk, hK, hN⟩ := id C
  intro x2 x3 f_size f_odds f_lengths f_letters hf H locs hP hD hS ls hl
  unfold Na_scan_b13 at hf
  refine lv_iload_n hx hb dX3_scan_13 rfl (lv_at hl 3 rfl) ?_
  refine lv_bipush (v := 10) hx hb dX3_scan_14 (by decide) ?_
  refine lv_icmp_ge (tgt := 123) hx hb dX3_scan_16 (by decide) (fun hc => ?_) (fun hc => ?_)
  · have hf := kpos hc hf
    refine lv_iload_n hx hb dX3_scan_123 rfl (lv_at hl 2 rfl) ?_
    obtain ⟨e1, e2, e3, e4, e5⟩ := ti5 hf
    subst e1; subst e2; subst e3; subst e4; subst e5
    exact kretM C hP hD hS dX3_scan_124
  · have hf := kneg hc hf
    refine lv_aload_n hx hb dX3_scan_19 rfl (lv_at hl 1 rfl) ?_
    refine lv_iload_n hx hb dX3_scan_20 rfl (lv_at hl 2 rfl) ?_
    obtain ⟨v21, hc21, hf⟩ := cb1_some hf
    refine kcRV (q0 := 4) (ci := 8) (As := [.int x2]) (rest := []) (st1 := [.int v21]) C (c_Te_byteAt l D ct a_p1 a_p1_bytes n_p1_bytes f_p1_size f_p1_bytes x2 v21 hc21) ⟨rfl, rfl⟩ yn_yX8_byteAt tw_385 tw_386 tw_384 ⟨Nat.le_of_ble_eq_true rfl, Nat.le_of_ble_eq_true rfl⟩ ⟨Nat.zero_le _, Nat.zero_le _⟩ hP [4, 5] rfl rfl rfl rfl hl.1 rfl rfl (Nat.le_of_ble_eq_true rfl) dX3_scan_21 rfl ?_
    refine lv_istore (lv' := [(4, .int v21), (0, .ref a_this), (1, .ref a_p1), (2, .int x2), (3, .int x3)]) hx hb dX3_scan_24 hl (by decide) rfl (fun ls hl => ?_)
    refine lv_iload hx hb dX3_scan_26 (lv_at hl 0 rfl) ?_
    refine lv_bipush (v := 49) hx hb dX3_scan_28 (by decide) ?_
    refine lv_icmp_lt (tgt := 40) hx hb dX3_scan_30 (by decide) (fun hc => ?_) (fun hc => ?_)
    · have hf := kpos hc hf
      refine lv_iload_n hx hb dX3_scan_40 rfl (lv_at hl 3 rfl) ?_
      obtain ⟨e1, e2, e3, e4, e5⟩ := ti5 hf
      subst e1; subst e2; subst e3; subst e4; subst e5
      exact kretM C hP hD hS dX3_scan_41
    · have hf := kneg hc hf
      refine lv_iload hx hb dX3_scan_33 (lv_at hl 0 rfl) ?_
      refine lv_bipush (v := 57) hx hb dX3_scan_35 (by decide) ?_
      refine lv_icmp_le (tgt := 42) hx hb dX3_scan_37 (by decide) (fun hc => ?_) (fun hc => ?_)
      · have hf := kpos hc hf
        refine lv_iinc (v := x2 + 1) (lv' := [(2, .int (x2 + 1)), (4, .int v21), (0, .ref a_this), (1, .ref a_p1), (3, .int x3)]) hx hb dX3_scan_42 hl (k := 3) rfl rfl (by decide) rfl (fun ls hl => ?_)
        refine lv_aload_n hx hb dX3_scan_45 rfl (lv_at hl 2 rfl) ?_
        refine lv_aload_n hx hb dX3_scan_46 rfl (lv_at hl 3 rfl) ?_
        refine lv_iload_n hx hb dX3_scan_47 rfl (lv_at hl 0 rfl) ?_
        refine lv_iload_n hx hb dX3_scan_48 rfl (lv_at hl 4 rfl) ?_
        obtain ⟨v49, f_letters_49, hc49, hf⟩ := cb2_some hf
        refine kcMV (q0 := 0) (ci := 3) (As := [.ref a_p1, .int (x2 + 1), .int x3]) (rest := []) (st1 := [.int v49]) (wf := (w_Na_scan ct a_this a_odds a_lengths a_letters a_alike a_oddsTogether a_p1 a_p1_bytes n_p1_bytes f_size f_fault f_odds f_lengths f_letters_49 f_p1_size f_p1_bytes)) C (c_Na_takeLetters l D ct a_this a_odds a_lengths a_letters a_alike a_oddsTogether a_p1 a_p1_bytes n_p1_bytes f_size f_fault F f_p1_size f_p1_bytes f_letters (x2 + 1) x3 v49 f_letters_49 _ hc49) ⟨rfl, rfl⟩ yn_yX3_takeLetters tw_390 tw_3 tw_388 ⟨Nat.le_of_ble_eq_true rfl, Nat.le_of_ble_eq_true rfl⟩ ⟨Nat.zero_le _, Nat.zero_le _⟩ hP hD hS hA [0, 3, 4, 5] [1, 2] [2, 0, 1, 3, 4, 5] rfl rfl rfl rfl rfl (by decide) rfl rfl rfl rfl rfl rfl hl.1 rfl rfl (Nat.le_of_ble_eq_true rfl) dX3_scan_49 rfl (fun H locs hP hD hS => ?_)
        refine lv_istore (lv' := [(5, .int v49), (2, .int (x2 + 1)), (4, .int v21), (0, .ref a_this), (1, .ref a_p1), (3, .int x3)]) hx hb dX3_scan_52 hl (by decide) rfl (fun ls hl => ?_)
        refine lv_iload_n hx hb dX3_scan_54 rfl (lv_at hl 1 rfl) ?_
        refine lv_iload hx hb dX3_scan_55 (lv_at hl 0 rfl) ?_
        refine lv_iadd hx hb dX3_scan_57 ?_
        refine lv_istore_n (lv' := [(2, .int ((x2 + 1) + v49)), (5, .int v49), (4, .int v21), (0, .ref a_this), (1, .ref a_p1), (3, .int x3)]) hx hb dX3_scan_58 rfl hl (by decide) rfl (fun ls hl => ?_)
        refine lv_iload hx hb dX3_scan_59 (lv_at hl 1 rfl) ?_
        refine lv_if_ne (tgt := 66) hx hb dX3_scan_61 (by decide) (fun hc => ?_) (fun hc => ?_)
        · have hf := kneg hc hf
          refine lv_aload_n hx hb dX3_scan_66 rfl (lv_at hl 3 rfl) ?_
          refine va_get (ci := 3) (v := .ref a_odds) (C := RX3) (T := TX3) (N := 7) hx hb hts inX3 hown hK hP 0 rfl rfl 0 (by decide) (hts _ tw_119) (fun _ h9 => h9) rfl dX3_scan_67 ?_
          refine lv_iload_n hx hb dX3_scan_70 rfl (lv_at hl 5 rfl) ?_
          refine lv_iload hx hb dX3_scan_71 (lv_at hl 2 rfl) ?_
          refine lv_bipush (v := 48) hx hb dX3_scan_73 (by decide) ?_
          refine lv_isub hx hb dX3_scan_75 ?_
          obtain ⟨hin, f_odds_76, ev76, hf⟩ := wr_ex hf
          refine kiast hx hb hK hP hD hS 1 0 rfl rfl hin ev76 dX3_scan_76 (fun H locs hP hD hS => ?_)
          have hP : va_P D vwCl (w_Na_scan ct a_this a_odds a_lengths a_letters a_alike a_oddsTogether a_p1 a_p1_bytes n_p1_bytes f_size f_fault f_odds_76 f_lengths f_letters_49 f_p1_size f_p1_bytes) H := hP
          have hD : va_D A (w_Na_scan ct a_this a_odds a_lengths a_letters a_alike a_oddsTogether a_p1 a_p1_bytes n_p1_bytes f_size f_fault f_odds_76 f_lengths f_letters_49 f_p1_size f_p1_bytes) := hD
          refine lv_aload_n hx hb dX3_scan_77 rfl (lv_at hl 3 rfl) ?_
          refine va_get (ci := 3) (v := .ref a_lengths) (C := RX3) (T := TX3) (N := 7) hx hb hts inX3 hown hK hP 0 rfl rfl 1 (by decide) (hts _ tw_120) (fun _ h9 => h9) rfl dX3_scan_78 ?_
          refine lv_iload_n hx hb dX3_scan_81 rfl (lv_at hl 5 rfl) ?_
          refine lv_iload hx hb dX3_scan_82 (lv_at hl 1 rfl) ?_
          obtain ⟨hin, f_lengths_84, ev84, hf⟩ := wr_ex hf
          refine kiast hx hb hK hP hD hS 2 0 rfl rfl hin ev84 dX3_scan_84 (fun H locs hP hD hS => ?_)
          have hP : va_P D vwCl (w_Na_scan ct a_this a_odds a_lengths a_letters a_alike a_oddsTogether a_p1 a_p1_bytes n_p1_bytes f_size f_fault f_odds_76 f_lengths_84 f_letters_49 f_p1_size f_p1_bytes) H := hP
          have hD : va_D A (w_Na_scan ct a_this a_odds a_lengths a_letters a_alike a_oddsTogether a_p1 a_p1_bytes n_p1_bytes f_size f_fault f_odds_76 f_lengths_84 f_letters_49 f_p1_size f_p1_bytes) := hD
          refine lv_aload_n hx hb dX3_scan_85 rfl (lv_at hl 3 rfl) ?_
          refine lv_iload_n hx hb dX3_scan_86 rfl (lv_at hl 5 rfl) ?_
          refine lv_iconst (v := 1) hx hb dX3_scan_87 (by decide) ?_
          refine lv_iadd hx hb dX3_scan_88 ?_
          refine va_put (ci := 3) (v := .int (x3 + 1)) (ty := .int) (C := RX3) (T := TX3) (N := 7) hx hb hts inX3 tyX3 tyX3_ok nmX3 hown hK hP hD hS 0 rfl rfl 5 (by decide) (hts _ tw_124) (fun _ h9 => h9) rfl (tyX3_ok 5 (by decide)) rfl rfl (Nat.le_of_ble_eq_true rfl) dX3_scan_89 (fun H locs hP hD hS => ?_)
          have hP : va_P D vwCl (w_Na_scan ct a_this a_odds a_lengths a_letters a_alike a_oddsTogether a_p1 a_p1_bytes n_p1_bytes (x3 + 1) f_fault f_odds_76 f_lengths_84 f_letters_49 f_p1_size f_p1_bytes) H := hP
          have hD : va_D A (w_Na_scan ct a_this a_odds a_lengths a_letters a_alike a_oddsTogether a_p1 a_p1_bytes n_p1_bytes (x3 + 1) f_fault f_odds_76 f_lengths_84 f_letters_49 f_p1_size f_p1_bytes) := hD
          refine lv_iload_n hx hb dX3_scan_92 rfl (lv_at hl 0 rfl) ?_
          refine lv_aload_n hx hb dX3_scan_93 rfl (lv_at hl 4 rfl) ?_
          obtain ⟨v94, hc94, hf⟩ := cb1_some hf
          refine kcRV (q0 := 4) (ci := 8) (As := []) (rest := [.int ((x2 + 1) + v49)]) (st1 := [.int v94, .int ((x2 + 1) + v49)]) C (c_Te_size l D ct a_p1 a_p1_bytes f_p1_size v94 hc94) ⟨rfl, rfl⟩ yn_yX8_size tw_348 tw_349 tw_383 ⟨Nat.le_of_ble_eq_true rfl, Nat.le_of_ble_eq_true rfl⟩ ⟨Nat.zero_le _, Nat.zero_le _⟩ hP [4] rfl rfl rfl rfl hl.1 rfl rfl (Nat.le_of_ble_eq_true rfl) dX3_scan_94 rfl ?_
          refine lv_icmp_ne (tgt := 102) hx hb dX3_scan_97 (by decide) (fun hc => ?_) (fun hc => ?_)
          · have hf := kneg hc hf
            refine lv_aload_n hx hb dX3_scan_102 rfl (lv_at hl 4 rfl) ?_
            refine lv_iload_n hx hb dX3_scan_103 rfl (lv_at hl 0 rfl) ?_
            obtain ⟨v104, hc104, hf⟩ := cb1_some hf
            refine kcRV (q0 := 4) (ci := 8) (As := [.int ((x2 + 1) + v49)]) (rest := []) (st1 := [.int v104]) C (c_Te_byteAt l D ct a_p1 a_p1_bytes n_p1_bytes f_p1_size f_p1_bytes ((x2 + 1) + v49) v104 hc104) ⟨rfl, rfl⟩ yn_yX8_byteAt tw_385 tw_386 tw_384 ⟨Nat.le_of_ble_eq_true rfl, Nat.le_of_ble_eq_true rfl⟩ ⟨Nat.zero_le _, Nat.zero_le _⟩ hP [4, 5] rfl rfl rfl rfl hl.1 rfl rfl (Nat.le_of_ble_eq_true rfl) dX3_scan_104 rfl ?_
            refine lv_bipush (v := 59) hx hb dX3_scan_107 (by decide) ?_
            refine lv_icmp_eq (tgt := 114) hx hb dX3_scan_109 (by decide) (fun hc => ?_) (fun hc => ?_)
            · have hf := kpos hc hf
              refine lv_iinc (v := ((x2 + 1) + v49) + 1) (lv' := [(2, .int (((x2 + 1) + v49) + 1)), (5, .int v49), (4, .int v21), (0, .ref a_this), (1, .ref a_p1), (3, .int x3)]) hx hb dX3_scan_114 hl (k := 0) rfl rfl (by decide) rfl (fun ls hl => ?_)
              refine lv_iinc (v := x3 + 1) (lv' := [(3, .int (x3 + 1)), (2, .int (((x2 + 1) + v49) + 1)), (5, .int v49), (4, .int v21), (0, .ref a_this), (1, .ref a_p1)]) hx hb dX3_scan_117 hl (k := 5) rfl rfl (by decide) rfl (fun ls hl => ?_)
              refine lv_goto (tgt := 13) hx hb dX3_scan_120 (by decide) ?_
              exact hr13 (((x2 + 1) + v49) + 1) (x3 + 1) (x3 + 1) f_odds_76 f_lengths_84 f_letters_49 hf _ _ hP hD hS _ (lv_sub hl [4, 5, 1, 0] rfl)
            · have hf := kneg hc hf
              refine lv_iload_n hx hb dX3_scan_112 rfl (lv_at hl 0 rfl) ?_
              obtain ⟨e1, e2, e3, e4, e5⟩ := ti5 hf
              subst e1; subst e2; subst e3; subst e4; subst e5
              exact kretM C hP hD hS dX3_scan_113
          · have hf := kpos hc hf
            refine lv_iconst (v := (-1)) hx hb dX3_scan_100 (by decide) ?_
            obtain ⟨e1, e2, e3, e4, e5⟩ := ti5 hf
            subst e1; subst e2; subst e3; subst e4; subst e5
            exact kretM C hP hD hS dX3_scan_101
        · have hf := kpos hc hf
          refine lv_iload_n hx hb dX3_scan_64 rfl (lv_at hl 0 rfl) ?_
          obtain ⟨e1, e2, e3, e4, e5⟩ := ti5 hf
          subst e1; subst e2; subst e3; subst e4; subst e5
          exact kretM C hP hD hS dX3_scan_65
      · have hf := kneg hc hf
        refine lv_iload_n hx hb dX3_scan_40 rfl (lv_at hl 3 rfl) ?_
        obtain ⟨e1, e2, e3, e4, e5⟩ := ti5 hf
        subst e1; subst e2; subst e3; subst e4; subst e5
        exact kretM C hP hD hS dX3_scan_41
set_option maxHeartbeats 4000000 in
set_option maxRecDepth 100000 in
theorem t_Na_scan_l13 {p : Program} {l : Launch} {e : Env} {s : State} {m : MethodId} {args : Array Value} {below : List Frame} {meth : Method} {c : Code} {D : va_G} {ct : Nat → ClassId} (C : CX p s m args meth c RX3 cX3_scan 6 (some .int) D ct) {A : Nat → Prop} (hA : ∀ q : Nat, s.heap.size ≤ q → A q) (a_this a_odds a_lengths a_letters a_alike a_oddsTogether a_p1 a_p1_bytes : Nat) (n_p1_bytes : Nat) (f_fault : Int32) (F : Nat) (f_p1_size : Int32) (f_p1_bytes : Nat → Int32) (r : Int32) (r_size : Int32) (r_odds : Nat → Int32) (r_lengths : Nat → Int32) (r_letters : Nat → Int32) : ∀ (n : Nat) (x2 : Int32) (x3 : Int32) (f_size : Int32) (f_odds : Nat → Int32) (f_lengths : Nat → Int32) (f_letters : Nat → Int32), Na_scan_l13 F n_p1_bytes f_p1_size f_p1_bytes n x2 x3 f_size f_odds f_lengths f_letters = some (r, r_size, r_odds, r_lengths, r_letters) → ∀ (H : Heap) (locs : List Loc), va_P D vwCl (w_Na_scan ct a_this a_odds a_lengths a_letters a_alike a_oddsTogether a_p1 a_p1_bytes n_p1_bytes f_size f_fault f_odds f_lengths f_letters f_p1_size f_p1_bytes) H → va_D A (w_Na_scan ct a_this a_odds a_lengths a_letters a_alike a_oddsTogether a_p1 a_p1_bytes n_p1_bytes f_size f_fault f_odds f_lengths f_letters f_p1_size f_p1_bytes) → va_S A s.heap H locs → ∀ ls : Array Slot, lv_has ls 6 [(0, .ref a_this), (1, .ref a_p1), (2, .int x2), (3, .int x3)] → W p l e RM_Na_scan s m args below meth c H locs 0 0 (MQ below (QM D (some (.int r)) (w_Na_scan ct a_this a_odds a_lengths a_letters a_alike a_oddsTogether a_p1 a_p1_bytes n_p1_bytes r_size f_fault r_odds r_lengths r_letters f_p1_size f_p1_bytes) A) args s 0 0 A) (F0 m 13 ls []) := by
  intro n
  induction n with
  | zero =>
    intro x2 x3 f_size f_odds f_lengths f_letters hf
    exact absurd hf (by simp [Na_scan_l13])
  | succ n ih =>
    intro x2 x3 f_size f_odds f_lengths f_letters hf
    exact t_Na_scan_b13 C hA a_this a_odds a_lengths a_letters a_alike a_oddsTogether a_p1 a_p1_bytes n_p1_bytes f_fault F f_p1_size f_p1_bytes r r_size r_odds r_lengths r_letters (Na_scan_l13 F n_p1_bytes f_p1_size f_p1_bytes n) ih x2 x3 f_size f_odds f_lengths f_letters hf
set_option maxHeartbeats 4000000 in
set_option maxRecDepth 100000 in
theorem c_Na_scan (l : Launch) (D : va_G) (ct : Nat → ClassId) (a_this a_odds a_lengths a_letters a_alike a_oddsTogether a_p1 a_p1_bytes : Nat) (n_p1_bytes : Nat) (f_fault : Int32) (F : Nat) (f_p1_size : Int32) (f_p1_bytes : Nat → Int32) (f_size : Int32) (f_odds : Nat → Int32) (f_lengths : Nat → Int32) (f_letters : Nat → Int32) (r : Int32) (r_size : Int32) (r_odds : Nat → Int32) (r_lengths : Nat → Int32) (r_letters : Nat → Int32) (sz : Nat) (hf : Na_scan F n_p1_bytes f_p1_size f_p1_bytes f_size f_odds f_lengths f_letters = some (r, r_size, r_odds, r_lengths, r_letters)) : Met l yX3_scan (WS yX3_scan cX3_scan 6 (some .int)) RM_Na_scan (va_Pc [.ref a_this, .ref a_p1] (PM D ct sz (w_Na_scan ct a_this a_odds a_lengths a_letters a_alike a_oddsTogether a_p1 a_p1_bytes n_p1_bytes f_size f_fault f_odds f_lengths f_letters f_p1_size f_p1_bytes))) (QM D (some (.int r)) (w_Na_scan ct a_this a_odds a_lengths a_letters a_alike a_oddsTogether a_p1 a_p1_bytes n_p1_bytes r_size f_fault r_odds r_lengths r_letters f_p1_size f_p1_bytes) (va_A (w_Na_scan ct a_this a_odds a_lengths a_letters a_alike a_oddsTogether a_p1 a_p1_bytes n_p1_bytes f_size f_fault f_odds f_lengths f_letters f_p1_size f_p1_bytes) sz)) 0 0 (va_A (w_Na_scan ct a_this a_odds a_lengths a_letters a_alike a_oddsTogether a_p1 a_p1_bytes n_p1_bytes f_size f_fault f_odds f_lengths f_letters f_p1_size f_p1_bytes) sz) := by
  refine kMetM yn_yX3_scan rfl (Nat.le_of_ble_eq_true rfl) ?_
  intro p e s m args below meth c A C hA hP hD ls hl
  have hl : lv_has ls 6 [(0, .ref a_this), (1, .ref a_p1)] := hl
  have hS : va_S A s.heap s.heap [] := va_S.rf
  obtain ⟨hx, hb, hr, hml, hown, hts, hlk, hK, hN⟩ := id C
  unfold Na_scan at hf
  refine lv_iconst (v := 0) hx hb dX3_scan_0 (by decide) ?_
  refine lv_istore_n (lv' := [(2, .int 0), (0, .ref a_this), (1, .ref a_p1)]) hx hb dX3_scan_1 rfl hl (by decide) rfl (fun ls hl => ?_)
  refine lv_aload_n hx hb dX3_scan_2 rfl (lv_at hl 2 rfl) ?_
  obtain ⟨v3, hc3, hf⟩ := cb1_some hf
  refine kcRV (q0 := 4) (ci := 8) (As := []) (rest := []) (st1 := [.int v3]) C (c_Te_size l D ct a_p1 a_p1_bytes f_p1_size v3 hc3) ⟨rfl, rfl⟩ yn_yX8_size tw_348 tw_349 tw_383 ⟨Nat.le_of_ble_eq_true rfl, Nat.le_of_ble_eq_true rfl⟩ ⟨Nat.zero_le _, Nat.zero_le _⟩ hP [4] rfl rfl rfl rfl hl.1 rfl rfl (Nat.le_of_ble_eq_true rfl) dX3_scan_3 rfl ?_
  refine lv_if_ne (tgt := 11) hx hb dX3_scan_6 (by decide) (fun hc => ?_) (fun hc => ?_)
  · have hf := kneg hc hf
    refine lv_iconst (v := 0) hx hb dX3_scan_11 (by decide) ?_
    refine lv_istore_n (lv' := [(3, .int 0), (2, .int 0), (0, .ref a_this), (1, .ref a_p1)]) hx hb dX3_scan_12 rfl hl (by decide) rfl (fun ls hl => ?_)
    exact t_Na_scan_l13 C hA a_this a_odds a_lengths a_letters a_alike a_oddsTogether a_p1 a_p1_bytes n_p1_bytes f_fault F f_p1_size f_p1_bytes r r_size r_odds r_lengths r_letters F 0 0 f_size f_odds f_lengths f_letters hf _ _ hP hD hS _ (lv_sub hl [2, 3, 1, 0] rfl)
  · have hf := kpos hc hf
    refine lv_iconst (v := (-1)) hx hb dX3_scan_9 (by decide) ?_
    obtain ⟨e1, e2, e3, e4, e5⟩ := ti5 hf
    subst e1; subst e2; subst e3; subst e4; subst e5
    exact kretM C hP hD hS dX3_scan_10
def RM_Jarr_fill : Room := { frames := 0, cells := 0, slots := 0, locals := 0 }
set_option maxHeartbeats 4000000 in
set_option maxRecDepth 100000 in
theorem t_Jarr_fill_b5 {p : Program} {l : Launch} {e : Env} {s : State} {m : MethodId} {args : Array Value} {below : List Frame} {meth : Method} {c : Code} {D : va_G} {ct : Nat → ClassId} (C : CX p s m args meth c RJ7 cJ7_fill_53178 4 none D ct) {A : Nat → Prop} (hA : ∀ q : Nat, s.heap.size ≤ q → A q) (a_p1 : Nat) (n_p1 : Nat) (F : Nat) (x1 : Int32) (r_p1 : Nat → Int32) (rec5 : Int32 → Int32 → (Nat → Int32) → Option ((Nat → Int32))) (hr5 : ∀ (x2 : Int32) (x3 : Int32) (f_p1 : Nat → Int32), rec5 x2 x3 f_p1 = some r_p1 → ∀ (H : Heap) (locs : List Loc), va_P D vwCl (w_Jarr_fill ct a_p1 n_p1 f_p1) H → va_D A (w_Jarr_fill ct a_p1 n_p1 f_p1) → va_S A s.heap H locs → ∀ ls : Array Slot, lv_has ls 4 [(0, .ref a_p1), (1, .int x1), (2, .int x2), (3, .int x3)] → W p l e RM_Jarr_fill s m args below meth c H locs 0 0 (MQ below (QM D none (w_Jarr_fill ct a_p1 n_p1 r_p1) A) args s 0 0 A) (F0 m 5 ls [])) : ∀ (x2 : Int32) (x3 : Int32) (f_p1 : Nat → Int32), Jarr_fill_b5 F n_p1 x1 rec5 x2 x3 f_p1 = some r_p1 → ∀ (H : Heap) (locs : List Loc), va_P D vwCl (w_Jarr_fill ct a_p1 n_p1 f_p1) H → va_D A (w_Jarr_fill ct a_p1 n_p1 f_p1) → va_S A s.heap H locs → ∀ ls : Array Slot, lv_has ls 4 [(0, .ref a_p1), (1, .int x1), (2, .int x2), (3, .int x3)] → W p l e RM_Jarr_fill s m args below meth c H locs 0 0 (MQ below (QM D none (w_Jarr_fill ct a_p1 n_p1 r_p1) A) args s 0 0 A) (F0 m 5 ls []) := by
  obtain ⟨hx, hb, hr, hml, hown, hts, hlk, hK, hN⟩ := id C
  intro x2 x3 f_p1 hf H locs hP hD hS ls hl
  unfold Jarr_fill_b5 at hf
  refine lv_iload_n hx hb dJ7_fill_53178_5 rfl (lv_at hl 2 rfl) ?_
  refine lv_iload_n hx hb dJ7_fill_53178_6 rfl (lv_at hl 3 rfl) ?_
  refine lv_icmp_ge (tgt := 20) hx hb dJ7_fill_53178_7 (by decide) (fun hc => ?_) (fun hc => ?_)
  · have hf := kpos hc hf
    have e1 := Option.some.inj hf
    subst e1
    exact kretMv C hP hD hS dJ7_fill_53178_20
  · have hf := kneg hc hf
    refine lv_aload_n hx hb dJ7_fill_53178_10 rfl (lv_at hl 0 rfl) ?_
    refine lv_iload_n hx hb dJ7_fill_53178_11 rfl (lv_at hl 2 rfl) ?_
    refine lv_iload_n hx hb dJ7_fill_53178_12 rfl (lv_at hl 1 rfl) ?_
    obtain ⟨hin, f_p1_13, ev13, hf⟩ := wr_ex hf
    refine kiast hx hb hK hP hD hS 0 0 rfl rfl hin ev13 dJ7_fill_53178_13 (fun H locs hP hD hS => ?_)
    have hP : va_P D vwCl (w_Jarr_fill ct a_p1 n_p1 f_p1_13) H := hP
    have hD : va_D A (w_Jarr_fill ct a_p1 n_p1 f_p1_13) := hD
    refine lv_iinc (v := x2 + 1) (lv' := [(2, .int (x2 + 1)), (0, .ref a_p1), (1, .int x1), (3, .int x3)]) hx hb dJ7_fill_53178_14 hl (k := 2) rfl rfl (by decide) rfl (fun ls hl => ?_)
    refine lv_goto (tgt := 5) hx hb dJ7_fill_53178_17 (by decide) ?_
    exact hr5 (x2 + 1) x3 f_p1_13 hf _ _ hP hD hS _ (lv_sub hl [1, 2, 0, 3] rfl)
set_option maxHeartbeats 4000000 in
set_option maxRecDepth 100000 in
theorem t_Jarr_fill_l5 {p : Program} {l : Launch} {e : Env} {s : State} {m : MethodId} {args : Array Value} {below : List Frame} {meth : Method} {c : Code} {D : va_G} {ct : Nat → ClassId} (C : CX p s m args meth c RJ7 cJ7_fill_53178 4 none D ct) {A : Nat → Prop} (hA : ∀ q : Nat, s.heap.size ≤ q → A q) (a_p1 : Nat) (n_p1 : Nat) (F : Nat) (x1 : Int32) (r_p1 : Nat → Int32) : ∀ (n : Nat) (x2 : Int32) (x3 : Int32) (f_p1 : Nat → Int32), Jarr_fill_l5 F n_p1 x1 n x2 x3 f_p1 = some r_p1 → ∀ (H : Heap) (locs : List Loc), va_P D vwCl (w_Jarr_fill ct a_p1 n_p1 f_p1) H → va_D A (w_Jarr_fill ct a_p1 n_p1 f_p1) → va_S A s.heap H locs → ∀ ls : Array Slot, lv_has ls 4 [(0, .ref a_p1), (1, .int x1), (2, .int x2), (3, .int x3)] → W p l e RM_Jarr_fill s m args below meth c H locs 0 0 (MQ below (QM D none (w_Jarr_fill ct a_p1 n_p1 r_p1) A) args s 0 0 A) (F0 m 5 ls []) := by
  intro n
  induction n with
  | zero =>
    intro x2 x3 f_p1 hf
    exact absurd hf (by simp [Jarr_fill_l5])
  | succ n ih =>
    intro x2 x3 f_p1 hf
    exact t_Jarr_fill_b5 C hA a_p1 n_p1 F x1 r_p1 (Jarr_fill_l5 F n_p1 x1 n) ih x2 x3 f_p1 hf
set_option maxHeartbeats 4000000 in
set_option maxRecDepth 100000 in
theorem c_Jarr_fill (l : Launch) (D : va_G) (ct : Nat → ClassId) (a_p1 : Nat) (n_p1 : Nat) (F : Nat) (f_p1 : Nat → Int32) (x1 : Int32) (r_p1 : Nat → Int32) (sz : Nat) (hf : Jarr_fill F n_p1 f_p1 x1 = some r_p1) : Met l yJ7_fill_53178 (WS yJ7_fill_53178 cJ7_fill_53178 4 none) RM_Jarr_fill (va_Pc [.ref a_p1, .int x1] (PM D ct sz (w_Jarr_fill ct a_p1 n_p1 f_p1))) (QM D none (w_Jarr_fill ct a_p1 n_p1 r_p1) (va_A (w_Jarr_fill ct a_p1 n_p1 f_p1) sz)) 0 0 (va_A (w_Jarr_fill ct a_p1 n_p1 f_p1) sz) := by
  refine kMetM yn_yJ7_fill_53178 rfl (Nat.le_of_ble_eq_true rfl) ?_
  intro p e s m args below meth c A C hA hP hD ls hl
  have hl : lv_has ls 4 [(0, .ref a_p1), (1, .int x1)] := hl
  have hS : va_S A s.heap s.heap [] := va_S.rf
  obtain ⟨hx, hb, hr, hml, hown, hts, hlk, hK, hN⟩ := id C
  unfold Jarr_fill at hf
  refine lv_iconst (v := 0) hx hb dJ7_fill_53178_0 (by decide) ?_
  refine lv_istore_n (lv' := [(2, .int 0), (0, .ref a_p1), (1, .int x1)]) hx hb dJ7_fill_53178_1 rfl hl (by decide) rfl (fun ls hl => ?_)
  refine lv_aload_n hx hb dJ7_fill_53178_2 rfl (lv_at hl 1 rfl) ?_
  refine va_alen (v := Int32.ofNat n_p1) hx hb hK hP 0 0 rfl rfl rfl dJ7_fill_53178_3 ?_
  refine lv_istore_n (lv' := [(3, .int (Int32.ofNat n_p1)), (2, .int 0), (0, .ref a_p1), (1, .int x1)]) hx hb dJ7_fill_53178_4 rfl hl (by decide) rfl (fun ls hl => ?_)
  exact t_Jarr_fill_l5 C hA a_p1 n_p1 F x1 r_p1 F 0 (Int32.ofNat n_p1) f_p1 hf _ _ hP hD hS _ (lv_sub hl [2, 3, 1, 0] rfl)
def RM_Na_letterAt : Room := { frames := 0, cells := 0, slots := 0, locals := 0 }
set_option maxHeartbeats 4000000 in
set_option maxRecDepth 100000 in
theorem c_Na_letterAt (l : Launch) (D : va_G) (ct : Nat → ClassId) (a_this a_odds a_lengths a_letters a_alike a_oddsTogether : Nat) (f_fault : Int32) (f_size : Int32) (f_lengths : Nat → Int32) (f_letters : Nat → Int32) (x1 : Int32) (x2 : Int32) (r : Int32) (hf : Na_letterAt f_size f_lengths f_letters x1 x2 = some r) : Met l yX3_letterAt (WS yX3_letterAt cX3_letterAt 3 (some .int)) RM_Na_letterAt (va_Pc [.ref a_this, .int x1, .int x2] (PR D ct (w_Na_letterAt ct a_this a_odds a_lengths a_letters a_alike a_oddsTogether f_size f_fault f_lengths f_letters))) (QR (some (.int r))) 0 0 (fun _ => False) := by
  refine kMetR yn_yX3_letterAt rfl (Nat.le_of_ble_eq_true rfl) ?_
  intro p e s m args below meth c C hP ls hl
  have hl : lv_has ls 3 [(0, .ref a_this), (1, .int x1), (2, .int x2)] := hl
  obtain ⟨hx, hb, hr, hml, hown, hts, hlk, hK, hN⟩ := id C
  unfold Na_letterAt at hf
  refine lv_iload_n hx hb dX3_letterAt_0 rfl (lv_at hl 1 rfl) ?_
  refine lv_if_lt (tgt := 26) hx hb dX3_letterAt_1 (by decide) (fun hc => ?_) (fun hc => ?_)
  · have hf := kpos hc hf
    refine lv_iconst (v := (-1)) hx hb dX3_letterAt_26 (by decide) ?_
    have e1 := Option.some.inj hf
    subst e1
    exact kretR C dX3_letterAt_27
  · have hf := kneg hc hf
    refine lv_iload_n hx hb dX3_letterAt_4 rfl (lv_at hl 1 rfl) ?_
    refine lv_aload_n hx hb dX3_letterAt_5 rfl (lv_at hl 0 rfl) ?_
    refine va_get (ci := 3) (v := .int f_size) (C := RX3) (T := TX3) (N := 7) hx hb hts inX3 hown hK hP 0 rfl rfl 5 (by decide) (hts _ tw_124) (fun _ h9 => h9) rfl dX3_letterAt_6 ?_
    refine lv_icmp_ge (tgt := 26) hx hb dX3_letterAt_9 (by decide) (fun hc => ?_) (fun hc => ?_)
    · have hf := kpos hc hf
      refine lv_iconst (v := (-1)) hx hb dX3_letterAt_26 (by decide) ?_
      have e1 := Option.some.inj hf
      subst e1
      exact kretR C dX3_letterAt_27
    · have hf := kneg hc hf
      refine lv_iload_n hx hb dX3_letterAt_12 rfl (lv_at hl 2 rfl) ?_
      refine lv_if_lt (tgt := 26) hx hb dX3_letterAt_13 (by decide) (fun hc => ?_) (fun hc => ?_)
      · have hf := kpos hc hf
        refine lv_iconst (v := (-1)) hx hb dX3_letterAt_26 (by decide) ?_
        have e1 := Option.some.inj hf
        subst e1
        exact kretR C dX3_letterAt_27
      · have hf := kneg hc hf
        refine lv_iload_n hx hb dX3_letterAt_16 rfl (lv_at hl 2 rfl) ?_
        refine lv_aload_n hx hb dX3_letterAt_17 rfl (lv_at hl 0 rfl) ?_
        refine va_get (ci := 3) (v := .ref a_lengths) (C := RX3) (T := TX3) (N := 7) hx hb hts inX3 hown hK hP 0 rfl rfl 1 (by decide) (hts _ tw_120) (fun _ h9 => h9) rfl dX3_letterAt_18 ?_
        refine lv_iload_n hx hb dX3_letterAt_21 rfl (lv_at hl 1 rfl) ?_
        obtain ⟨hin, hf⟩ := rd_some hf
        generalize ev22 : f_lengths (Int32.toNatClampNeg x1) = v22 at hf
        refine kiald hx hb hK hP 1 0 rfl rfl hin ev22 dX3_letterAt_22 ?_
        refine lv_icmp_lt (tgt := 28) hx hb dX3_letterAt_23 (by decide) (fun hc => ?_) (fun hc => ?_)
        · have hf := kpos hc hf
          refine lv_aload_n hx hb dX3_letterAt_28 rfl (lv_at hl 0 rfl) ?_
          refine va_get (ci := 3) (v := .ref a_letters) (C := RX3) (T := TX3) (N := 7) hx hb hts inX3 hown hK hP 0 rfl rfl 2 (by decide) (hts _ tw_121) (fun _ h9 => h9) rfl dX3_letterAt_29 ?_
          refine lv_iload_n hx hb dX3_letterAt_32 rfl (lv_at hl 1 rfl) ?_
          refine lv_bipush (v := 6) hx hb dX3_letterAt_33 (by decide) ?_
          refine lv_imul hx hb dX3_letterAt_35 ?_
          refine lv_iload_n hx hb dX3_letterAt_36 rfl (lv_at hl 2 rfl) ?_
          refine lv_iadd hx hb dX3_letterAt_37 ?_
          obtain ⟨hin, hf⟩ := rd_some hf
          generalize ev38 : f_letters (Int32.toNatClampNeg ((x1 * 6) + x2)) = v38 at hf
          refine kiald hx hb hK hP 2 0 rfl rfl hin ev38 dX3_letterAt_38 ?_
          have e1 := Option.some.inj hf
          subst e1
          exact kretR C dX3_letterAt_39
        · have hf := kneg hc hf
          refine lv_iconst (v := (-1)) hx hb dX3_letterAt_26 (by decide) ?_
          have e1 := Option.some.inj hf
          subst e1
          exact kretR C dX3_letterAt_27
def RM_Na_groupBySound : Room := { frames := 1, cells := 0, slots := 0, locals := 23 }
set_option maxHeartbeats 4000000 in
set_option maxRecDepth 100000 in
theorem t_Na_groupBySound_b56 {p : Program} {l : Launch} {e : Env} {s : State} {m : MethodId} {args : Array Value} {below : List Frame} {meth : Method} {c : Code} {D : va_G} {ct : Nat → ClassId} (C : CX p s m args meth c RX3 cX3_groupBySound 3 none D ct) {A : Nat → Prop} (hA : ∀ q : Nat, s.heap.size ≤ q → A q) (a_this a_odds a_lengths a_letters a_alike a_oddsTogether : Nat) (f_fault : Int32) (F : Nat) (f_size : Int32) (f_lengths : Nat → Int32) (f_letters : Nat → Int32) (r_alike : Nat → Int32) (rec10 : Int32 → (Nat → Int32) → Option ((Nat → Int32))) (hr10 : ∀ (x1 : Int32) (f_alike : Nat → Int32), rec10 x1 f_alike = some r_alike → ∀ (H : Heap) (locs : List Loc), va_P D vwCl (w_Na_groupBySound ct a_this a_odds a_lengths a_letters a_alike a_oddsTogether f_size f_fault f_lengths f_letters f_alike) H → va_D A (w_Na_groupBySound ct a_this a_odds a_lengths a_letters a_alike a_oddsTogether f_size f_fault f_lengths f_letters f_alike) → va_S A s.heap H locs → ∀ ls : Array Slot, lv_has ls 3 [(0, .ref a_this), (1, .int x1)] → W p l e RM_Na_groupBySound s m args below meth c H locs 0 0 (MQ below (QM D none (w_Na_groupBySound ct a_this a_odds a_lengths a_letters a_alike a_oddsTogether f_size f_fault f_lengths f_letters r_alike) A) args s 0 0 A) (F0 m 10 ls [])) : ∀ (x1 : Int32) (f_alike : Nat → Int32), Na_groupBySound_b56 F f_size f_lengths f_letters rec10 x1 f_alike = some r_alike → ∀ (H : Heap) (locs : List Loc), va_P D vwCl (w_Na_groupBySound ct a_this a_odds a_lengths a_letters a_alike a_oddsTogether f_size f_fault f_lengths f_letters f_alike) H → va_D A (w_Na_groupBySound ct a_this a_odds a_lengths a_letters a_alike a_oddsTogether f_size f_fault f_lengths f_letters f_alike) → va_S A s.heap H locs → ∀ ls : Array Slot, lv_has ls 3 [(0, .ref a_this), (1, .int x1)] → W p l e RM_Na_groupBySound s m args below meth c H locs 0 0 (MQ below (QM D none (w_Na_groupBySound ct a_this a_odds a_lengths a_letters a_alike a_oddsTogether f_size f_fault f_lengths f_letters r_alike) A) args s 0 0 A) (F0 m 56 ls []) := by
  obtain ⟨hx, hb, hr, hml, hown, hts, hlk, hK, hN⟩ := id C
  intro x1 f_alike hf H locs hP hD hS ls hl
  unfold Na_groupBySound_b56 at hf
  refine lv_iinc (v := x1 + 1) (lv' := [(1, .int (x1 + 1)), (0, .ref a_this)]) hx hb dX3_groupBySound_56 hl (k := 1) rfl rfl (by decide) rfl (fun ls hl => ?_)
  refine lv_goto (tgt := 10) hx hb dX3_groupBySound_59 (by decide) ?_
  exact hr10 (x1 + 1) f_alike hf _ _ hP hD hS _ (lv_sub hl [1, 0] rfl)
set_option maxHeartbeats 4000000 in
set_option maxRecDepth 100000 in
theorem t_Na_groupBySound_b18 {p : Program} {l : Launch} {e : Env} {s : State} {m : MethodId} {args : Array Value} {below : List Frame} {meth : Method} {c : Code} {D : va_G} {ct : Nat → ClassId} (C : CX p s m args meth c RX3 cX3_groupBySound 3 none D ct) {A : Nat → Prop} (hA : ∀ q : Nat, s.heap.size ≤ q → A q) (a_this a_odds a_lengths a_letters a_alike a_oddsTogether : Nat) (f_fault : Int32) (F : Nat) (f_size : Int32) (f_lengths : Nat → Int32) (f_letters : Nat → Int32) (r_alike : Nat → Int32) (rec10 : Int32 → (Nat → Int32) → Option ((Nat → Int32))) (rec18 : Int32 → Int32 → (Nat → Int32) → Option ((Nat → Int32))) (hr10 : ∀ (x1 : Int32) (f_alike : Nat → Int32), rec10 x1 f_alike = some r_alike → ∀ (H : Heap) (locs : List Loc), va_P D vwCl (w_Na_groupBySound ct a_this a_odds a_lengths a_letters a_alike a_oddsTogether f_size f_fault f_lengths f_letters f_alike) H → va_D A (w_Na_groupBySound ct a_this a_odds a_lengths a_letters a_alike a_oddsTogether f_size f_fault f_lengths f_letters f_alike) → va_S A s.heap H locs → ∀ ls : Array Slot, lv_has ls 3 [(0, .ref a_this), (1, .int x1)] → W p l e RM_Na_groupBySound s m args below meth c H locs 0 0 (MQ below (QM D none (w_Na_groupBySound ct a_this a_odds a_lengths a_letters a_alike a_oddsTogether f_size f_fault f_lengths f_letters r_alike) A) args s 0 0 A) (F0 m 10 ls [])) (hr18 : ∀ (x1 : Int32) (x2 : Int32) (f_alike : Nat → Int32), rec18 x1 x2 f_alike = some r_alike → ∀ (H : Heap) (locs : List Loc), va_P D vwCl (w_Na_groupBySound ct a_this a_odds a_lengths a_letters a_alike a_oddsTogether f_size f_fault f_lengths f_letters f_alike) H → va_D A (w_Na_groupBySound ct a_this a_odds a_lengths a_letters a_alike a_oddsTogether f_size f_fault f_lengths f_letters f_alike) → va_S A s.heap H locs → ∀ ls : Array Slot, lv_has ls 3 [(0, .ref a_this), (1, .int x1), (2, .int x2)] → W p l e RM_Na_groupBySound s m args below meth c H locs 0 0 (MQ below (QM D none (w_Na_groupBySound ct a_this a_odds a_lengths a_letters a_alike a_oddsTogether f_size f_fault f_lengths f_letters r_alike) A) args s 0 0 A) (F0 m 18 ls [])) : ∀ (x1 : Int32) (x2 : Int32) (f_alike : Nat → Int32), Na_groupBySound_b18 F f_size f_lengths f_letters rec10 rec18 x1 x2 f_alike = some r_alike → ∀ (H : Heap) (locs : List Loc), va_P D vwCl (w_Na_groupBySound ct a_this a_odds a_lengths a_letters a_alike a_oddsTogether f_size f_fault f_lengths f_letters f_alike) H → va_D A (w_Na_groupBySound ct a_this a_odds a_lengths a_letters a_alike a_oddsTogether f_size f_fault f_lengths f_letters f_alike) → va_S A s.heap H locs → ∀ ls : Array Slot, lv_has ls 3 [(0, .ref a_this), (1, .int x1), (2, .int x2)] → W p l e RM_Na_groupBySound s m args below meth c H locs 0 0 (MQ below (QM D none (w_Na_groupBySound ct a_this a_odds a_lengths a_letters a_alike a_oddsTogether f_size f_fault f_lengths f_letters r_alike) A) args s 0 0 A) (F0 m 18 ls []) := by
  obtain ⟨hx, hb, hr, hml, hown, hts, hlk, hK, hN⟩ := id C
  intro x1 x2 f_alike hf H locs hP hD hS ls hl
  unfold Na_groupBySound_b18 at hf
  refine lv_iload_n hx hb dX3_groupBySound_18 rfl (lv_at hl 2 rfl) ?_
  refine lv_aload_n hx hb dX3_groupBySound_19 rfl (lv_at hl 0 rfl) ?_
  refine va_get (ci := 3) (v := .int f_size) (C := RX3) (T := TX3) (N := 7) hx hb hts inX3 hown hK hP 0 rfl rfl 5 (by decide) (hts _ tw_124) (fun _ h9 => h9) rfl dX3_groupBySound_20 ?_
  refine lv_icmp_ge (tgt := 56) hx hb dX3_groupBySound_23 (by decide) (fun hc => ?_) (fun hc => ?_)
  · have hf := kpos hc hf
    exact t_Na_groupBySound_b56 C hA a_this a_odds a_lengths a_letters a_alike a_oddsTogether f_fault F f_size f_lengths f_letters r_alike rec10 hr10 x1 f_alike hf _ _ hP hD hS _ (lv_sub hl [0, 1] rfl)
  · have hf := kneg hc hf
    refine lv_aload_n hx hb dX3_groupBySound_26 rfl (lv_at hl 0 rfl) ?_
    refine va_get (ci := 3) (v := .ref a_alike) (C := RX3) (T := TX3) (N := 7) hx hb hts inX3 hown hK hP 0 rfl rfl 3 (by decide) (hts _ tw_122) (fun _ h9 => h9) rfl dX3_groupBySound_27 ?_
    refine lv_iload_n hx hb dX3_groupBySound_30 rfl (lv_at hl 1 rfl) ?_
    refine lv_bipush (v := 7) hx hb dX3_groupBySound_31 (by decide) ?_
    refine lv_imul hx hb dX3_groupBySound_33 ?_
    refine lv_aload_n hx hb dX3_groupBySound_34 rfl (lv_at hl 0 rfl) ?_
    refine lv_iload_n hx hb dX3_groupBySound_35 rfl (lv_at hl 2 rfl) ?_
    refine lv_iload_n hx hb dX3_groupBySound_36 rfl (lv_at hl 1 rfl) ?_
    obtain ⟨v37, hc37, hf⟩ := cb1_some hf
    refine kcRV (q0 := 0) (ci := 3) (As := [.int x2, .int x1]) (rest := [.int (x1 * 7), .ref a_alike]) (st1 := [.int v37, .int (x1 * 7), .ref a_alike]) C (c_Na_letterAt l D ct a_this a_odds a_lengths a_letters a_alike a_oddsTogether f_fault f_size f_lengths f_letters x2 x1 v37 hc37) ⟨rfl, rfl⟩ yn_yX3_letterAt tw_403 tw_404 tw_402 ⟨Nat.le_of_ble_eq_true rfl, Nat.le_of_ble_eq_true rfl⟩ ⟨Nat.zero_le _, Nat.zero_le _⟩ hP [0, 1, 2] rfl rfl rfl rfl hl.1 rfl rfl (Nat.le_of_ble_eq_true rfl) dX3_groupBySound_37 rfl ?_
    refine lv_iadd hx hb dX3_groupBySound_40 ?_
    refine lv_iconst (v := 1) hx hb dX3_groupBySound_41 (by decide) ?_
    refine lv_iadd hx hb dX3_groupBySound_42 ?_
    refine lv_dup2_11 hx hb dX3_groupBySound_43 rfl rfl ?_
    obtain ⟨hin, hf⟩ := rd_some hf
    generalize ev44 : f_alike (Int32.toNatClampNeg (((x1 * 7) + v37) + 1)) = v44 at hf
    refine kiald hx hb hK hP 3 0 rfl rfl hin ev44 dX3_groupBySound_44 ?_
    refine lv_iconst (v := 1) hx hb dX3_groupBySound_45 (by decide) ?_
    refine lv_iload_n hx hb dX3_groupBySound_46 rfl (lv_at hl 2 rfl) ?_
    refine lv_ishl hx hb dX3_groupBySound_47 ?_
    refine lv_ior hx hb dX3_groupBySound_48 ?_
    obtain ⟨hin, f_alike_49, ev49, hf⟩ := wr_ex hf
    refine kiast hx hb hK hP hD hS 3 0 rfl rfl hin ev49 dX3_groupBySound_49 (fun H locs hP hD hS => ?_)
    have hP : va_P D vwCl (w_Na_groupBySound ct a_this a_odds a_lengths a_letters a_alike a_oddsTogether f_size f_fault f_lengths f_letters f_alike_49) H := hP
    have hD : va_D A (w_Na_groupBySound ct a_this a_odds a_lengths a_letters a_alike a_oddsTogether f_size f_fault f_lengths f_letters f_alike_49) := hD
    refine lv_iinc (v := x2 + 1) (lv' := [(2, .int (x2 + 1)), (0, .ref a_this), (1, .int x1)]) hx hb dX3_groupBySound_50 hl (k := 2) rfl rfl (by decide) rfl (fun ls hl => ?_)
    refine lv_goto (tgt := 18) hx hb dX3_groupBySound_53 (by decide) ?_
    exact hr18 x1 (x2 + 1) f_alike_49 hf _ _ hP hD hS _ (lv_sub hl [1, 2, 0] rfl)
set_option maxHeartbeats 4000000 in
set_option maxRecDepth 100000 in
theorem t_Na_groupBySound_l18 {p : Program} {l : Launch} {e : Env} {s : State} {m : MethodId} {args : Array Value} {below : List Frame} {meth : Method} {c : Code} {D : va_G} {ct : Nat → ClassId} (C : CX p s m args meth c RX3 cX3_groupBySound 3 none D ct) {A : Nat → Prop} (hA : ∀ q : Nat, s.heap.size ≤ q → A q) (a_this a_odds a_lengths a_letters a_alike a_oddsTogether : Nat) (f_fault : Int32) (F : Nat) (f_size : Int32) (f_lengths : Nat → Int32) (f_letters : Nat → Int32) (r_alike : Nat → Int32) (rec10 : Int32 → (Nat → Int32) → Option ((Nat → Int32))) (hr10 : ∀ (x1 : Int32) (f_alike : Nat → Int32), rec10 x1 f_alike = some r_alike → ∀ (H : Heap) (locs : List Loc), va_P D vwCl (w_Na_groupBySound ct a_this a_odds a_lengths a_letters a_alike a_oddsTogether f_size f_fault f_lengths f_letters f_alike) H → va_D A (w_Na_groupBySound ct a_this a_odds a_lengths a_letters a_alike a_oddsTogether f_size f_fault f_lengths f_letters f_alike) → va_S A s.heap H locs → ∀ ls : Array Slot, lv_has ls 3 [(0, .ref a_this), (1, .int x1)] → W p l e RM_Na_groupBySound s m args below meth c H locs 0 0 (MQ below (QM D none (w_Na_groupBySound ct a_this a_odds a_lengths a_letters a_alike a_oddsTogether f_size f_fault f_lengths f_letters r_alike) A) args s 0 0 A) (F0 m 10 ls [])) : ∀ (n : Nat) (x1 : Int32) (x2 : Int32) (f_alike : Nat → Int32), Na_groupBySound_l18 F f_size f_lengths f_letters rec10 n x1 x2 f_alike = some r_alike → ∀ (H : Heap) (locs : List Loc), va_P D vwCl (w_Na_groupBySound ct a_this a_odds a_lengths a_letters a_alike a_oddsTogether f_size f_fault f_lengths f_letters f_alike) H → va_D A (w_Na_groupBySound ct a_this a_odds a_lengths a_letters a_alike a_oddsTogether f_size f_fault f_lengths f_letters f_alike) → va_S A s.heap H locs → ∀ ls : Array Slot, lv_has ls 3 [(0, .ref a_this), (1, .int x1), (2, .int x2)] → W p l e RM_Na_groupBySound s m args below meth c H locs 0 0 (MQ below (QM D none (w_Na_groupBySound ct a_this a_odds a_lengths a_letters a_alike a_oddsTogether f_size f_fault f_lengths f_letters r_alike) A) args s 0 0 A) (F0 m 18 ls []) := by
  intro n
  induction n with
  | zero =>
    intro x1 x2 f_alike hf
    exact absurd hf (by simp [Na_groupBySound_l18])
  | succ n ih =>
    intro x1 x2 f_alike hf
    exact t_Na_groupBySound_b18 C hA a_this a_odds a_lengths a_letters a_alike a_oddsTogether f_fault F f_size f_lengths f_letters r_alike rec10 (Na_groupBySound_l18 F f_size f_lengths f_letters rec10 n) hr10 ih x1 x2 f_alike hf
set_option maxHeartbeats 4000000 in
set_option maxRecDepth 100000 in
theorem t_Na_groupBySound_b10 {p : Program} {l : Launch} {e : Env} {s : State} {m : MethodId} {args : Array Value} {below : List Frame} {meth : Method} {c : Code} {D : va_G} {ct : Nat → ClassId} (C : CX p s m args meth c RX3 cX3_groupBySound 3 none D ct) {A : Nat → Prop} (hA : ∀ q : Nat, s.heap.size ≤ q → A q) (a_this a_odds a_lengths a_letters a_alike a_oddsTogether : Nat) (f_fault : Int32) (F : Nat) (f_size : Int32) (f_lengths : Nat → Int32) (f_letters : Nat → Int32) (r_alike : Nat → Int32) (rec10 : Int32 → (Nat → Int32) → Option ((Nat → Int32))) (hr10 : ∀ (x1 : Int32) (f_alike : Nat → Int32), rec10 x1 f_alike = some r_alike → ∀ (H : Heap) (locs : List Loc), va_P D vwCl (w_Na_groupBySound ct a_this a_odds a_lengths a_letters a_alike a_oddsTogether f_size f_fault f_lengths f_letters f_alike) H → va_D A (w_Na_groupBySound ct a_this a_odds a_lengths a_letters a_alike a_oddsTogether f_size f_fault f_lengths f_letters f_alike) → va_S A s.heap H locs → ∀ ls : Array Slot, lv_has ls 3 [(0, .ref a_this), (1, .int x1)] → W p l e RM_Na_groupBySound s m args below meth c H locs 0 0 (MQ below (QM D none (w_Na_groupBySound ct a_this a_odds a_lengths a_letters a_alike a_oddsTogether f_size f_fault f_lengths f_letters r_alike) A) args s 0 0 A) (F0 m 10 ls [])) : ∀ (x1 : Int32) (f_alike : Nat → Int32), Na_groupBySound_b10 F f_size f_lengths f_letters rec10 x1 f_alike = some r_alike → ∀ (H : Heap) (locs : List Loc), va_P D vwCl (w_Na_groupBySound ct a_this a_odds a_lengths a_letters a_alike a_oddsTogether f_size f_fault f_lengths f_letters f_alike) H → va_D A (w_Na_groupBySound ct a_this a_odds a_lengths a_letters a_alike a_oddsTogether f_size f_fault f_lengths f_letters f_alike) → va_S A s.heap H locs → ∀ ls : Array Slot, lv_has ls 3 [(0, .ref a_this), (1, .int x1)] → W p l e RM_Na_groupBySound s m args below meth c H locs 0 0 (MQ below (QM D none (w_Na_groupBySound ct a_this a_odds a_lengths a_letters a_alike a_oddsTogether f_size f_fault f_lengths f_letters r_alike) A) args s 0 0 A) (F0 m 10 ls []) := by
  obtain ⟨hx, hb, hr, hml, hown, hts, hlk, hK, hN⟩ := id C
  intro x1 f_alike hf H locs hP hD hS ls hl
  unfold Na_groupBySound_b10 at hf
  refine lv_iload_n hx hb dX3_groupBySound_10 rfl (lv_at hl 1 rfl) ?_
  refine lv_bipush (v := 6) hx hb dX3_groupBySound_11 (by decide) ?_
  refine lv_icmp_ge (tgt := 62) hx hb dX3_groupBySound_13 (by decide) (fun hc => ?_) (fun hc => ?_)
  · have hf := kpos hc hf
    have e1 := Option.some.inj hf
    subst e1
    exact kretMv C hP hD hS dX3_groupBySound_62
  · have hf := kneg hc hf
    refine lv_iconst (v := 0) hx hb dX3_groupBySound_16 (by decide) ?_
    refine lv_istore_n (lv' := [(2, .int 0), (0, .ref a_this), (1, .int x1)]) hx hb dX3_groupBySound_17 rfl hl (by decide) rfl (fun ls hl => ?_)
    exact t_Na_groupBySound_l18 C hA a_this a_odds a_lengths a_letters a_alike a_oddsTogether f_fault F f_size f_lengths f_letters r_alike rec10 hr10 F x1 0 f_alike hf _ _ hP hD hS _ (lv_sub hl [1, 2, 0] rfl)
set_option maxHeartbeats 4000000 in
set_option maxRecDepth 100000 in
theorem t_Na_groupBySound_l10 {p : Program} {l : Launch} {e : Env} {s : State} {m : MethodId} {args : Array Value} {below : List Frame} {meth : Method} {c : Code} {D : va_G} {ct : Nat → ClassId} (C : CX p s m args meth c RX3 cX3_groupBySound 3 none D ct) {A : Nat → Prop} (hA : ∀ q : Nat, s.heap.size ≤ q → A q) (a_this a_odds a_lengths a_letters a_alike a_oddsTogether : Nat) (f_fault : Int32) (F : Nat) (f_size : Int32) (f_lengths : Nat → Int32) (f_letters : Nat → Int32) (r_alike : Nat → Int32) : ∀ (n : Nat) (x1 : Int32) (f_alike : Nat → Int32), Na_groupBySound_l10 F f_size f_lengths f_letters n x1 f_alike = some r_alike → ∀ (H : Heap) (locs : List Loc), va_P D vwCl (w_Na_groupBySound ct a_this a_odds a_lengths a_letters a_alike a_oddsTogether f_size f_fault f_lengths f_letters f_alike) H → va_D A (w_Na_groupBySound ct a_this a_odds a_lengths a_letters a_alike a_oddsTogether f_size f_fault f_lengths f_letters f_alike) → va_S A s.heap H locs → ∀ ls : Array Slot, lv_has ls 3 [(0, .ref a_this), (1, .int x1)] → W p l e RM_Na_groupBySound s m args below meth c H locs 0 0 (MQ below (QM D none (w_Na_groupBySound ct a_this a_odds a_lengths a_letters a_alike a_oddsTogether f_size f_fault f_lengths f_letters r_alike) A) args s 0 0 A) (F0 m 10 ls []) := by
  intro n
  induction n with
  | zero =>
    intro x1 f_alike hf
    exact absurd hf (by simp [Na_groupBySound_l10])
  | succ n ih =>
    intro x1 f_alike hf
    exact t_Na_groupBySound_b10 C hA a_this a_odds a_lengths a_letters a_alike a_oddsTogether f_fault F f_size f_lengths f_letters r_alike (Na_groupBySound_l10 F f_size f_lengths f_letters n) ih x1 f_alike hf
set_option maxHeartbeats 4000000 in
set_option maxRecDepth 100000 in
theorem c_Na_groupBySound (l : Launch) (D : va_G) (ct : Nat → ClassId) (a_this a_odds a_lengths a_letters a_alike a_oddsTogether : Nat) (f_fault : Int32) (F : Nat) (f_size : Int32) (f_lengths : Nat → Int32) (f_letters : Nat → Int32) (f_alike : Nat → Int32) (r_alike : Nat → Int32) (sz : Nat) (hf : Na_groupBySound F f_size f_lengths f_letters f_alike = some r_alike) : Met l yX3_groupBySound (WS yX3_groupBySound cX3_groupBySound 3 none) RM_Na_groupBySound (va_Pc [.ref a_this] (PM D ct sz (w_Na_groupBySound ct a_this a_odds a_lengths a_letters a_alike a_oddsTogether f_size f_fault f_lengths f_letters f_alike))) (QM D none (w_Na_groupBySound ct a_this a_odds a_lengths a_letters a_alike a_oddsTogether f_size f_fault f_lengths f_letters r_alike) (va_A (w_Na_groupBySound ct a_this a_odds a_lengths a_letters a_alike a_oddsTogether f_size f_fault f_lengths f_letters f_alike) sz)) 0 0 (va_A (w_Na_groupBySound ct a_this a_odds a_lengths a_letters a_alike a_oddsTogether f_size f_fault f_lengths f_letters f_alike) sz) := by
  refine kMetM yn_yX3_groupBySound rfl (Nat.le_of_ble_eq_true rfl) ?_
  intro p e s m args below meth c A C hA hP hD ls hl
  have hl : lv_has ls 3 [(0, .ref a_this)] := hl
  have hS : va_S A s.heap s.heap [] := va_S.rf
  obtain ⟨hx, hb, hr, hml, hown, hts, hlk, hK, hN⟩ := id C
  unfold Na_groupBySound at hf
  refine lv_aload_n hx hb dX3_groupBySound_0 rfl (lv_at hl 0 rfl) ?_
  refine va_get (ci := 3) (v := .ref a_alike) (C := RX3) (T := TX3) (N := 7) hx hb hts inX3 hown hK hP 0 rfl rfl 3 (by decide) (hts _ tw_122) (fun _ h9 => h9) rfl dX3_groupBySound_1 ?_
  refine lv_iconst (v := 0) hx hb dX3_groupBySound_4 (by decide) ?_
  obtain ⟨f_alike_5, hc5, hf⟩ := cb1_some hf
  refine kcMS (As := [.ref a_alike, .int 0]) (rest := []) (st1 := []) (wf := (w_Na_groupBySound ct a_this a_odds a_lengths a_letters a_alike a_oddsTogether f_size f_fault f_lengths f_letters f_alike_5)) C (c_Jarr_fill l D ct a_alike 42 F f_alike 0 f_alike_5 _ hc5) ⟨rfl, rfl⟩ yn_yJ7_fill_53178 tw_400 tw_399 ⟨Nat.le_of_ble_eq_true rfl, Nat.le_of_ble_eq_true rfl⟩ ⟨Nat.zero_le _, Nat.zero_le _⟩ hP hD hS hA [3] [0, 1, 2] [0, 1, 2, 3] rfl rfl rfl rfl rfl (by decide) rfl rfl rfl hl.1 rfl rfl (Nat.le_of_ble_eq_true rfl) dX3_groupBySound_5 rfl (fun H locs hP hD hS => ?_)
  refine lv_iconst (v := 0) hx hb dX3_groupBySound_8 (by decide) ?_
  refine lv_istore_n (lv' := [(1, .int 0), (0, .ref a_this)]) hx hb dX3_groupBySound_9 rfl hl (by decide) rfl (fun ls hl => ?_)
  exact t_Na_groupBySound_l10 C hA a_this a_odds a_lengths a_letters a_alike a_oddsTogether f_fault F f_size f_lengths f_letters r_alike F 0 f_alike_5 hf _ _ hP hD hS _ (lv_sub hl [1, 0] rfl)
def RM_Na_addOdds : Room := { frames := 0, cells := 0, slots := 0, locals := 0 }
set_option maxHeartbeats 4000000 in
set_option maxRecDepth 100000 in
theorem t_Na_addOdds_b48 {p : Program} {l : Launch} {e : Env} {s : State} {m : MethodId} {args : Array Value} {below : List Frame} {meth : Method} {c : Code} {D : va_G} {ct : Nat → ClassId} (C : CX p s m args meth c RX3 cX3_addOdds 4 none D ct) {A : Nat → Prop} (hA : ∀ q : Nat, s.heap.size ≤ q → A q) (a_this a_odds a_lengths a_letters a_alike a_oddsTogether : Nat) (f_fault : Int32) (F : Nat) (f_size : Int32) (f_odds : Nat → Int32) (r_oddsTogether : Nat → Int32) (rec2 : Int32 → (Nat → Int32) → Option ((Nat → Int32))) (hr2 : ∀ (x1 : Int32) (f_oddsTogether : Nat → Int32), rec2 x1 f_oddsTogether = some r_oddsTogether → ∀ (H : Heap) (locs : List Loc), va_P D vwCl (w_Na_addOdds ct a_this a_odds a_lengths a_letters a_alike a_oddsTogether f_size f_fault f_odds f_oddsTogether) H → va_D A (w_Na_addOdds ct a_this a_odds a_lengths a_letters a_alike a_oddsTogether f_size f_fault f_odds f_oddsTogether) → va_S A s.heap H locs → ∀ ls : Array Slot, lv_has ls 4 [(0, .ref a_this), (1, .int x1)] → W p l e RM_Na_addOdds s m args below meth c H locs 0 0 (MQ below (QM D none (w_Na_addOdds ct a_this a_odds a_lengths a_letters a_alike a_oddsTogether f_size f_fault f_odds r_oddsTogether) A) args s 0 0 A) (F0 m 2 ls [])) : ∀ (x1 : Int32) (f_oddsTogether : Nat → Int32), Na_addOdds_b48 F f_size f_odds rec2 x1 f_oddsTogether = some r_oddsTogether → ∀ (H : Heap) (locs : List Loc), va_P D vwCl (w_Na_addOdds ct a_this a_odds a_lengths a_letters a_alike a_oddsTogether f_size f_fault f_odds f_oddsTogether) H → va_D A (w_Na_addOdds ct a_this a_odds a_lengths a_letters a_alike a_oddsTogether f_size f_fault f_odds f_oddsTogether) → va_S A s.heap H locs → ∀ ls : Array Slot, lv_has ls 4 [(0, .ref a_this), (1, .int x1)] → W p l e RM_Na_addOdds s m args below meth c H locs 0 0 (MQ below (QM D none (w_Na_addOdds ct a_this a_odds a_lengths a_letters a_alike a_oddsTogether f_size f_fault f_odds r_oddsTogether) A) args s 0 0 A) (F0 m 48 ls []) := by
  obtain ⟨hx, hb, hr, hml, hown, hts, hlk, hK, hN⟩ := id C
  intro x1 f_oddsTogether hf H locs hP hD hS ls hl
  unfold Na_addOdds_b48 at hf
  refine lv_iinc (v := x1 + 1) (lv' := [(1, .int (x1 + 1)), (0, .ref a_this)]) hx hb dX3_addOdds_48 hl (k := 1) rfl rfl (by decide) rfl (fun ls hl => ?_)
  refine lv_goto (tgt := 2) hx hb dX3_addOdds_51 (by decide) ?_
  exact hr2 (x1 + 1) f_oddsTogether hf _ _ hP hD hS _ (lv_sub hl [1, 0] rfl)
set_option maxHeartbeats 4000000 in
set_option maxRecDepth 100000 in
theorem t_Na_addOdds_b16 {p : Program} {l : Launch} {e : Env} {s : State} {m : MethodId} {args : Array Value} {below : List Frame} {meth : Method} {c : Code} {D : va_G} {ct : Nat → ClassId} (C : CX p s m args meth c RX3 cX3_addOdds 4 none D ct) {A : Nat → Prop} (hA : ∀ q : Nat, s.heap.size ≤ q → A q) (a_this a_odds a_lengths a_letters a_alike a_oddsTogether : Nat) (f_fault : Int32) (F : Nat) (f_size : Int32) (f_odds : Nat → Int32) (r_oddsTogether : Nat → Int32) (rec2 : Int32 → (Nat → Int32) → Option ((Nat → Int32))) (rec16 : Int32 → Int32 → Int32 → (Nat → Int32) → Option ((Nat → Int32))) (hr2 : ∀ (x1 : Int32) (f_oddsTogether : Nat → Int32), rec2 x1 f_oddsTogether = some r_oddsTogether → ∀ (H : Heap) (locs : List Loc), va_P D vwCl (w_Na_addOdds ct a_this a_odds a_lengths a_letters a_alike a_oddsTogether f_size f_fault f_odds f_oddsTogether) H → va_D A (w_Na_addOdds ct a_this a_odds a_lengths a_letters a_alike a_oddsTogether f_size f_fault f_odds f_oddsTogether) → va_S A s.heap H locs → ∀ ls : Array Slot, lv_has ls 4 [(0, .ref a_this), (1, .int x1)] → W p l e RM_Na_addOdds s m args below meth c H locs 0 0 (MQ below (QM D none (w_Na_addOdds ct a_this a_odds a_lengths a_letters a_alike a_oddsTogether f_size f_fault f_odds r_oddsTogether) A) args s 0 0 A) (F0 m 2 ls [])) (hr16 : ∀ (x1 : Int32) (x2 : Int32) (x3 : Int32) (f_oddsTogether : Nat → Int32), rec16 x1 x2 x3 f_oddsTogether = some r_oddsTogether → ∀ (H : Heap) (locs : List Loc), va_P D vwCl (w_Na_addOdds ct a_this a_odds a_lengths a_letters a_alike a_oddsTogether f_size f_fault f_odds f_oddsTogether) H → va_D A (w_Na_addOdds ct a_this a_odds a_lengths a_letters a_alike a_oddsTogether f_size f_fault f_odds f_oddsTogether) → va_S A s.heap H locs → ∀ ls : Array Slot, lv_has ls 4 [(0, .ref a_this), (1, .int x1), (2, .int x2), (3, .int x3)] → W p l e RM_Na_addOdds s m args below meth c H locs 0 0 (MQ below (QM D none (w_Na_addOdds ct a_this a_odds a_lengths a_letters a_alike a_oddsTogether f_size f_fault f_odds r_oddsTogether) A) args s 0 0 A) (F0 m 16 ls [])) : ∀ (x1 : Int32) (x2 : Int32) (x3 : Int32) (f_oddsTogether : Nat → Int32), Na_addOdds_b16 F f_size f_odds rec2 rec16 x1 x2 x3 f_oddsTogether = some r_oddsTogether → ∀ (H : Heap) (locs : List Loc), va_P D vwCl (w_Na_addOdds ct a_this a_odds a_lengths a_letters a_alike a_oddsTogether f_size f_fault f_odds f_oddsTogether) H → va_D A (w_Na_addOdds ct a_this a_odds a_lengths a_letters a_alike a_oddsTogether f_size f_fault f_odds f_oddsTogether) → va_S A s.heap H locs → ∀ ls : Array Slot, lv_has ls 4 [(0, .ref a_this), (1, .int x1), (2, .int x2), (3, .int x3)] → W p l e RM_Na_addOdds s m args below meth c H locs 0 0 (MQ below (QM D none (w_Na_addOdds ct a_this a_odds a_lengths a_letters a_alike a_oddsTogether f_size f_fault f_odds r_oddsTogether) A) args s 0 0 A) (F0 m 16 ls []) := by
  obtain ⟨hx, hb, hr, hml, hown, hts, hlk, hK, hN⟩ := id C
  intro x1 x2 x3 f_oddsTogether hf H locs hP hD hS ls hl
  unfold Na_addOdds_b16 at hf
  refine lv_iload_n hx hb dX3_addOdds_16 rfl (lv_at hl 3 rfl) ?_
  refine lv_iload_n hx hb dX3_addOdds_17 rfl (lv_at hl 2 rfl) ?_
  refine lv_icmp_ge (tgt := 48) hx hb dX3_addOdds_18 (by decide) (fun hc => ?_) (fun hc => ?_)
  · have hf := kpos hc hf
    exact t_Na_addOdds_b48 C hA a_this a_odds a_lengths a_letters a_alike a_oddsTogether f_fault F f_size f_odds r_oddsTogether rec2 hr2 x1 f_oddsTogether hf _ _ hP hD hS _ (lv_sub hl [0, 1] rfl)
  · have hf := kneg hc hf
    refine lv_aload_n hx hb dX3_addOdds_21 rfl (lv_at hl 0 rfl) ?_
    refine va_get (ci := 3) (v := .ref a_oddsTogether) (C := RX3) (T := TX3) (N := 7) hx hb hts inX3 hown hK hP 0 rfl rfl 4 (by decide) (hts _ tw_123) (fun _ h9 => h9) rfl dX3_addOdds_22 ?_
    refine lv_iload_n hx hb dX3_addOdds_25 rfl (lv_at hl 2 rfl) ?_
    refine lv_iload_n hx hb dX3_addOdds_26 rfl (lv_at hl 3 rfl) ?_
    refine lv_ior hx hb dX3_addOdds_27 ?_
    refine lv_aload_n hx hb dX3_addOdds_28 rfl (lv_at hl 0 rfl) ?_
    refine va_get (ci := 3) (v := .ref a_oddsTogether) (C := RX3) (T := TX3) (N := 7) hx hb hts inX3 hown hK hP 0 rfl rfl 4 (by decide) (hts _ tw_123) (fun _ h9 => h9) rfl dX3_addOdds_29 ?_
    refine lv_iload_n hx hb dX3_addOdds_32 rfl (lv_at hl 3 rfl) ?_
    obtain ⟨hin, hf⟩ := rd_some hf
    generalize ev33 : f_oddsTogether (Int32.toNatClampNeg x3) = v33 at hf
    refine kiald hx hb hK hP 2 0 rfl rfl hin ev33 dX3_addOdds_33 ?_
    refine lv_aload_n hx hb dX3_addOdds_34 rfl (lv_at hl 0 rfl) ?_
    refine va_get (ci := 3) (v := .ref a_odds) (C := RX3) (T := TX3) (N := 7) hx hb hts inX3 hown hK hP 0 rfl rfl 0 (by decide) (hts _ tw_119) (fun _ h9 => h9) rfl dX3_addOdds_35 ?_
    refine lv_iload_n hx hb dX3_addOdds_38 rfl (lv_at hl 1 rfl) ?_
    obtain ⟨hin, hf⟩ := rd_some hf
    generalize ev39 : f_odds (Int32.toNatClampNeg x1) = v39 at hf
    refine kiald hx hb hK hP 1 0 rfl rfl hin ev39 dX3_addOdds_39 ?_
    refine lv_iadd hx hb dX3_addOdds_40 ?_
    obtain ⟨hin, f_oddsTogether_41, ev41, hf⟩ := wr_ex hf
    refine kiast hx hb hK hP hD hS 2 0 rfl rfl hin ev41 dX3_addOdds_41 (fun H locs hP hD hS => ?_)
    have hP : va_P D vwCl (w_Na_addOdds ct a_this a_odds a_lengths a_letters a_alike a_oddsTogether f_size f_fault f_odds f_oddsTogether_41) H := hP
    have hD : va_D A (w_Na_addOdds ct a_this a_odds a_lengths a_letters a_alike a_oddsTogether f_size f_fault f_odds f_oddsTogether_41) := hD
    refine lv_iinc (v := x3 + 1) (lv' := [(3, .int (x3 + 1)), (0, .ref a_this), (1, .int x1), (2, .int x2)]) hx hb dX3_addOdds_42 hl (k := 3) rfl rfl (by decide) rfl (fun ls hl => ?_)
    refine lv_goto (tgt := 16) hx hb dX3_addOdds_45 (by decide) ?_
    exact hr16 x1 x2 (x3 + 1) f_oddsTogether_41 hf _ _ hP hD hS _ (lv_sub hl [1, 2, 3, 0] rfl)
set_option maxHeartbeats 4000000 in
set_option maxRecDepth 100000 in
theorem t_Na_addOdds_l16 {p : Program} {l : Launch} {e : Env} {s : State} {m : MethodId} {args : Array Value} {below : List Frame} {meth : Method} {c : Code} {D : va_G} {ct : Nat → ClassId} (C : CX p s m args meth c RX3 cX3_addOdds 4 none D ct) {A : Nat → Prop} (hA : ∀ q : Nat, s.heap.size ≤ q → A q) (a_this a_odds a_lengths a_letters a_alike a_oddsTogether : Nat) (f_fault : Int32) (F : Nat) (f_size : Int32) (f_odds : Nat → Int32) (r_oddsTogether : Nat → Int32) (rec2 : Int32 → (Nat → Int32) → Option ((Nat → Int32))) (hr2 : ∀ (x1 : Int32) (f_oddsTogether : Nat → Int32), rec2 x1 f_oddsTogether = some r_oddsTogether → ∀ (H : Heap) (locs : List Loc), va_P D vwCl (w_Na_addOdds ct a_this a_odds a_lengths a_letters a_alike a_oddsTogether f_size f_fault f_odds f_oddsTogether) H → va_D A (w_Na_addOdds ct a_this a_odds a_lengths a_letters a_alike a_oddsTogether f_size f_fault f_odds f_oddsTogether) → va_S A s.heap H locs → ∀ ls : Array Slot, lv_has ls 4 [(0, .ref a_this), (1, .int x1)] → W p l e RM_Na_addOdds s m args below meth c H locs 0 0 (MQ below (QM D none (w_Na_addOdds ct a_this a_odds a_lengths a_letters a_alike a_oddsTogether f_size f_fault f_odds r_oddsTogether) A) args s 0 0 A) (F0 m 2 ls [])) : ∀ (n : Nat) (x1 : Int32) (x2 : Int32) (x3 : Int32) (f_oddsTogether : Nat → Int32), Na_addOdds_l16 F f_size f_odds rec2 n x1 x2 x3 f_oddsTogether = some r_oddsTogether → ∀ (H : Heap) (locs : List Loc), va_P D vwCl (w_Na_addOdds ct a_this a_odds a_lengths a_letters a_alike a_oddsTogether f_size f_fault f_odds f_oddsTogether) H → va_D A (w_Na_addOdds ct a_this a_odds a_lengths a_letters a_alike a_oddsTogether f_size f_fault f_odds f_oddsTogether) → va_S A s.heap H locs → ∀ ls : Array Slot, lv_has ls 4 [(0, .ref a_this), (1, .int x1), (2, .int x2), (3, .int x3)] → W p l e RM_Na_addOdds s m args below meth c H locs 0 0 (MQ below (QM D none (w_Na_addOdds ct a_this a_odds a_lengths a_letters a_alike a_oddsTogether f_size f_fault f_odds r_oddsTogether) A) args s 0 0 A) (F0 m 16 ls []) := by
  intro n
  induction n with
  | zero =>
    intro x1 x2 x3 f_oddsTogether hf
    exact absurd hf (by simp [Na_addOdds_l16])
  | succ n ih =>
    intro x1 x2 x3 f_oddsTogether hf
    exact t_Na_addOdds_b16 C hA a_this a_odds a_lengths a_letters a_alike a_oddsTogether f_fault F f_size f_odds r_oddsTogether rec2 (Na_addOdds_l16 F f_size f_odds rec2 n) hr2 ih x1 x2 x3 f_oddsTogether hf
set_option maxHeartbeats 4000000 in
set_option maxRecDepth 100000 in
theorem t_Na_addOdds_b2 {p : Program} {l : Launch} {e : Env} {s : State} {m : MethodId} {args : Array Value} {below : List Frame} {meth : Method} {c : Code} {D : va_G} {ct : Nat → ClassId} (C : CX p s m args meth c RX3 cX3_addOdds 4 none D ct) {A : Nat → Prop} (hA : ∀ q : Nat, s.heap.size ≤ q → A q) (a_this a_odds a_lengths a_letters a_alike a_oddsTogether : Nat) (f_fault : Int32) (F : Nat) (f_size : Int32) (f_odds : Nat → Int32) (r_oddsTogether : Nat → Int32) (rec2 : Int32 → (Nat → Int32) → Option ((Nat → Int32))) (hr2 : ∀ (x1 : Int32) (f_oddsTogether : Nat → Int32), rec2 x1 f_oddsTogether = some r_oddsTogether → ∀ (H : Heap) (locs : List Loc), va_P D vwCl (w_Na_addOdds ct a_this a_odds a_lengths a_letters a_alike a_oddsTogether f_size f_fault f_odds f_oddsTogether) H → va_D A (w_Na_addOdds ct a_this a_odds a_lengths a_letters a_alike a_oddsTogether f_size f_fault f_odds f_oddsTogether) → va_S A s.heap H locs → ∀ ls : Array Slot, lv_has ls 4 [(0, .ref a_this), (1, .int x1)] → W p l e RM_Na_addOdds s m args below meth c H locs 0 0 (MQ below (QM D none (w_Na_addOdds ct a_this a_odds a_lengths a_letters a_alike a_oddsTogether f_size f_fault f_odds r_oddsTogether) A) args s 0 0 A) (F0 m 2 ls [])) : ∀ (x1 : Int32) (f_oddsTogether : Nat → Int32), Na_addOdds_b2 F f_size f_odds rec2 x1 f_oddsTogether = some r_oddsTogether → ∀ (H : Heap) (locs : List Loc), va_P D vwCl (w_Na_addOdds ct a_this a_odds a_lengths a_letters a_alike a_oddsTogether f_size f_fault f_odds f_oddsTogether) H → va_D A (w_Na_addOdds ct a_this a_odds a_lengths a_letters a_alike a_oddsTogether f_size f_fault f_odds f_oddsTogether) → va_S A s.heap H locs → ∀ ls : Array Slot, lv_has ls 4 [(0, .ref a_this), (1, .int x1)] → W p l e RM_Na_addOdds s m args below meth c H locs 0 0 (MQ below (QM D none (w_Na_addOdds ct a_this a_odds a_lengths a_letters a_alike a_oddsTogether f_size f_fault f_odds r_oddsTogether) A) args s 0 0 A) (F0 m 2 ls []) := by
  obtain ⟨hx, hb, hr, hml, hown, hts, hlk, hK, hN⟩ := id C
  intro x1 f_oddsTogether hf H locs hP hD hS ls hl
  unfold Na_addOdds_b2 at hf
  refine lv_iload_n hx hb dX3_addOdds_2 rfl (lv_at hl 1 rfl) ?_
  refine lv_aload_n hx hb dX3_addOdds_3 rfl (lv_at hl 0 rfl) ?_
  refine va_get (ci := 3) (v := .int f_size) (C := RX3) (T := TX3) (N := 7) hx hb hts inX3 hown hK hP 0 rfl rfl 5 (by decide) (hts _ tw_124) (fun _ h9 => h9) rfl dX3_addOdds_4 ?_
  refine lv_icmp_ge (tgt := 54) hx hb dX3_addOdds_7 (by decide) (fun hc => ?_) (fun hc => ?_)
  · have hf := kpos hc hf
    have e1 := Option.some.inj hf
    subst e1
    exact kretMv C hP hD hS dX3_addOdds_54
  · have hf := kneg hc hf
    refine lv_iconst (v := 1) hx hb dX3_addOdds_10 (by decide) ?_
    refine lv_iload_n hx hb dX3_addOdds_11 rfl (lv_at hl 1 rfl) ?_
    refine lv_ishl hx hb dX3_addOdds_12 ?_
    refine lv_istore_n (lv' := [(2, .int ((1 : Int32) <<< (x1 &&& 31))), (0, .ref a_this), (1, .int x1)]) hx hb dX3_addOdds_13 rfl hl (by decide) rfl (fun ls hl => ?_)
    refine lv_iconst (v := 0) hx hb dX3_addOdds_14 (by decide) ?_
    refine lv_istore_n (lv' := [(3, .int 0), (2, .int ((1 : Int32) <<< (x1 &&& 31))), (0, .ref a_this), (1, .int x1)]) hx hb dX3_addOdds_15 rfl hl (by decide) rfl (fun ls hl => ?_)
    exact t_Na_addOdds_l16 C hA a_this a_odds a_lengths a_letters a_alike a_oddsTogether f_fault F f_size f_odds r_oddsTogether rec2 hr2 F x1 ((1 : Int32) <<< (x1 &&& 31)) 0 f_oddsTogether hf _ _ hP hD hS _ (lv_sub hl [2, 3, 1, 0] rfl)
set_option maxHeartbeats 4000000 in
set_option maxRecDepth 100000 in
theorem t_Na_addOdds_l2 {p : Program} {l : Launch} {e : Env} {s : State} {m : MethodId} {args : Array Value} {below : List Frame} {meth : Method} {c : Code} {D : va_G} {ct : Nat → ClassId} (C : CX p s m args meth c RX3 cX3_addOdds 4 none D ct) {A : Nat → Prop} (hA : ∀ q : Nat, s.heap.size ≤ q → A q) (a_this a_odds a_lengths a_letters a_alike a_oddsTogether : Nat) (f_fault : Int32) (F : Nat) (f_size : Int32) (f_odds : Nat → Int32) (r_oddsTogether : Nat → Int32) : ∀ (n : Nat) (x1 : Int32) (f_oddsTogether : Nat → Int32), Na_addOdds_l2 F f_size f_odds n x1 f_oddsTogether = some r_oddsTogether → ∀ (H : Heap) (locs : List Loc), va_P D vwCl (w_Na_addOdds ct a_this a_odds a_lengths a_letters a_alike a_oddsTogether f_size f_fault f_odds f_oddsTogether) H → va_D A (w_Na_addOdds ct a_this a_odds a_lengths a_letters a_alike a_oddsTogether f_size f_fault f_odds f_oddsTogether) → va_S A s.heap H locs → ∀ ls : Array Slot, lv_has ls 4 [(0, .ref a_this), (1, .int x1)] → W p l e RM_Na_addOdds s m args below meth c H locs 0 0 (MQ below (QM D none (w_Na_addOdds ct a_this a_odds a_lengths a_letters a_alike a_oddsTogether f_size f_fault f_odds r_oddsTogether) A) args s 0 0 A) (F0 m 2 ls []) := by
  intro n
  induction n with
  | zero =>
    intro x1 f_oddsTogether hf
    exact absurd hf (by simp [Na_addOdds_l2])
  | succ n ih =>
    intro x1 f_oddsTogether hf
    exact t_Na_addOdds_b2 C hA a_this a_odds a_lengths a_letters a_alike a_oddsTogether f_fault F f_size f_odds r_oddsTogether (Na_addOdds_l2 F f_size f_odds n) ih x1 f_oddsTogether hf
set_option maxHeartbeats 4000000 in
set_option maxRecDepth 100000 in
theorem c_Na_addOdds (l : Launch) (D : va_G) (ct : Nat → ClassId) (a_this a_odds a_lengths a_letters a_alike a_oddsTogether : Nat) (f_fault : Int32) (F : Nat) (f_size : Int32) (f_odds : Nat → Int32) (f_oddsTogether : Nat → Int32) (r_oddsTogether : Nat → Int32) (sz : Nat) (hf : Na_addOdds F f_size f_odds f_oddsTogether = some r_oddsTogether) : Met l yX3_addOdds (WS yX3_addOdds cX3_addOdds 4 none) RM_Na_addOdds (va_Pc [.ref a_this] (PM D ct sz (w_Na_addOdds ct a_this a_odds a_lengths a_letters a_alike a_oddsTogether f_size f_fault f_odds f_oddsTogether))) (QM D none (w_Na_addOdds ct a_this a_odds a_lengths a_letters a_alike a_oddsTogether f_size f_fault f_odds r_oddsTogether) (va_A (w_Na_addOdds ct a_this a_odds a_lengths a_letters a_alike a_oddsTogether f_size f_fault f_odds f_oddsTogether) sz)) 0 0 (va_A (w_Na_addOdds ct a_this a_odds a_lengths a_letters a_alike a_oddsTogether f_size f_fault f_odds f_oddsTogether) sz) := by
  refine kMetM yn_yX3_addOdds rfl (Nat.le_of_ble_eq_true rfl) ?_
  intro p e s m args below meth c A C hA hP hD ls hl
  have hl : lv_has ls 4 [(0, .ref a_this)] := hl
  have hS : va_S A s.heap s.heap [] := va_S.rf
  obtain ⟨hx, hb, hr, hml, hown, hts, hlk, hK, hN⟩ := id C
  unfold Na_addOdds at hf
  refine lv_iconst (v := 0) hx hb dX3_addOdds_0 (by decide) ?_
  refine lv_istore_n (lv' := [(1, .int 0), (0, .ref a_this)]) hx hb dX3_addOdds_1 rfl hl (by decide) rfl (fun ls hl => ?_)
  exact t_Na_addOdds_l2 C hA a_this a_odds a_lengths a_letters a_alike a_oddsTogether f_fault F f_size f_odds r_oddsTogether F 0 f_oddsTogether hf _ _ hP hD hS _ (lv_sub hl [1, 0] rfl)
def RM_Na_parse : Room := { frames := 3, cells := 0, slots := 0, locals := 71 }
set_option maxHeartbeats 4000000 in
set_option maxRecDepth 100000 in
theorem t_Na_parse_b27 {p : Program} {l : Launch} {e : Env} {s : State} {m : MethodId} {args : Array Value} {below : List Frame} {meth : Method} {c : Code} {D : va_G} {ct : Nat → ClassId} (C : CX p s m args meth c RX3 cX3_parse 2 none D ct) {A : Nat → Prop} (hA : ∀ q : Nat, s.heap.size ≤ q → A q) (a_this a_odds a_lengths a_letters a_alike a_oddsTogether a_p1 a_p1_bytes : Nat) (n_p1_bytes : Nat) (F : Nat) (f_p1_size : Int32) (f_p1_bytes : Nat → Int32) (r_size : Int32) (r_fault : Int32) (r_odds : Nat → Int32) (r_lengths : Nat → Int32) (r_letters : Nat → Int32) (r_alike : Nat → Int32) (r_oddsTogether : Nat → Int32) : ∀ (f_size : Int32) (f_fault : Int32) (f_odds : Nat → Int32) (f_lengths : Nat → Int32) (f_letters : Nat → Int32) (f_alike : Nat → Int32) (f_oddsTogether : Nat → Int32), Na_parse_b27 F n_p1_bytes f_p1_size f_p1_bytes f_size f_fault f_odds f_lengths f_letters f_alike f_oddsTogether = some (r_size, r_fault, r_odds, r_lengths, r_letters, r_alike, r_oddsTogether) → ∀ (H : Heap) (locs : List Loc), va_P D vwCl (w_Na_parse ct a_this a_odds a_lengths a_letters a_alike a_oddsTogether a_p1 a_p1_bytes n_p1_bytes f_size f_fault f_odds f_lengths f_letters f_alike f_oddsTogether f_p1_size f_p1_bytes) H → va_D A (w_Na_parse ct a_this a_odds a_lengths a_letters a_alike a_oddsTogether a_p1 a_p1_bytes n_p1_bytes f_size f_fault f_odds f_lengths f_letters f_alike f_oddsTogether f_p1_size f_p1_bytes) → va_S A s.heap H locs → ∀ ls : Array Slot, lv_has ls 2 [(0, .ref a_this)] → W p l e RM_Na_parse s m args below meth c H locs 0 0 (MQ below (QM D none (w_Na_parse ct a_this a_odds a_lengths a_letters a_alike a_oddsTogether a_p1 a_p1_bytes n_p1_bytes r_size r_fault r_odds r_lengths r_letters r_alike r_oddsTogether f_p1_size f_p1_bytes) A) args s 0 0 A) (F0 m 27 ls []) := by
  obtain ⟨hx, hb, hr, hml, hown, hts, hlk, hK, hN⟩ := id C
  intro f_size f_fault f_odds f_lengths f_letters f_alike f_oddsTogether hf H locs hP hD hS ls hl
  unfold Na_parse_b27 at hf
  refine lv_aload_n hx hb dX3_parse_27 rfl (lv_at hl 0 rfl) ?_
  obtain ⟨f_alike_28, hc28, hf⟩ := cb1_some hf
  refine kcMV (q0 := 0) (ci := 3) (As := []) (rest := []) (st1 := []) (wf := (w_Na_parse ct a_this a_odds a_lengths a_letters a_alike a_oddsTogether a_p1 a_p1_bytes n_p1_bytes f_size f_fault f_odds f_lengths f_letters f_alike_28 f_oddsTogether f_p1_size f_p1_bytes)) C (c_Na_groupBySound l D ct a_this a_odds a_lengths a_letters a_alike a_oddsTogether f_fault F f_size f_lengths f_letters f_alike f_alike_28 _ hc28) ⟨rfl, rfl⟩ yn_yX3_groupBySound tw_397 tw_4 tw_395 ⟨Nat.le_of_ble_eq_true rfl, Nat.le_of_ble_eq_true rfl⟩ ⟨Nat.zero_le _, Nat.zero_le _⟩ hP hD hS hA [0, 2, 3, 4] [1, 5, 6, 7] [4, 0, 5, 6, 7, 1, 2, 3] rfl rfl rfl rfl rfl (by decide) rfl rfl rfl rfl rfl rfl hl.1 rfl rfl (Nat.le_of_ble_eq_true rfl) dX3_parse_28 rfl (fun H locs hP hD hS => ?_)
  refine lv_aload_n hx hb dX3_parse_31 rfl (lv_at hl 0 rfl) ?_
  obtain ⟨f_oddsTogether_32, hc32, hf⟩ := cb1_some hf
  refine kcMV (q0 := 0) (ci := 3) (As := []) (rest := []) (st1 := []) (wf := (w_Na_parse ct a_this a_odds a_lengths a_letters a_alike a_oddsTogether a_p1 a_p1_bytes n_p1_bytes f_size f_fault f_odds f_lengths f_letters f_alike_28 f_oddsTogether_32 f_p1_size f_p1_bytes)) C (c_Na_addOdds l D ct a_this a_odds a_lengths a_letters a_alike a_oddsTogether f_fault F f_size f_odds f_oddsTogether f_oddsTogether_32 _ hc32) ⟨rfl, rfl⟩ yn_yX3_addOdds tw_408 tw_5 tw_406 ⟨Nat.le_of_ble_eq_true rfl, Nat.le_of_ble_eq_true rfl⟩ ⟨Nat.zero_le _, Nat.zero_le _⟩ hP hD hS hA [0, 1, 5] [2, 3, 4, 6, 7] [5, 6, 0, 1, 2, 7, 3, 4] rfl rfl rfl rfl rfl (by decide) rfl rfl rfl rfl rfl rfl hl.1 rfl rfl (Nat.le_of_ble_eq_true rfl) dX3_parse_32 rfl (fun H locs hP hD hS => ?_)
  obtain ⟨e1, e2, e3, e4, e5, e6, e7⟩ := ti7 hf
  subst e1; subst e2; subst e3; subst e4; subst e5; subst e6; subst e7
  exact kretMv C hP hD hS dX3_parse_35
set_option maxHeartbeats 4000000 in
set_option maxRecDepth 100000 in
theorem c_Na_parse (l : Launch) (D : va_G) (ct : Nat → ClassId) (a_this a_odds a_lengths a_letters a_alike a_oddsTogether a_p1 a_p1_bytes : Nat) (n_p1_bytes : Nat) (F : Nat) (f_p1_size : Int32) (f_p1_bytes : Nat → Int32) (f_size : Int32) (f_fault : Int32) (f_odds : Nat → Int32) (f_lengths : Nat → Int32) (f_letters : Nat → Int32) (f_alike : Nat → Int32) (f_oddsTogether : Nat → Int32) (r_size : Int32) (r_fault : Int32) (r_odds : Nat → Int32) (r_lengths : Nat → Int32) (r_letters : Nat → Int32) (r_alike : Nat → Int32) (r_oddsTogether : Nat → Int32) (sz : Nat) (hf : Na_parse F n_p1_bytes f_p1_size f_p1_bytes f_size f_fault f_odds f_lengths f_letters f_alike f_oddsTogether = some (r_size, r_fault, r_odds, r_lengths, r_letters, r_alike, r_oddsTogether)) : Met l yX3_parse (WS yX3_parse cX3_parse 2 none) RM_Na_parse (va_Pc [.ref a_this, .ref a_p1] (PM D ct sz (w_Na_parse ct a_this a_odds a_lengths a_letters a_alike a_oddsTogether a_p1 a_p1_bytes n_p1_bytes f_size f_fault f_odds f_lengths f_letters f_alike f_oddsTogether f_p1_size f_p1_bytes))) (QM D none (w_Na_parse ct a_this a_odds a_lengths a_letters a_alike a_oddsTogether a_p1 a_p1_bytes n_p1_bytes r_size r_fault r_odds r_lengths r_letters r_alike r_oddsTogether f_p1_size f_p1_bytes) (va_A (w_Na_parse ct a_this a_odds a_lengths a_letters a_alike a_oddsTogether a_p1 a_p1_bytes n_p1_bytes f_size f_fault f_odds f_lengths f_letters f_alike f_oddsTogether f_p1_size f_p1_bytes) sz)) 0 0 (va_A (w_Na_parse ct a_this a_odds a_lengths a_letters a_alike a_oddsTogether a_p1 a_p1_bytes n_p1_bytes f_size f_fault f_odds f_lengths f_letters f_alike f_oddsTogether f_p1_size f_p1_bytes) sz) := by
  refine kMetM yn_yX3_parse rfl (Nat.le_of_ble_eq_true rfl) ?_
  intro p e s m args below meth c A C hA hP hD ls hl
  have hl : lv_has ls 2 [(0, .ref a_this), (1, .ref a_p1)] := hl
  have hS : va_S A s.heap s.heap [] := va_S.rf
  obtain ⟨hx, hb, hr, hml, hown, hts, hlk, hK, hN⟩ := id C
  unfold Na_parse at hf
  refine lv_aload_n hx hb dX3_parse_0 rfl (lv_at hl 0 rfl) ?_
  refine lv_iconst (v := 0) hx hb dX3_parse_1 (by decide) ?_
  refine va_put (ci := 3) (v := .int 0) (ty := .int) (C := RX3) (T := TX3) (N := 7) hx hb hts inX3 tyX3 tyX3_ok nmX3 hown hK hP hD hS 0 rfl rfl 5 (by decide) (hts _ tw_124) (fun _ h9 => h9) rfl (tyX3_ok 5 (by decide)) rfl rfl (Nat.le_of_ble_eq_true rfl) dX3_parse_2 (fun H locs hP hD hS => ?_)
  have hP : va_P D vwCl (w_Na_parse ct a_this a_odds a_lengths a_letters a_alike a_oddsTogether a_p1 a_p1_bytes n_p1_bytes 0 f_fault f_odds f_lengths f_letters f_alike f_oddsTogether f_p1_size f_p1_bytes) H := hP
  have hD : va_D A (w_Na_parse ct a_this a_odds a_lengths a_letters a_alike a_oddsTogether a_p1 a_p1_bytes n_p1_bytes 0 f_fault f_odds f_lengths f_letters f_alike f_oddsTogether f_p1_size f_p1_bytes) := hD
  refine lv_aload_n hx hb dX3_parse_5 rfl (lv_at hl 0 rfl) ?_
  refine lv_aload_n hx hb dX3_parse_6 rfl (lv_at hl 0 rfl) ?_
  refine lv_aload_n hx hb dX3_parse_7 rfl (lv_at hl 1 rfl) ?_
  obtain ⟨v8, f_size_8, f_odds_8, f_lengths_8, f_letters_8, hc8, hf⟩ := cb5_some hf
  refine kcMV (q0 := 0) (ci := 3) (As := [.ref a_p1]) (rest := [.ref a_this]) (st1 := [.int v8, .ref a_this]) (wf := (w_Na_parse ct a_this a_odds a_lengths a_letters a_alike a_oddsTogether a_p1 a_p1_bytes n_p1_bytes f_size_8 f_fault f_odds_8 f_lengths_8 f_letters_8 f_alike f_oddsTogether f_p1_size f_p1_bytes)) C (c_Na_scan l D ct a_this a_odds a_lengths a_letters a_alike a_oddsTogether a_p1 a_p1_bytes n_p1_bytes f_fault F f_p1_size f_p1_bytes 0 f_odds f_lengths f_letters v8 f_size_8 f_odds_8 f_lengths_8 f_letters_8 _ hc8) ⟨rfl, rfl⟩ yn_yX3_scan tw_381 tw_2 tw_379 ⟨Nat.le_of_ble_eq_true rfl, Nat.le_of_ble_eq_true rfl⟩ ⟨Nat.zero_le _, Nat.zero_le _⟩ hP hD hS hA [0, 1, 2, 3, 6, 7] [4, 5] [2, 3, 4, 5, 0, 1, 6, 7] rfl rfl rfl rfl rfl (by decide) rfl rfl rfl rfl rfl rfl hl.1 rfl rfl (Nat.le_of_ble_eq_true rfl) dX3_parse_8 rfl (fun H locs hP hD hS => ?_)
  refine va_put (ci := 3) (v := .int v8) (ty := .int) (C := RX3) (T := TX3) (N := 7) hx hb hts inX3 tyX3 tyX3_ok nmX3 hown hK hP hD hS 0 rfl rfl 6 (by decide) (hts _ tw_125) (fun _ h9 => h9) rfl (tyX3_ok 6 (by decide)) rfl rfl (Nat.le_of_ble_eq_true rfl) dX3_parse_11 (fun H locs hP hD hS => ?_)
  have hP : va_P D vwCl (w_Na_parse ct a_this a_odds a_lengths a_letters a_alike a_oddsTogether a_p1 a_p1_bytes n_p1_bytes f_size_8 v8 f_odds_8 f_lengths_8 f_letters_8 f_alike f_oddsTogether f_p1_size f_p1_bytes) H := hP
  have hD : va_D A (w_Na_parse ct a_this a_odds a_lengths a_letters a_alike a_oddsTogether a_p1 a_p1_bytes n_p1_bytes f_size_8 v8 f_odds_8 f_lengths_8 f_letters_8 f_alike f_oddsTogether f_p1_size f_p1_bytes) := hD
  refine lv_aload_n hx hb dX3_parse_14 rfl (lv_at hl 0 rfl) ?_
  refine va_get (ci := 3) (v := .int v8) (C := RX3) (T := TX3) (N := 7) hx hb hts inX3 hown hK hP 0 rfl rfl 6 (by decide) (hts _ tw_125) (fun _ h9 => h9) rfl dX3_parse_15 ?_
  refine lv_iconst (v := (-1)) hx hb dX3_parse_18 (by decide) ?_
  refine lv_icmp_eq (tgt := 27) hx hb dX3_parse_19 (by decide) (fun hc => ?_) (fun hc => ?_)
  · have hf := kpos hc hf
    exact t_Na_parse_b27 C hA a_this a_odds a_lengths a_letters a_alike a_oddsTogether a_p1 a_p1_bytes n_p1_bytes F f_p1_size f_p1_bytes r_size r_fault r_odds r_lengths r_letters r_alike r_oddsTogether f_size_8 v8 f_odds_8 f_lengths_8 f_letters_8 f_alike f_oddsTogether hf _ _ hP hD hS _ (lv_sub hl [0] rfl)
  · have hf := kneg hc hf
    refine lv_aload_n hx hb dX3_parse_22 rfl (lv_at hl 0 rfl) ?_
    refine lv_iconst (v := 0) hx hb dX3_parse_23 (by decide) ?_
    refine va_put (ci := 3) (v := .int 0) (ty := .int) (C := RX3) (T := TX3) (N := 7) hx hb hts inX3 tyX3 tyX3_ok nmX3 hown hK hP hD hS 0 rfl rfl 5 (by decide) (hts _ tw_124) (fun _ h9 => h9) rfl (tyX3_ok 5 (by decide)) rfl rfl (Nat.le_of_ble_eq_true rfl) dX3_parse_24 (fun H locs hP hD hS => ?_)
    have hP : va_P D vwCl (w_Na_parse ct a_this a_odds a_lengths a_letters a_alike a_oddsTogether a_p1 a_p1_bytes n_p1_bytes 0 v8 f_odds_8 f_lengths_8 f_letters_8 f_alike f_oddsTogether f_p1_size f_p1_bytes) H := hP
    have hD : va_D A (w_Na_parse ct a_this a_odds a_lengths a_letters a_alike a_oddsTogether a_p1 a_p1_bytes n_p1_bytes 0 v8 f_odds_8 f_lengths_8 f_letters_8 f_alike f_oddsTogether f_p1_size f_p1_bytes) := hD
    exact t_Na_parse_b27 C hA a_this a_odds a_lengths a_letters a_alike a_oddsTogether a_p1 a_p1_bytes n_p1_bytes F f_p1_size f_p1_bytes r_size r_fault r_odds r_lengths r_letters r_alike r_oddsTogether 0 v8 f_odds_8 f_lengths_8 f_letters_8 f_alike f_oddsTogether hf _ _ hP hD hS _ (lv_sub hl [0] rfl)
def RM_Pi_takeLetters : Room := { frames := 1, cells := 0, slots := 0, locals := 21 }
set_option maxHeartbeats 4000000 in
set_option maxRecDepth 100000 in
theorem t_Pi_takeLetters_b3 {p : Program} {l : Launch} {e : Env} {s : State} {m : MethodId} {args : Array Value} {below : List Frame} {meth : Method} {c : Code} {D : va_G} {ct : Nat → ClassId} (C : CX p s m args meth c RX4 cX4_takeLetters 6 (some .int) D ct) {A : Nat → Prop} (hA : ∀ q : Nat, s.heap.size ≤ q → A q) (a_this a_inside a_lengths a_letters a_p1 a_p1_bytes : Nat) (n_p1_bytes : Nat) (f_size : Int32) (f_fault : Int32) (F : Nat) (f_p1_size : Int32) (f_p1_bytes : Nat → Int32) (x2 : Int32) (x3 : Int32) (r : Int32) (r_letters : Nat → Int32) (rec3 : Int32 → (Nat → Int32) → Option (Int32 × (Nat → Int32))) (hr3 : ∀ (x4 : Int32) (f_letters : Nat → Int32), rec3 x4 f_letters = some (r, r_letters) → ∀ (H : Heap) (locs : List Loc), va_P D vwCl (w_Pi_takeLetters ct a_this a_inside a_lengths a_letters a_p1 a_p1_bytes n_p1_bytes f_size f_fault f_letters f_p1_size f_p1_bytes) H → va_D A (w_Pi_takeLetters ct a_this a_inside a_lengths a_letters a_p1 a_p1_bytes n_p1_bytes f_size f_fault f_letters f_p1_size f_p1_bytes) → va_S A s.heap H locs → ∀ ls : Array Slot, lv_has ls 6 [(0, .ref a_this), (1, .ref a_p1), (2, .int x2), (3, .int x3), (4, .int x4)] → W p l e RM_Pi_takeLetters s m args below meth c H locs 0 0 (MQ below (QM D (some (.int r)) (w_Pi_takeLetters ct a_this a_inside a_lengths a_letters a_p1 a_p1_bytes n_p1_bytes f_size f_fault r_letters f_p1_size f_p1_bytes) A) args s 0 0 A) (F0 m 3 ls [])) : ∀ (x4 : Int32) (f_letters : Nat → Int32), Pi_takeLetters_b3 F n_p1_bytes f_p1_size f_p1_bytes x2 x3 rec3 x4 f_letters = some (r, r_letters) → ∀ (H : Heap) (locs : List Loc), va_P D vwCl (w_Pi_takeLetters ct a_this a_inside a_lengths a_letters a_p1 a_p1_bytes n_p1_bytes f_size f_fault f_letters f_p1_size f_p1_bytes) H → va_D A (w_Pi_takeLetters ct a_this a_inside a_lengths a_letters a_p1 a_p1_bytes n_p1_bytes f_size f_fault f_letters f_p1_size f_p1_bytes) → va_S A s.heap H locs → ∀ ls : Array Slot, lv_has ls 6 [(0, .ref a_this), (1, .ref a_p1), (2, .int x2), (3, .int x3), (4, .int x4)] → W p l e RM_Pi_takeLetters s m args below meth c H locs 0 0 (MQ below (QM D (some (.int r)) (w_Pi_takeLetters ct a_this a_inside a_lengths a_letters a_p1 a_p1_bytes n_p1_bytes f_size f_fault r_letters f_p1_size f_p1_bytes) A) args s 0 0 A) (F0 m 3 ls []) := by
  obtain ⟨hx, hb, hr, hml, hown, hts, hlk, hK, hN⟩ := id C
  intro x4 f_letters hf H locs hP hD hS ls hl
  unfold Pi_takeLetters_b3 at hf
  refine lv_iload hx hb dX4_takeLetters_3 (lv_at hl 4 rfl) ?_
  refine lv_iconst (v := 3) hx hb dX4_takeLetters_5 (by decide) ?_
  refine lv_icmp_ge (tgt := 50) hx hb dX4_takeLetters_6 (by decide) (fun hc => ?_) (fun hc => ?_)
  · have hf := kpos hc hf
    refine lv_iconst (v := 3) hx hb dX4_takeLetters_50 (by decide) ?_
    obtain ⟨e1, e2⟩ := ti2 hf
    subst e1; subst e2
    exact kretM C hP hD hS dX4_takeLetters_51
  · have hf := kneg hc hf
    refine lv_aload_n hx hb dX4_takeLetters_9 rfl (lv_at hl 1 rfl) ?_
    refine lv_iload_n hx hb dX4_takeLetters_10 rfl (lv_at hl 2 rfl) ?_
    refine lv_iload hx hb dX4_takeLetters_11 (lv_at hl 4 rfl) ?_
    refine lv_iadd hx hb dX4_takeLetters_13 ?_
    obtain ⟨v14, hc14, hf⟩ := cb1_some hf
    refine kcRV (q0 := 2) (ci := 8) (As := [.int (x2 + x4)]) (rest := []) (st1 := [.int v14]) C (c_Te_byteAt l D ct a_p1 a_p1_bytes n_p1_bytes f_p1_size f_p1_bytes (x2 + x4) v14 hc14) ⟨rfl, rfl⟩ yn_yX8_byteAt tw_385 tw_386 tw_419 ⟨Nat.le_of_ble_eq_true rfl, Nat.le_of_ble_eq_true rfl⟩ ⟨Nat.zero_le _, Nat.zero_le _⟩ hP [2, 3] rfl rfl rfl rfl hl.1 rfl rfl (Nat.le_of_ble_eq_true rfl) dX4_takeLetters_14 rfl ?_
    obtain ⟨v17, hc17, hf⟩ := cb1_some hf
    refine kcRSN (host := "NamedDwarf") (As := [.int v14]) (rest := []) (st1 := [.int v17]) C (c_ND_letterOf l D ct v14 v17 hc17) ⟨rfl, rfl⟩ yn_yX10_letterOf tw_393 (List.mem_of_getElem? (i := 8) rfl) ⟨Nat.le_of_ble_eq_true rfl, Nat.le_of_ble_eq_true rfl⟩ ⟨Nat.zero_le _, Nat.zero_le _⟩ hP [] rfl hl.1 rfl rfl (Nat.le_of_ble_eq_true rfl) dX4_takeLetters_17 rfl ?_
    refine lv_istore (lv' := [(5, .int v17), (0, .ref a_this), (1, .ref a_p1), (2, .int x2), (3, .int x3), (4, .int x4)]) hx hb dX4_takeLetters_20 hl (by decide) rfl (fun ls hl => ?_)
    refine lv_iload hx hb dX4_takeLetters_22 (lv_at hl 0 rfl) ?_
    refine lv_iconst (v := (-1)) hx hb dX4_takeLetters_24 (by decide) ?_
    refine lv_icmp_ne (tgt := 31) hx hb dX4_takeLetters_25 (by decide) (fun hc => ?_) (fun hc => ?_)
    · have hf := kneg hc hf
      refine lv_aload_n hx hb dX4_takeLetters_31 rfl (lv_at hl 1 rfl) ?_
      refine va_get (ci := 4) (v := .ref a_letters) (C := RX4) (T := TX4) (N := 5) hx hb hts inX4 hown hK hP 0 rfl rfl 2 (by decide) (hts _ tw_149) (fun _ h9 => h9) rfl dX4_takeLetters_32 ?_
      refine lv_iload_n hx hb dX4_takeLetters_35 rfl (lv_at hl 4 rfl) ?_
      refine lv_iconst (v := 3) hx hb dX4_takeLetters_36 (by decide) ?_
      refine lv_imul hx hb dX4_takeLetters_37 ?_
      refine lv_iload hx hb dX4_takeLetters_38 (lv_at hl 5 rfl) ?_
      refine lv_iadd hx hb dX4_takeLetters_40 ?_
      refine lv_iload hx hb dX4_takeLetters_41 (lv_at hl 0 rfl) ?_
      obtain ⟨hin, f_letters_43, ev43, hf⟩ := wr_ex hf
      refine kiast hx hb hK hP hD hS 1 0 rfl rfl hin ev43 dX4_takeLetters_43 (fun H locs hP hD hS => ?_)
      have hP : va_P D vwCl (w_Pi_takeLetters ct a_this a_inside a_lengths a_letters a_p1 a_p1_bytes n_p1_bytes f_size f_fault f_letters_43 f_p1_size f_p1_bytes) H := hP
      have hD : va_D A (w_Pi_takeLetters ct a_this a_inside a_lengths a_letters a_p1 a_p1_bytes n_p1_bytes f_size f_fault f_letters_43 f_p1_size f_p1_bytes) := hD
      refine lv_iinc (v := x4 + 1) (lv' := [(4, .int (x4 + 1)), (5, .int v17), (0, .ref a_this), (1, .ref a_p1), (2, .int x2), (3, .int x3)]) hx hb dX4_takeLetters_44 hl (k := 5) rfl rfl (by decide) rfl (fun ls hl => ?_)
      refine lv_goto (tgt := 3) hx hb dX4_takeLetters_47 (by decide) ?_
      exact hr3 (x4 + 1) f_letters_43 hf _ _ hP hD hS _ (lv_sub hl [2, 3, 4, 5, 0] rfl)
    · have hf := kpos hc hf
      refine lv_iload hx hb dX4_takeLetters_28 (lv_at hl 5 rfl) ?_
      obtain ⟨e1, e2⟩ := ti2 hf
      subst e1; subst e2
      exact kretM C hP hD hS dX4_takeLetters_30
set_option maxHeartbeats 4000000 in
set_option maxRecDepth 100000 in
theorem t_Pi_takeLetters_l3 {p : Program} {l : Launch} {e : Env} {s : State} {m : MethodId} {args : Array Value} {below : List Frame} {meth : Method} {c : Code} {D : va_G} {ct : Nat → ClassId} (C : CX p s m args meth c RX4 cX4_takeLetters 6 (some .int) D ct) {A : Nat → Prop} (hA : ∀ q : Nat, s.heap.size ≤ q → A q) (a_this a_inside a_lengths a_letters a_p1 a_p1_bytes : Nat) (n_p1_bytes : Nat) (f_size : Int32) (f_fault : Int32) (F : Nat) (f_p1_size : Int32) (f_p1_bytes : Nat → Int32) (x2 : Int32) (x3 : Int32) (r : Int32) (r_letters : Nat → Int32) : ∀ (n : Nat) (x4 : Int32) (f_letters : Nat → Int32), Pi_takeLetters_l3 F n_p1_bytes f_p1_size f_p1_bytes x2 x3 n x4 f_letters = some (r, r_letters) → ∀ (H : Heap) (locs : List Loc), va_P D vwCl (w_Pi_takeLetters ct a_this a_inside a_lengths a_letters a_p1 a_p1_bytes n_p1_bytes f_size f_fault f_letters f_p1_size f_p1_bytes) H → va_D A (w_Pi_takeLetters ct a_this a_inside a_lengths a_letters a_p1 a_p1_bytes n_p1_bytes f_size f_fault f_letters f_p1_size f_p1_bytes) → va_S A s.heap H locs → ∀ ls : Array Slot, lv_has ls 6 [(0, .ref a_this), (1, .ref a_p1), (2, .int x2), (3, .int x3), (4, .int x4)] → W p l e RM_Pi_takeLetters s m args below meth c H locs 0 0 (MQ below (QM D (some (.int r)) (w_Pi_takeLetters ct a_this a_inside a_lengths a_letters a_p1 a_p1_bytes n_p1_bytes f_size f_fault r_letters f_p1_size f_p1_bytes) A) args s 0 0 A) (F0 m 3 ls []) := by
  intro n
  induction n with
  | zero =>
    intro x4 f_letters hf
    exact absurd hf (by simp [Pi_takeLetters_l3])
  | succ n ih =>
    intro x4 f_letters hf
    exact t_Pi_takeLetters_b3 C hA a_this a_inside a_lengths a_letters a_p1 a_p1_bytes n_p1_bytes f_size f_fault F f_p1_size f_p1_bytes x2 x3 r r_letters (Pi_takeLetters_l3 F n_p1_bytes f_p1_size f_p1_bytes x2 x3 n) ih x4 f_letters hf
set_option maxHeartbeats 4000000 in
set_option maxRecDepth 100000 in
theorem c_Pi_takeLetters (l : Launch) (D : va_G) (ct : Nat → ClassId) (a_this a_inside a_lengths a_letters a_p1 a_p1_bytes : Nat) (n_p1_bytes : Nat) (f_size : Int32) (f_fault : Int32) (F : Nat) (f_p1_size : Int32) (f_p1_bytes : Nat → Int32) (f_letters : Nat → Int32) (x2 : Int32) (x3 : Int32) (r : Int32) (r_letters : Nat → Int32) (sz : Nat) (hf : Pi_takeLetters F n_p1_bytes f_p1_size f_p1_bytes f_letters x2 x3 = some (r, r_letters)) : Met l yX4_takeLetters (WS yX4_takeLetters cX4_takeLetters 6 (some .int)) RM_Pi_takeLetters (va_Pc [.ref a_this, .ref a_p1, .int x2, .int x3] (PM D ct sz (w_Pi_takeLetters ct a_this a_inside a_lengths a_letters a_p1 a_p1_bytes n_p1_bytes f_size f_fault f_letters f_p1_size f_p1_bytes))) (QM D (some (.int r)) (w_Pi_takeLetters ct a_this a_inside a_lengths a_letters a_p1 a_p1_bytes n_p1_bytes f_size f_fault r_letters f_p1_size f_p1_bytes) (va_A (w_Pi_takeLetters ct a_this a_inside a_lengths a_letters a_p1 a_p1_bytes n_p1_bytes f_size f_fault f_letters f_p1_size f_p1_bytes) sz)) 0 0 (va_A (w_Pi_takeLetters ct a_this a_inside a_lengths a_letters a_p1 a_p1_bytes n_p1_bytes f_size f_fault f_letters f_p1_size f_p1_bytes) sz) := by
  refine kMetM yn_yX4_takeLetters rfl (Nat.le_of_ble_eq_true rfl) ?_
  intro p e s m args below meth c A C hA hP hD ls hl
  have hl : lv_has ls 6 [(0, .ref a_this), (1, .ref a_p1), (2, .int x2), (3, .int x3)] := hl
  have hS : va_S A s.heap s.heap [] := va_S.rf
  obtain ⟨hx, hb, hr, hml, hown, hts, hlk, hK, hN⟩ := id C
  unfold Pi_takeLetters at hf
  refine lv_iconst (v := 0) hx hb dX4_takeLetters_0 (by decide) ?_
  refine lv_istore (lv' := [(4, .int 0), (0, .ref a_this), (1, .ref a_p1), (2, .int x2), (3, .int x3)]) hx hb dX4_takeLetters_1 hl (by decide) rfl (fun ls hl => ?_)
  exact t_Pi_takeLetters_l3 C hA a_this a_inside a_lengths a_letters a_p1 a_p1_bytes n_p1_bytes f_size f_fault F f_p1_size f_p1_bytes x2 x3 r r_letters F 0 f_letters hf _ _ hP hD hS _ (lv_sub hl [1, 2, 3, 4, 0] rfl)
def RM_Pi_scan : Room := { frames := 2, cells := 0, slots := 0, locals := 46 }
set_option maxHeartbeats 4000000 in
set_option maxRecDepth 100000 in
theorem t_Pi_scan_b83 {p : Program} {l : Launch} {e : Env} {s : State} {m : MethodId} {args : Array Value} {below : List Frame} {meth : Method} {c : Code} {D : va_G} {ct : Nat → ClassId} (C : CX p s m args meth c RX4 cX4_scan 6 (some .int) D ct) {A : Nat → Prop} (hA : ∀ q : Nat, s.heap.size ≤ q → A q) (a_this a_inside a_lengths a_letters a_p1 a_p1_bytes : Nat) (n_p1_bytes : Nat) (f_fault : Int32) (F : Nat) (f_p1_size : Int32) (f_p1_bytes : Nat → Int32) (r : Int32) (r_size : Int32) (r_inside : Nat → Int32) (r_lengths : Nat → Int32) (r_letters : Nat → Int32) (rec13 : Int32 → Int32 → Int32 → (Nat → Int32) → (Nat → Int32) → (Nat → Int32) → Option (Int32 × Int32 × (Nat → Int32) × (Nat → Int32) × (Nat → Int32))) (hr13 : ∀ (x2 : Int32) (x3 : Int32) (f_size : Int32) (f_inside : Nat → Int32) (f_lengths : Nat → Int32) (f_letters : Nat → Int32), rec13 x2 x3 f_size f_inside f_lengths f_letters = some (r, r_size, r_inside, r_lengths, r_letters) → ∀ (H : Heap) (locs : List Loc), va_P D vwCl (w_Pi_scan ct a_this a_inside a_lengths a_letters a_p1 a_p1_bytes n_p1_bytes f_size f_fault f_inside f_lengths f_letters f_p1_size f_p1_bytes) H → va_D A (w_Pi_scan ct a_this a_inside a_lengths a_letters a_p1 a_p1_bytes n_p1_bytes f_size f_fault f_inside f_lengths f_letters f_p1_size f_p1_bytes) → va_S A s.heap H locs → ∀ ls : Array Slot, lv_has ls 6 [(0, .ref a_this), (1, .ref a_p1), (2, .int x2), (3, .int x3)] → W p l e RM_Pi_scan s m args below meth c H locs 0 0 (MQ below (QM D (some (.int r)) (w_Pi_scan ct a_this a_inside a_lengths a_letters a_p1 a_p1_bytes n_p1_bytes r_size f_fault r_inside r_lengths r_letters f_p1_size f_p1_bytes) A) args s 0 0 A) (F0 m 13 ls [])) : ∀ (x2 : Int32) (x3 : Int32) (x5 : Int32) (k1 : Int32) (k2 : Int32) (f_size : Int32) (f_inside : Nat → Int32) (f_lengths : Nat → Int32) (f_letters : Nat → Int32), Pi_scan_b83 F n_p1_bytes f_p1_size f_p1_bytes rec13 x2 x3 x5 k1 k2 f_size f_inside f_lengths f_letters = some (r, r_size, r_inside, r_lengths, r_letters) → ∀ (H : Heap) (locs : List Loc), va_P D vwCl (w_Pi_scan ct a_this a_inside a_lengths a_letters a_p1 a_p1_bytes n_p1_bytes f_size f_fault f_inside f_lengths f_letters f_p1_size f_p1_bytes) H → va_D A (w_Pi_scan ct a_this a_inside a_lengths a_letters a_p1 a_p1_bytes n_p1_bytes f_size f_fault f_inside f_lengths f_letters f_p1_size f_p1_bytes) → va_S A s.heap H locs → ∀ ls : Array Slot, lv_has ls 6 [(0, .ref a_this), (1, .ref a_p1), (2, .int x2), (3, .int x3), (5, .int x5)] → W p l e RM_Pi_scan s m args below meth c H locs 0 0 (MQ below (QM D (some (.int r)) (w_Pi_scan ct a_this a_inside a_lengths a_letters a_p1 a_p1_bytes n_p1_bytes r_size f_fault r_inside r_lengths r_letters f_p1_size f_p1_bytes) A) args s 0 0 A) (F0 m 83 ls [.int k2, .int k1, .ref a_inside]) := by
  obtain ⟨hx, hb, hr, hml, hown, hts, hlk, hK, hN⟩ := id C
  intro x2 x3 x5 k1 k2 f_size f_inside f_lengths f_letters hf H locs hP hD hS ls hl
  unfold Pi_scan_b83 at hf
  obtain ⟨hin, f_inside_83, ev83, hf⟩ := wrZ_ex hf
  refine kzast hx hb hK hP hD hS 1 1 rfl rfl hin ev83 dX4_scan_83 (fun H locs hP hD hS => ?_)
  have hP : va_P D vwCl (w_Pi_scan ct a_this a_inside a_lengths a_letters a_p1 a_p1_bytes n_p1_bytes f_size f_fault f_inside_83 f_lengths f_letters f_p1_size f_p1_bytes) H := hP
  have hD : va_D A (w_Pi_scan ct a_this a_inside a_lengths a_letters a_p1 a_p1_bytes n_p1_bytes f_size f_fault f_inside_83 f_lengths f_letters f_p1_size f_p1_bytes) := hD
  refine lv_aload_n hx hb dX4_scan_84 rfl (lv_at hl 0 rfl) ?_
  refine va_get (ci := 4) (v := .ref a_lengths) (C := RX4) (T := TX4) (N := 5) hx hb hts inX4 hown hK hP 0 rfl rfl 1 (by decide) (hts _ tw_148) (fun _ h9 => h9) rfl dX4_scan_85 ?_
  refine lv_iload_n hx hb dX4_scan_88 rfl (lv_at hl 3 rfl) ?_
  refine lv_iload hx hb dX4_scan_89 (lv_at hl 4 rfl) ?_
  obtain ⟨hin, f_lengths_91, ev91, hf⟩ := wr_ex hf
  refine kiast hx hb hK hP hD hS 2 0 rfl rfl hin ev91 dX4_scan_91 (fun H locs hP hD hS => ?_)
  have hP : va_P D vwCl (w_Pi_scan ct a_this a_inside a_lengths a_letters a_p1 a_p1_bytes n_p1_bytes f_size f_fault f_inside_83 f_lengths_91 f_letters f_p1_size f_p1_bytes) H := hP
  have hD : va_D A (w_Pi_scan ct a_this a_inside a_lengths a_letters a_p1 a_p1_bytes n_p1_bytes f_size f_fault f_inside_83 f_lengths_91 f_letters f_p1_size f_p1_bytes) := hD
  refine lv_aload_n hx hb dX4_scan_92 rfl (lv_at hl 0 rfl) ?_
  refine lv_iload_n hx hb dX4_scan_93 rfl (lv_at hl 3 rfl) ?_
  refine lv_iconst (v := 1) hx hb dX4_scan_94 (by decide) ?_
  refine lv_iadd hx hb dX4_scan_95 ?_
  refine va_put (ci := 4) (v := .int (x3 + 1)) (ty := .int) (C := RX4) (T := TX4) (N := 5) hx hb hts inX4 tyX4 tyX4_ok nmX4 hown hK hP hD hS 0 rfl rfl 3 (by decide) (hts _ tw_150) (fun _ h9 => h9) rfl (tyX4_ok 3 (by decide)) rfl rfl (Nat.le_of_ble_eq_true rfl) dX4_scan_96 (fun H locs hP hD hS => ?_)
  have hP : va_P D vwCl (w_Pi_scan ct a_this a_inside a_lengths a_letters a_p1 a_p1_bytes n_p1_bytes (x3 + 1) f_fault f_inside_83 f_lengths_91 f_letters f_p1_size f_p1_bytes) H := hP
  have hD : va_D A (w_Pi_scan ct a_this a_inside a_lengths a_letters a_p1 a_p1_bytes n_p1_bytes (x3 + 1) f_fault f_inside_83 f_lengths_91 f_letters f_p1_size f_p1_bytes) := hD
  refine lv_iload_n hx hb dX4_scan_99 rfl (lv_at hl 2 rfl) ?_
  refine lv_aload_n hx hb dX4_scan_100 rfl (lv_at hl 1 rfl) ?_
  obtain ⟨v101, hc101, hf⟩ := cb1_some hf
  refine kcRV (q0 := 4) (ci := 8) (As := []) (rest := [.int x2]) (st1 := [.int v101, .int x2]) C (c_Te_size l D ct a_p1 a_p1_bytes f_p1_size v101 hc101) ⟨rfl, rfl⟩ yn_yX8_size tw_348 tw_349 tw_418 ⟨Nat.le_of_ble_eq_true rfl, Nat.le_of_ble_eq_true rfl⟩ ⟨Nat.zero_le _, Nat.zero_le _⟩ hP [4] rfl rfl rfl rfl hl.1 rfl rfl (Nat.le_of_ble_eq_true rfl) dX4_scan_101 rfl ?_
  refine lv_icmp_ne (tgt := 109) hx hb dX4_scan_104 (by decide) (fun hc => ?_) (fun hc => ?_)
  · have hf := kneg hc hf
    refine lv_aload_n hx hb dX4_scan_109 rfl (lv_at hl 1 rfl) ?_
    refine lv_iload_n hx hb dX4_scan_110 rfl (lv_at hl 2 rfl) ?_
    obtain ⟨v111, hc111, hf⟩ := cb1_some hf
    refine kcRV (q0 := 4) (ci := 8) (As := [.int x2]) (rest := []) (st1 := [.int v111]) C (c_Te_byteAt l D ct a_p1 a_p1_bytes n_p1_bytes f_p1_size f_p1_bytes x2 v111 hc111) ⟨rfl, rfl⟩ yn_yX8_byteAt tw_385 tw_386 tw_419 ⟨Nat.le_of_ble_eq_true rfl, Nat.le_of_ble_eq_true rfl⟩ ⟨Nat.zero_le _, Nat.zero_le _⟩ hP [4, 5] rfl rfl rfl rfl hl.1 rfl rfl (Nat.le_of_ble_eq_true rfl) dX4_scan_111 rfl ?_
    refine lv_bipush (v := 59) hx hb dX4_scan_114 (by decide) ?_
    refine lv_icmp_eq (tgt := 121) hx hb dX4_scan_116 (by decide) (fun hc => ?_) (fun hc => ?_)
    · have hf := kpos hc hf
      refine lv_iinc (v := x2 + 1) (lv' := [(2, .int (x2 + 1)), (0, .ref a_this), (1, .ref a_p1), (3, .int x3), (5, .int x5)]) hx hb dX4_scan_121 hl (k := 2) rfl rfl (by decide) rfl (fun ls hl => ?_)
      refine lv_iinc (v := x3 + 1) (lv' := [(3, .int (x3 + 1)), (2, .int (x2 + 1)), (0, .ref a_this), (1, .ref a_p1), (5, .int x5)]) hx hb dX4_scan_124 hl (k := 3) rfl rfl (by decide) rfl (fun ls hl => ?_)
      refine lv_goto (tgt := 13) hx hb dX4_scan_127 (by decide) ?_
      exact hr13 (x2 + 1) (x3 + 1) (x3 + 1) f_inside_83 f_lengths_91 f_letters hf _ _ hP hD hS _ (lv_sub hl [2, 3, 1, 0] rfl)
    · have hf := kneg hc hf
      refine lv_iload_n hx hb dX4_scan_119 rfl (lv_at hl 2 rfl) ?_
      obtain ⟨e1, e2, e3, e4, e5⟩ := ti5 hf
      subst e1; subst e2; subst e3; subst e4; subst e5
      exact kretM C hP hD hS dX4_scan_120
  · have hf := kpos hc hf
    refine lv_iconst (v := (-1)) hx hb dX4_scan_107 (by decide) ?_
    obtain ⟨e1, e2, e3, e4, e5⟩ := ti5 hf
    subst e1; subst e2; subst e3; subst e4; subst e5
    exact kretM C hP hD hS dX4_scan_108
set_option maxHeartbeats 4000000 in
set_option maxRecDepth 100000 in
theorem t_Pi_scan_b42 {p : Program} {l : Launch} {e : Env} {s : State} {m : MethodId} {args : Array Value} {below : List Frame} {meth : Method} {c : Code} {D : va_G} {ct : Nat → ClassId} (C : CX p s m args meth c RX4 cX4_scan 6 (some .int) D ct) {A : Nat → Prop} (hA : ∀ q : Nat, s.heap.size ≤ q → A q) (a_this a_inside a_lengths a_letters a_p1 a_p1_bytes : Nat) (n_p1_bytes : Nat) (f_fault : Int32) (F : Nat) (f_p1_size : Int32) (f_p1_bytes : Nat → Int32) (r : Int32) (r_size : Int32) (r_inside : Nat → Int32) (r_lengths : Nat → Int32) (r_letters : Nat → Int32) (rec13 : Int32 → Int32 → Int32 → (Nat → Int32) → (Nat → Int32) → (Nat → Int32) → Option (Int32 × Int32 × (Nat → Int32) × (Nat → Int32) × (Nat → Int32))) (hr13 : ∀ (x2 : Int32) (x3 : Int32) (f_size : Int32) (f_inside : Nat → Int32) (f_lengths : Nat → Int32) (f_letters : Nat → Int32), rec13 x2 x3 f_size f_inside f_lengths f_letters = some (r, r_size, r_inside, r_lengths, r_letters) → ∀ (H : Heap) (locs : List Loc), va_P D vwCl (w_Pi_scan ct a_this a_inside a_lengths a_letters a_p1 a_p1_bytes n_p1_bytes f_size f_fault f_inside f_lengths f_letters f_p1_size f_p1_bytes) H → va_D A (w_Pi_scan ct a_this a_inside a_lengths a_letters a_p1 a_p1_bytes n_p1_bytes f_size f_fault f_inside f_lengths f_letters f_p1_size f_p1_bytes) → va_S A s.heap H locs → ∀ ls : Array Slot, lv_has ls 6 [(0, .ref a_this), (1, .ref a_p1), (2, .int x2), (3, .int x3)] → W p l e RM_Pi_scan s m args below meth c H locs 0 0 (MQ below (QM D (some (.int r)) (w_Pi_scan ct a_this a_inside a_lengths a_letters a_p1 a_p1_bytes n_p1_bytes r_size f_fault r_inside r_lengths r_letters f_p1_size f_p1_bytes) A) args s 0 0 A) (F0 m 13 ls [])) : ∀ (x2 : Int32) (x3 : Int32) (x4 : Int32) (f_size : Int32) (f_inside : Nat → Int32) (f_lengths : Nat → Int32) (f_letters : Nat → Int32), Pi_scan_b42 F n_p1_bytes f_p1_size f_p1_bytes rec13 x2 x3 x4 f_size f_inside f_lengths f_letters = some (r, r_size, r_inside, r_lengths, r_letters) → ∀ (H : Heap) (locs : List Loc), va_P D vwCl (w_Pi_scan ct a_this a_inside a_lengths a_letters a_p1 a_p1_bytes n_p1_bytes f_size f_fault f_inside f_lengths f_letters f_p1_size f_p1_bytes) H → va_D A (w_Pi_scan ct a_this a_inside a_lengths a_letters a_p1 a_p1_bytes n_p1_bytes f_size f_fault f_inside f_lengths f_letters f_p1_size f_p1_bytes) → va_S A s.heap H locs → ∀ ls : Array Slot, lv_has ls 6 [(0, .ref a_this), (1, .ref a_p1), (2, .int x2), (3, .int x3), (4, .int x4)] → W p l e RM_Pi_scan s m args below meth c H locs 0 0 (MQ below (QM D (some (.int r)) (w_Pi_scan ct a_this a_inside a_lengths a_letters a_p1 a_p1_bytes n_p1_bytes r_size f_fault r_inside r_lengths r_letters f_p1_size f_p1_bytes) A) args s 0 0 A) (F0 m 42 ls []) := by
  obtain ⟨hx, hb, hr, hml, hown, hts, hlk, hK, hN⟩ := id C
  intro x2 x3 x4 f_size f_inside f_lengths f_letters hf H locs hP hD hS ls hl
  unfold Pi_scan_b42 at hf
  refine lv_iinc (v := x2 + 1) (lv' := [(2, .int (x2 + 1)), (0, .ref a_this), (1, .ref a_p1), (3, .int x3), (4, .int x4)]) hx hb dX4_scan_42 hl (k := 2) rfl rfl (by decide) rfl (fun ls hl => ?_)
  refine lv_aload_n hx hb dX4_scan_45 rfl (lv_at hl 1 rfl) ?_
  refine lv_aload_n hx hb dX4_scan_46 rfl (lv_at hl 2 rfl) ?_
  refine lv_iload_n hx hb dX4_scan_47 rfl (lv_at hl 0 rfl) ?_
  refine lv_iload_n hx hb dX4_scan_48 rfl (lv_at hl 3 rfl) ?_
  obtain ⟨v49, f_letters_49, hc49, hf⟩ := cb2_some hf
  refine kcMV (q0 := 0) (ci := 4) (As := [.ref a_p1, .int (x2 + 1), .int x3]) (rest := []) (st1 := [.int v49]) (wf := (w_Pi_scan ct a_this a_inside a_lengths a_letters a_p1 a_p1_bytes n_p1_bytes f_size f_fault f_inside f_lengths f_letters_49 f_p1_size f_p1_bytes)) C (c_Pi_takeLetters l D ct a_this a_inside a_lengths a_letters a_p1 a_p1_bytes n_p1_bytes f_size f_fault F f_p1_size f_p1_bytes f_letters (x2 + 1) x3 v49 f_letters_49 _ hc49) ⟨rfl, rfl⟩ yn_yX4_takeLetters tw_422 tw_7 tw_420 ⟨Nat.le_of_ble_eq_true rfl, Nat.le_of_ble_eq_true rfl⟩ ⟨Nat.zero_le _, Nat.zero_le _⟩ hP hD hS hA [0, 3, 4, 5] [1, 2] [2, 0, 1, 3, 4, 5] rfl rfl rfl rfl rfl (by decide) rfl rfl rfl rfl rfl rfl hl.1 rfl rfl (Nat.le_of_ble_eq_true rfl) dX4_scan_49 rfl (fun H locs hP hD hS => ?_)
  refine lv_istore (lv' := [(5, .int v49), (2, .int (x2 + 1)), (0, .ref a_this), (1, .ref a_p1), (3, .int x3), (4, .int x4)]) hx hb dX4_scan_52 hl (by decide) rfl (fun ls hl => ?_)
  refine lv_iload_n hx hb dX4_scan_54 rfl (lv_at hl 1 rfl) ?_
  refine lv_iload hx hb dX4_scan_55 (lv_at hl 0 rfl) ?_
  refine lv_iadd hx hb dX4_scan_57 ?_
  refine lv_istore_n (lv' := [(2, .int ((x2 + 1) + v49)), (5, .int v49), (0, .ref a_this), (1, .ref a_p1), (3, .int x3), (4, .int x4)]) hx hb dX4_scan_58 rfl hl (by decide) rfl (fun ls hl => ?_)
  refine lv_iload hx hb dX4_scan_59 (lv_at hl 1 rfl) ?_
  refine lv_if_ne (tgt := 66) hx hb dX4_scan_61 (by decide) (fun hc => ?_) (fun hc => ?_)
  · have hf := kneg hc hf
    refine lv_aload_n hx hb dX4_scan_66 rfl (lv_at hl 2 rfl) ?_
    refine va_get (ci := 4) (v := .ref a_inside) (C := RX4) (T := TX4) (N := 5) hx hb hts inX4 hown hK hP 0 rfl rfl 0 (by decide) (hts _ tw_147) (fun _ h9 => h9) rfl dX4_scan_67 ?_
    refine lv_iload_n hx hb dX4_scan_70 rfl (lv_at hl 4 rfl) ?_
    refine lv_iload hx hb dX4_scan_71 (lv_at hl 5 rfl) ?_
    refine lv_bipush (v := 43) hx hb dX4_scan_73 (by decide) ?_
    refine lv_icmp_ne (tgt := 82) hx hb dX4_scan_75 (by decide) (fun hc => ?_) (fun hc => ?_)
    · have hf := kneg hc hf
      refine lv_iconst (v := 0) hx hb dX4_scan_82 (by decide) ?_
      exact t_Pi_scan_b83 C hA a_this a_inside a_lengths a_letters a_p1 a_p1_bytes n_p1_bytes f_fault F f_p1_size f_p1_bytes r r_size r_inside r_lengths r_letters rec13 hr13 ((x2 + 1) + v49) x3 v49 x3 0 f_size f_inside f_lengths f_letters_49 hf _ _ hP hD hS _ (lv_sub hl [2, 3, 0, 4, 1] rfl)
    · have hf := kpos hc hf
      refine lv_iconst (v := 1) hx hb dX4_scan_78 (by decide) ?_
      refine lv_goto (tgt := 83) hx hb dX4_scan_79 (by decide) ?_
      exact t_Pi_scan_b83 C hA a_this a_inside a_lengths a_letters a_p1 a_p1_bytes n_p1_bytes f_fault F f_p1_size f_p1_bytes r r_size r_inside r_lengths r_letters rec13 hr13 ((x2 + 1) + v49) x3 v49 x3 1 f_size f_inside f_lengths f_letters_49 hf _ _ hP hD hS _ (lv_sub hl [2, 3, 0, 4, 1] rfl)
  · have hf := kpos hc hf
    refine lv_iload_n hx hb dX4_scan_64 rfl (lv_at hl 0 rfl) ?_
    obtain ⟨e1, e2, e3, e4, e5⟩ := ti5 hf
    subst e1; subst e2; subst e3; subst e4; subst e5
    exact kretM C hP hD hS dX4_scan_65
set_option maxHeartbeats 4000000 in
set_option maxRecDepth 100000 in
theorem t_Pi_scan_b13 {p : Program} {l : Launch} {e : Env} {s : State} {m : MethodId} {args : Array Value} {below : List Frame} {meth : Method} {c : Code} {D : va_G} {ct : Nat → ClassId} (C : CX p s m args meth c RX4 cX4_scan 6 (some .int) D ct) {A : Nat → Prop} (hA : ∀ q : Nat, s.heap.size ≤ q → A q) (a_this a_inside a_lengths a_letters a_p1 a_p1_bytes : Nat) (n_p1_bytes : Nat) (f_fault : Int32) (F : Nat) (f_p1_size : Int32) (f_p1_bytes : Nat → Int32) (r : Int32) (r_size : Int32) (r_inside : Nat → Int32) (r_lengths : Nat → Int32) (r_letters : Nat → Int32) (rec13 : Int32 → Int32 → Int32 → (Nat → Int32) → (Nat → Int32) → (Nat → Int32) → Option (Int32 × Int32 × (Nat → Int32) × (Nat → Int32) × (Nat → Int32))) (hr13 : ∀ (x2 : Int32) (x3 : Int32) (f_size : Int32) (f_inside : Nat → Int32) (f_lengths : Nat → Int32) (f_letters : Nat → Int32), rec13 x2 x3 f_size f_inside f_lengths f_letters = some (r, r_size, r_inside, r_lengths, r_letters) → ∀ (H : Heap) (locs : List Loc), va_P D vwCl (w_Pi_scan ct a_this a_inside a_lengths a_letters a_p1 a_p1_bytes n_p1_bytes f_size f_fault f_inside f_lengths f_letters f_p1_size f_p1_bytes) H → va_D A (w_Pi_scan ct a_this a_inside a_lengths a_letters a_p1 a_p1_bytes n_p1_bytes f_size f_fault f_inside f_lengths f_letters f_p1_size f_p1_bytes) → va_S A s.heap H locs → ∀ ls : Array Slot, lv_has ls 6 [(0, .ref a_this), (1, .ref a_p1), (2, .int x2), (3, .int x3)] → W p l e RM_Pi_scan s m args below meth c H locs 0 0 (MQ below (QM D (some (.int r)) (w_Pi_scan ct a_this a_inside a_lengths a_letters a_p1 a_p1_bytes n_p1_bytes r_size f_fault r_inside r_lengths r_letters f_p1_size f_p1_bytes) A) args s 0 0 A) (F0 m 13 ls [])) : ∀ (x2 : Int32) (x3 : Int32) (f_size : Int32) (f_inside : Nat → Int32) (f_lengths : Nat → Int32) (f_letters : Nat → Int32), Pi_scan_b13 F n_p1_bytes f_p1_size f_p1_bytes rec13 x2 x3 f_size f_inside f_lengths f_letters = some (r, r_size, r_inside, r_lengths, r_letters) → ∀ (H : Heap) (locs : List Loc), va_P D vwCl (w_Pi_scan ct a_this a_inside a_lengths a_letters a_p1 a_p1_bytes n_p1_bytes f_size f_fault f_inside f_lengths f_letters f_p1_size f_p1_bytes) H → va_D A (w_Pi_scan ct a_this a_inside a_lengths a_letters a_p1 a_p1_bytes n_p1_bytes f_size f_fault f_inside f_lengths f_letters f_p1_size f_p1_bytes) → va_S A s.heap H locs → ∀ ls : Array Slot, lv_has ls 6 [(0, .ref a_this), (1, .ref a_p1), (2, .int x2), (3, .int x3)] → W p l e RM_Pi_scan s m args below meth c H locs 0 0 (MQ below (QM D (some (.int r)) (w_Pi_scan ct a_this a_inside a_lengths a_letters a_p1 a_p1_bytes n_p1_bytes r_size f_fault r_inside r_lengths r_letters f_p1_size f_p1_bytes) A) args s 0 0 A) (F0 m 13 ls []) := by
  obtain ⟨hx, hb, hr, hml, hown, hts, hlk, hK, hN⟩ := id C
  intro x2 x3 f_size f_inside f_lengths f_letters hf H locs hP hD hS ls hl
  unfold Pi_scan_b13 at hf
  refine lv_iload_n hx hb dX4_scan_13 rfl (lv_at hl 3 rfl) ?_
  refine lv_bipush (v := 6) hx hb dX4_scan_14 (by decide) ?_
  refine lv_icmp_ge (tgt := 130) hx hb dX4_scan_16 (by decide) (fun hc => ?_) (fun hc => ?_)
  · have hf := kpos hc hf
    refine lv_iload_n hx hb dX4_scan_130 rfl (lv_at hl 2 rfl) ?_
    obtain ⟨e1, e2, e3, e4, e5⟩ := ti5 hf
    subst e1; subst e2; subst e3; subst e4; subst e5
    exact kretM C hP hD hS dX4_scan_131
  · have hf := kneg hc hf
    refine lv_aload_n hx hb dX4_scan_19 rfl (lv_at hl 1 rfl) ?_
    refine lv_iload_n hx hb dX4_scan_20 rfl (lv_at hl 2 rfl) ?_
    obtain ⟨v21, hc21, hf⟩ := cb1_some hf
    refine kcRV (q0 := 4) (ci := 8) (As := [.int x2]) (rest := []) (st1 := [.int v21]) C (c_Te_byteAt l D ct a_p1 a_p1_bytes n_p1_bytes f_p1_size f_p1_bytes x2 v21 hc21) ⟨rfl, rfl⟩ yn_yX8_byteAt tw_385 tw_386 tw_419 ⟨Nat.le_of_ble_eq_true rfl, Nat.le_of_ble_eq_true rfl⟩ ⟨Nat.zero_le _, Nat.zero_le _⟩ hP [4, 5] rfl rfl rfl rfl hl.1 rfl rfl (Nat.le_of_ble_eq_true rfl) dX4_scan_21 rfl ?_
    refine lv_istore (lv' := [(4, .int v21), (0, .ref a_this), (1, .ref a_p1), (2, .int x2), (3, .int x3)]) hx hb dX4_scan_24 hl (by decide) rfl (fun ls hl => ?_)
    refine lv_iload hx hb dX4_scan_26 (lv_at hl 0 rfl) ?_
    refine lv_bipush (v := 43) hx hb dX4_scan_28 (by decide) ?_
    refine lv_icmp_eq (tgt := 42) hx hb dX4_scan_30 (by decide) (fun hc => ?_) (fun hc => ?_)
    · have hf := kpos hc hf
      exact t_Pi_scan_b42 C hA a_this a_inside a_lengths a_letters a_p1 a_p1_bytes n_p1_bytes f_fault F f_p1_size f_p1_bytes r r_size r_inside r_lengths r_letters rec13 hr13 x2 x3 v21 f_size f_inside f_lengths f_letters hf _ _ hP hD hS _ (lv_sub hl [1, 2, 3, 4, 0] rfl)
    · have hf := kneg hc hf
      refine lv_iload hx hb dX4_scan_33 (lv_at hl 0 rfl) ?_
      refine lv_bipush (v := 45) hx hb dX4_scan_35 (by decide) ?_
      refine lv_icmp_eq (tgt := 42) hx hb dX4_scan_37 (by decide) (fun hc => ?_) (fun hc => ?_)
      · have hf := kpos hc hf
        exact t_Pi_scan_b42 C hA a_this a_inside a_lengths a_letters a_p1 a_p1_bytes n_p1_bytes f_fault F f_p1_size f_p1_bytes r r_size r_inside r_lengths r_letters rec13 hr13 x2 x3 v21 f_size f_inside f_lengths f_letters hf _ _ hP hD hS _ (lv_sub hl [1, 2, 3, 4, 0] rfl)
      · have hf := kneg hc hf
        refine lv_iload_n hx hb dX4_scan_40 rfl (lv_at hl 3 rfl) ?_
        obtain ⟨e1, e2, e3, e4, e5⟩ := ti5 hf
        subst e1; subst e2; subst e3; subst e4; subst e5
        exact kretM C hP hD hS dX4_scan_41
set_option maxHeartbeats 4000000 in
set_option maxRecDepth 100000 in
theorem t_Pi_scan_l13 {p : Program} {l : Launch} {e : Env} {s : State} {m : MethodId} {args : Array Value} {below : List Frame} {meth : Method} {c : Code} {D : va_G} {ct : Nat → ClassId} (C : CX p s m args meth c RX4 cX4_scan 6 (some .int) D ct) {A : Nat → Prop} (hA : ∀ q : Nat, s.heap.size ≤ q → A q) (a_this a_inside a_lengths a_letters a_p1 a_p1_bytes : Nat) (n_p1_bytes : Nat) (f_fault : Int32) (F : Nat) (f_p1_size : Int32) (f_p1_bytes : Nat → Int32) (r : Int32) (r_size : Int32) (r_inside : Nat → Int32) (r_lengths : Nat → Int32) (r_letters : Nat → Int32) : ∀ (n : Nat) (x2 : Int32) (x3 : Int32) (f_size : Int32) (f_inside : Nat → Int32) (f_lengths : Nat → Int32) (f_letters : Nat → Int32), Pi_scan_l13 F n_p1_bytes f_p1_size f_p1_bytes n x2 x3 f_size f_inside f_lengths f_letters = some (r, r_size, r_inside, r_lengths, r_letters) → ∀ (H : Heap) (locs : List Loc), va_P D vwCl (w_Pi_scan ct a_this a_inside a_lengths a_letters a_p1 a_p1_bytes n_p1_bytes f_size f_fault f_inside f_lengths f_letters f_p1_size f_p1_bytes) H → va_D A (w_Pi_scan ct a_this a_inside a_lengths a_letters a_p1 a_p1_bytes n_p1_bytes f_size f_fault f_inside f_lengths f_letters f_p1_size f_p1_bytes) → va_S A s.heap H locs → ∀ ls : Array Slot, lv_has ls 6 [(0, .ref a_this), (1, .ref a_p1), (2, .int x2), (3, .int x3)] → W p l e RM_Pi_scan s m args below meth c H locs 0 0 (MQ below (QM D (some (.int r)) (w_Pi_scan ct a_this a_inside a_lengths a_letters a_p1 a_p1_bytes n_p1_bytes r_size f_fault r_inside r_lengths r_letters f_p1_size f_p1_bytes) A) args s 0 0 A) (F0 m 13 ls []) := by
  intro n
  induction n with
  | zero =>
    intro x2 x3 f_size f_inside f_lengths f_letters hf
    exact absurd hf (by simp [Pi_scan_l13])
  | succ n ih =>
    intro x2 x3 f_size f_inside f_lengths f_letters hf
    exact t_Pi_scan_b13 C hA a_this a_inside a_lengths a_letters a_p1 a_p1_bytes n_p1_bytes f_fault F f_p1_size f_p1_bytes r r_size r_inside r_lengths r_letters (Pi_scan_l13 F n_p1_bytes f_p1_size f_p1_bytes n) ih x2 x3 f_size f_inside f_lengths f_letters hf
set_option maxHeartbeats 4000000 in
set_option maxRecDepth 100000 in
theorem c_Pi_scan (l : Launch) (D : va_G) (ct : Nat → ClassId) (a_this a_inside a_lengths a_letters a_p1 a_p1_bytes : Nat) (n_p1_bytes : Nat) (f_fault : Int32) (F : Nat) (f_p1_size : Int32) (f_p1_bytes : Nat → Int32) (f_size : Int32) (f_inside : Nat → Int32) (f_lengths : Nat → Int32) (f_letters : Nat → Int32) (r : Int32) (r_size : Int32) (r_inside : Nat → Int32) (r_lengths : Nat → Int32) (r_letters : Nat → Int32) (sz : Nat) (hf : Pi_scan F n_p1_bytes f_p1_size f_p1_bytes f_size f_inside f_lengths f_letters = some (r, r_size, r_inside, r_lengths, r_letters)) : Met l yX4_scan (WS yX4_scan cX4_scan 6 (some .int)) RM_Pi_scan (va_Pc [.ref a_this, .ref a_p1] (PM D ct sz (w_Pi_scan ct a_this a_inside a_lengths a_letters a_p1 a_p1_bytes n_p1_bytes f_size f_fault f_inside f_lengths f_letters f_p1_size f_p1_bytes))) (QM D (some (.int r)) (w_Pi_scan ct a_this a_inside a_lengths a_letters a_p1 a_p1_bytes n_p1_bytes r_size f_fault r_inside r_lengths r_letters f_p1_size f_p1_bytes) (va_A (w_Pi_scan ct a_this a_inside a_lengths a_letters a_p1 a_p1_bytes n_p1_bytes f_size f_fault f_inside f_lengths f_letters f_p1_size f_p1_bytes) sz)) 0 0 (va_A (w_Pi_scan ct a_this a_inside a_lengths a_letters a_p1 a_p1_bytes n_p1_bytes f_size f_fault f_inside f_lengths f_letters f_p1_size f_p1_bytes) sz) := by
  refine kMetM yn_yX4_scan rfl (Nat.le_of_ble_eq_true rfl) ?_
  intro p e s m args below meth c A C hA hP hD ls hl
  have hl : lv_has ls 6 [(0, .ref a_this), (1, .ref a_p1)] := hl
  have hS : va_S A s.heap s.heap [] := va_S.rf
  obtain ⟨hx, hb, hr, hml, hown, hts, hlk, hK, hN⟩ := id C
  unfold Pi_scan at hf
  refine lv_iconst (v := 0) hx hb dX4_scan_0 (by decide) ?_
  refine lv_istore_n (lv' := [(2, .int 0), (0, .ref a_this), (1, .ref a_p1)]) hx hb dX4_scan_1 rfl hl (by decide) rfl (fun ls hl => ?_)
  refine lv_aload_n hx hb dX4_scan_2 rfl (lv_at hl 2 rfl) ?_
  obtain ⟨v3, hc3, hf⟩ := cb1_some hf
  refine kcRV (q0 := 4) (ci := 8) (As := []) (rest := []) (st1 := [.int v3]) C (c_Te_size l D ct a_p1 a_p1_bytes f_p1_size v3 hc3) ⟨rfl, rfl⟩ yn_yX8_size tw_348 tw_349 tw_418 ⟨Nat.le_of_ble_eq_true rfl, Nat.le_of_ble_eq_true rfl⟩ ⟨Nat.zero_le _, Nat.zero_le _⟩ hP [4] rfl rfl rfl rfl hl.1 rfl rfl (Nat.le_of_ble_eq_true rfl) dX4_scan_3 rfl ?_
  refine lv_if_ne (tgt := 11) hx hb dX4_scan_6 (by decide) (fun hc => ?_) (fun hc => ?_)
  · have hf := kneg hc hf
    refine lv_iconst (v := 0) hx hb dX4_scan_11 (by decide) ?_
    refine lv_istore_n (lv' := [(3, .int 0), (2, .int 0), (0, .ref a_this), (1, .ref a_p1)]) hx hb dX4_scan_12 rfl hl (by decide) rfl (fun ls hl => ?_)
    exact t_Pi_scan_l13 C hA a_this a_inside a_lengths a_letters a_p1 a_p1_bytes n_p1_bytes f_fault F f_p1_size f_p1_bytes r r_size r_inside r_lengths r_letters F 0 0 f_size f_inside f_lengths f_letters hf _ _ hP hD hS _ (lv_sub hl [2, 3, 1, 0] rfl)
  · have hf := kpos hc hf
    refine lv_iconst (v := (-1)) hx hb dX4_scan_9 (by decide) ?_
    obtain ⟨e1, e2, e3, e4, e5⟩ := ti5 hf
    subst e1; subst e2; subst e3; subst e4; subst e5
    exact kretM C hP hD hS dX4_scan_10
