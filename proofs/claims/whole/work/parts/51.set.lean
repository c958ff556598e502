theorem yn_yX0_allows : YN yX0_allows cX0_allows 3 (some .boolean) 2 := ⟨tw_509, tw_78, ⟨by decide +kernel, by decide +kernel, by decide +kernel⟩, by decide +kernel⟩
theorem yn_yX0_exchange : YN yX0_exchange cX0_exchange 4 (some .int) 2 := ⟨tw_517, tw_78, ⟨by decide +kernel, by decide +kernel, by decide +kernel⟩, by decide +kernel⟩
theorem yn_yX10_set : YN yX10_set cX10_set 3 (some .int) 2 := ⟨tw_505, tw_71, ⟨by decide +kernel, by decide +kernel, by decide +kernel⟩, by decide +kernel⟩
abbrev w_De_allows (ct : Nat → ClassId) (a_this : Nat) : va_W := []
def De_allows (x1 : Int32) (x2 : Int32) : Option Int32 :=
  (if (x1 : Int32) < 0 then some 0 else (if (5 : Int32) ≤ x1 then some 0 else rd 5 leF x1 (fun v14 => (if (x2 : Int32) < v14 then some 0 else rd 5 moF x1 (fun v23 => (if (v23 : Int32) < x2 then some 0 else some 1))))))
abbrev w_De_exchange (ct : Nat → ClassId) (a_this a_terms : Nat) (f_terms : Nat → Int32) : va_W := [(a_this, .inr (0, [.ref a_terms])), (a_terms, .inl (ct 0, 5, .inl f_terms))]
def De_exchange (f_terms : Nat → Int32) (x1 : Int32) (x2 : Int32) : Option (Int32 × (Nat → Int32)) :=
  (if (x1 : Int32) < 0 then some ((-2), f_terms) else (if (x1 : Int32) < 5 then rd 5 f_terms x1 (fun v17 => wr 5 f_terms x1 x2 (fun f_terms_25 => some (v17, f_terms_25))) else some ((-2), f_terms)))
abbrev w_ND_set (ct : Nat → ClassId) (a_this a_texts a_names a_pieces a_song a_fitting a_deal a_guesses a_wise a_spy a_sheets a_deal_terms a_wise_least : Nat) (f_stale : Int32) (f_finding : Int32) (f_deal_terms : Nat → Int32) (f_wise_stale : Int32) : va_W := [(a_this, .inr (10, [.ref a_texts, .ref a_names, .ref a_pieces, .ref a_song, .ref a_fitting, .ref a_deal, .ref a_guesses, .ref a_wise, .ref a_spy, .ref a_sheets, .int f_stale, .int f_finding])), (a_deal, .inr (0, [.ref a_deal_terms])), (a_deal_terms, .inl (ct 0, 5, .inl f_deal_terms)), (a_wise, .inr (9, [.ref a_names, .ref a_deal, .ref a_wise_least, .int f_wise_stale]))]
def ND_set (f_deal_terms : Nat → Int32) (f_wise_stale : Int32) (x1 : Int32) (x2 : Int32) : Option (Int32 × (Nat → Int32) × Int32) :=
  cb1 (De_allows x1 x2) (fun v6 => (if (v6 : Int32) = 0 then some ((-2), f_deal_terms, f_wise_stale) else cb1 (Wi_forgetAll f_wise_stale) (fun f_wise_stale_19 => cb2 (De_exchange f_deal_terms x1 x2) (fun v28 f_deal_terms_28 => some (v28, f_deal_terms_28, f_wise_stale_19)))))
def RM_De_allows : Room := { frames := 0, cells := 0, slots := 0, locals := 0 }
set_option maxHeartbeats 4000000 in
set_option maxRecDepth 100000 in
theorem c_De_allows (l : Launch) (D : va_G) (ct : Nat → ClassId) (a_this : Nat) (x1 : Int32) (x2 : Int32) (r : Int32) (a_LEAST a_MOST : Nat) (hf : De_allows x1 x2 = some r) : Met l yX0_allows (WS yX0_allows cX0_allows 3 (some .boolean)) RM_De_allows (va_Pc [.ref a_this, .int x1, .int x2] (PRX D ct a_LEAST a_MOST (w_De_allows ct a_this))) (QR (some (.int r))) 0 0 (fun _ => False) := by
  refine kMetRX yn_yX0_allows rfl (Nat.le_of_ble_eq_true rfl) ?_
  intro p e s m args below meth c C hXS hP ls hl
  have hl : lv_has ls 3 [(0, .ref a_this), (1, .int x1), (2, .int x2)] := hl
  obtain ⟨hx, hb, hr, hml, hown, hts, hlk, hK, hN⟩ := id C
  unfold De_allows at hf
  refine lv_iload_n hx hb dX0_allows_0 rfl (lv_at hl 1 rfl) ?_
  refine lv_if_lt (tgt := 31) hx hb dX0_allows_1 (by decide) (fun hc => ?_) (fun hc => ?_)
  · have hf := kpos hc hf
    refine lv_iconst (v := 0) hx hb dX0_allows_31 (by decide) ?_
    have e1 := Option.some.inj hf
    subst e1
    exact kretRz C (by decide) dX0_allows_32
  · have hf := kneg hc hf
    refine lv_iload_n hx hb dX0_allows_4 rfl (lv_at hl 1 rfl) ?_
    refine lv_iconst (v := 5) hx hb dX0_allows_5 (by decide) ?_
    refine lv_icmp_ge (tgt := 31) hx hb dX0_allows_6 (by decide) (fun hc => ?_) (fun hc => ?_)
    · have hf := kpos hc hf
      refine lv_iconst (v := 0) hx hb dX0_allows_31 (by decide) ?_
      have e1 := Option.some.inj hf
      subst e1
      exact kretRz C (by decide) dX0_allows_32
    · have hf := kneg hc hf
      refine lv_iload_n hx hb dX0_allows_9 rfl (lv_at hl 2 rfl) ?_
      refine va_gets hx hb hXS.1 va_S.rf hown (hts _ tw_510) (fun _ h9 => h9) dX0_allows_10 ?_
      refine lv_iload_n hx hb dX0_allows_13 rfl (lv_at hl 1 rfl) ?_
      obtain ⟨hin, hf⟩ := rd_some hf
      generalize ev14 : leF (Int32.toNatClampNeg x1) = v14 at hf
      refine va_ti (v := .int v14) hx hb hXS.2.1 va_S.rf hin (congrArg Value.int ev14) dX0_allows_14 ?_
      refine lv_icmp_lt (tgt := 31) hx hb dX0_allows_15 (by decide) (fun hc => ?_) (fun hc => ?_)
      · have hf := kpos hc hf
        refine lv_iconst (v := 0) hx hb dX0_allows_31 (by decide) ?_
        have e1 := Option.some.inj hf
        subst e1
        exact kretRz C (by decide) dX0_allows_32
      · have hf := kneg hc hf
        refine lv_iload_n hx hb dX0_allows_18 rfl (lv_at hl 2 rfl) ?_
        refine va_gets hx hb hXS.2.2.1 va_S.rf hown (hts _ tw_512) (fun _ h9 => h9) dX0_allows_19 ?_
        refine lv_iload_n hx hb dX0_allows_22 rfl (lv_at hl 1 rfl) ?_
        obtain ⟨hin, hf⟩ := rd_some hf
        generalize ev23 : moF (Int32.toNatClampNeg x1) = v23 at hf
        refine va_ti (v := .int v23) hx hb hXS.2.2.2 va_S.rf hin (congrArg Value.int ev23) dX0_allows_23 ?_
        refine lv_icmp_gt (tgt := 31) hx hb dX0_allows_24 (by decide) (fun hc => ?_) (fun hc => ?_)
        · have hf := kpos hc hf
          refine lv_iconst (v := 0) hx hb dX0_allows_31 (by decide) ?_
          have e1 := Option.some.inj hf
          subst e1
          exact kretRz C (by decide) dX0_allows_32
        · have hf := kneg hc hf
          refine lv_iconst (v := 1) hx hb dX0_allows_27 (by decide) ?_
          refine lv_goto (tgt := 32) hx hb dX0_allows_28 (by decide) ?_
          have e1 := Option.some.inj hf
          subst e1
          exact kretRz C (by decide) dX0_allows_32
def RM_De_exchange : Room := { frames := 0, cells := 0, slots := 0, locals := 0 }
set_option maxHeartbeats 4000000 in
set_option maxRecDepth 100000 in
theorem c_De_exchange (l : Launch) (D : va_G) (ct : Nat → ClassId) (a_this a_terms : Nat) (f_terms : Nat → Int32) (x1 : Int32) (x2 : Int32) (r : Int32) (r_terms : Nat → Int32) (sz : Nat) (hf : De_exchange f_terms x1 x2 = some (r, r_terms)) : Met l yX0_exchange (WS yX0_exchange cX0_exchange 4 (some .int)) RM_De_exchange (va_Pc [.ref a_this, .int x1, .int x2] (PM D ct sz (w_De_exchange ct a_this a_terms f_terms))) (QM D (some (.int r)) (w_De_exchange ct a_this a_terms r_terms) (va_A (w_De_exchange ct a_this a_terms f_terms) sz)) 0 0 (va_A (w_De_exchange ct a_this a_terms f_terms) sz) := by
  refine kMetM yn_yX0_exchange rfl (Nat.le_of_ble_eq_true rfl) ?_
  intro p e s m args below meth c A C hA hP hD ls hl
  have hl : lv_has ls 4 [(0, .ref a_this), (1, .int x1), (2, .int x2)] := hl
  have hS : va_S A s.heap s.heap [] := va_S.rf
  obtain ⟨hx, hb, hr, hml, hown, hts, hlk, hK, hN⟩ := id C
  unfold De_exchange at hf
  refine lv_iload_n hx hb dX0_exchange_0 rfl (lv_at hl 1 rfl) ?_
  refine lv_if_lt (tgt := 9) hx hb dX0_exchange_1 (by decide) (fun hc => ?_) (fun hc => ?_)
  · have hf := kpos hc hf
    refine lv_bipush (v := (-2)) hx hb dX0_exchange_9 (by decide) ?_
    obtain ⟨e1, e2⟩ := ti2 hf
    subst e1; subst e2
    exact kretM C hP hD hS dX0_exchange_11
  · have hf := kneg hc hf
    refine lv_iload_n hx hb dX0_exchange_4 rfl (lv_at hl 1 rfl) ?_
    refine lv_iconst (v := 5) hx hb dX0_exchange_5 (by decide) ?_
    refine lv_icmp_lt (tgt := 12) hx hb dX0_exchange_6 (by decide) (fun hc => ?_) (fun hc => ?_)
    · have hf := kpos hc hf
      refine lv_aload_n hx hb dX0_exchange_12 rfl (lv_at hl 0 rfl) ?_
      refine va_get (ci := 0) (v := .ref a_terms) (C := RX0) (T := TX0) (N := 1) hx hb hts inX0 hown hK hP 0 rfl rfl 0 (by decide) (hts _ tw_211) (fun _ h9 => h9) rfl dX0_exchange_13 ?_
      refine lv_iload_n hx hb dX0_exchange_16 rfl (lv_at hl 1 rfl) ?_
      obtain ⟨hin, hf⟩ := rd_some hf
      generalize ev17 : f_terms (Int32.toNatClampNeg x1) = v17 at hf
      refine kiald hx hb hK hP 1 0 rfl rfl hin ev17 dX0_exchange_17 ?_
      refine lv_istore_n (lv' := [(3, .int v17), (0, .ref a_this), (1, .int x1), (2, .int x2)]) hx hb dX0_exchange_18 rfl hl (by decide) rfl (fun ls hl => ?_)
      refine lv_aload_n hx hb dX0_exchange_19 rfl (lv_at hl 1 rfl) ?_
      refine va_get (ci := 0) (v := .ref a_terms) (C := RX0) (T := TX0) (N := 1) hx hb hts inX0 hown hK hP 0 rfl rfl 0 (by decide) (hts _ tw_211) (fun _ h9 => h9) rfl dX0_exchange_20 ?_
      refine lv_iload_n hx hb dX0_exchange_23 rfl (lv_at hl 2 rfl) ?_
      refine lv_iload_n hx hb dX0_exchange_24 rfl (lv_at hl 3 rfl) ?_
      obtain ⟨hin, f_terms_25, ev25, hf⟩ := wr_ex hf
      refine kiast hx hb hK hP hD hS 1 0 rfl rfl hin ev25 dX0_exchange_25 (fun H locs hP hD hS => ?_)
      have hP : va_P D vwCl (w_De_exchange ct a_this a_terms f_terms_25) H := hP
      have hD : va_D A (w_De_exchange ct a_this a_terms f_terms_25) := hD
      refine lv_iload_n hx hb dX0_exchange_26 rfl (lv_at hl 0 rfl) ?_
      obtain ⟨e1, e2⟩ := ti2 hf
      subst e1; subst e2
      exact kretM C hP hD hS dX0_exchange_27
    · have hf := kneg hc hf
      refine lv_bipush (v := (-2)) hx hb dX0_exchange_9 (by decide) ?_
      obtain ⟨e1, e2⟩ := ti2 hf
      subst e1; subst e2
      exact kretM C hP hD hS dX0_exchange_11
def RM_ND_set : Room := { frames := 1, cells := 0, slots := 0, locals := 23 }
set_option maxHeartbeats 4000000 in
set_option maxRecDepth 100000 in
theorem c_ND_set (l : Launch) (D : va_G) (ct : Nat → ClassId) (a_this a_texts a_names a_pieces a_song a_fitting a_deal a_guesses a_wise a_spy a_sheets a_deal_terms a_wise_least : Nat) (f_stale : Int32) (f_finding : Int32) (f_deal_terms : Nat → Int32) (f_wise_stale : Int32) (x1 : Int32) (x2 : Int32) (r : Int32) (r_deal_terms : Nat → Int32) (r_wise_stale : Int32) (sz : Nat) (a_LEAST a_MOST : Nat) (hf : ND_set f_deal_terms f_wise_stale x1 x2 = some (r, r_deal_terms, r_wise_stale)) : Met l yX10_set (WS yX10_set cX10_set 3 (some .int)) RM_ND_set (va_Pc [.ref a_this, .int x1, .int x2] (PMX D ct a_LEAST a_MOST sz (w_ND_set ct a_this a_texts a_names a_pieces a_song a_fitting a_deal a_guesses a_wise a_spy a_sheets a_deal_terms a_wise_least f_stale f_finding f_deal_terms f_wise_stale))) (QM D (some (.int r)) (w_ND_set ct a_this a_texts a_names a_pieces a_song a_fitting a_deal a_guesses a_wise a_spy a_sheets a_deal_terms a_wise_least f_stale f_finding r_deal_terms r_wise_stale) (va_A (w_ND_set ct a_this a_texts a_names a_pieces a_song a_fitting a_deal a_guesses a_wise a_spy a_sheets a_deal_terms a_wise_least f_stale f_finding f_deal_terms f_wise_stale) sz)) 0 0 (va_A (w_ND_set ct a_this a_texts a_names a_pieces a_song a_fitting a_deal a_guesses a_wise a_spy a_sheets a_deal_terms a_wise_least f_stale f_finding f_deal_terms f_wise_stale) sz) := by
  refine kMetMX yn_yX10_set rfl (Nat.le_of_ble_eq_true rfl) ?_
  intro p e s m args below meth c A C hXS hA hP hD ls hl
  have hl : lv_has ls 3 [(0, .ref a_this), (1, .int x1), (2, .int x2)] := hl
  have hS : va_S A s.heap s.heap [] := va_S.rf
  obtain ⟨hx, hb, hr, hml, hown, hts, hlk, hK, hN⟩ := id C
  unfold ND_set at hf
  refine lv_aload_n hx hb dX10_set_0 rfl (lv_at hl 0 rfl) ?_
  refine va_get (ci := 10) (v := .ref a_deal) (C := RX10) (T := TX10) (N := 12) hx hb hts inX10 hown hK hP 0 rfl rfl 5 (by decide) (hts _ tw_288) (fun _ h9 => h9) rfl dX10_set_1 ?_
  refine lv_iload_n hx hb dX10_set_4 rfl (lv_at hl 1 rfl) ?_
  refine lv_iload_n hx hb dX10_set_5 rfl (lv_at hl 2 rfl) ?_
  obtain ⟨v6, hc6, hf⟩ := cb1_some hf
  refine kcRVX (q0 := 1) (ci := 0) (As := [.int x1, .int x2]) (rest := []) (st1 := [.int v6]) C hXS (c_De_allows l D ct a_deal x1 x2 v6 a_LEAST a_MOST hc6) ⟨rfl, rfl⟩ yn_yX0_allows tw_507 tw_508 tw_506 ⟨Nat.le_of_ble_eq_true rfl, Nat.le_of_ble_eq_true rfl⟩ ⟨Nat.zero_le _, Nat.zero_le _⟩ hP [] rfl rfl rfl rfl hl.1 rfl rfl (Nat.le_of_ble_eq_true rfl) dX10_set_6 rfl ?_
  refine lv_if_ne (tgt := 15) hx hb dX10_set_9 (by decide) (fun hc => ?_) (fun hc => ?_)
  · have hf := kneg hc hf
    refine lv_aload_n hx hb dX10_set_15 rfl (lv_at hl 0 rfl) ?_
    refine va_get (ci := 10) (v := .ref a_wise) (C := RX10) (T := TX10) (N := 12) hx hb hts inX10 hown hK hP 0 rfl rfl 7 (by decide) (hts _ tw_290) (fun _ h9 => h9) rfl dX10_set_16 ?_
    obtain ⟨f_wise_stale_19, hc19, hf⟩ := cb1_some hf
    refine kcMV (q0 := 3) (ci := 9) (As := []) (rest := []) (st1 := []) (wf := (w_ND_set ct a_this a_texts a_names a_pieces a_song a_fitting a_deal a_guesses a_wise a_spy a_sheets a_deal_terms a_wise_least f_stale f_finding f_deal_terms f_wise_stale_19)) C (c_Wi_forgetAll l D ct a_wise a_names a_deal a_wise_least f_wise_stale f_wise_stale_19 _ hc19) ⟨rfl, rfl⟩ yn_yX9_forgetAll tw_340 tw_341 tw_339 ⟨Nat.le_of_ble_eq_true rfl, Nat.le_of_ble_eq_true rfl⟩ ⟨Nat.zero_le _, Nat.zero_le _⟩ hP hD hS hA [3] [0, 1, 2] [0, 1, 2, 3] rfl rfl rfl rfl rfl (by decide) rfl rfl rfl rfl rfl rfl hl.1 rfl rfl (Nat.le_of_ble_eq_true rfl) dX10_set_19 rfl (fun H locs hP hD hS => ?_)
    refine lv_aload_n hx hb dX10_set_22 rfl (lv_at hl 0 rfl) ?_
    refine va_get (ci := 10) (v := .ref a_deal) (C := RX10) (T := TX10) (N := 12) hx hb hts inX10 hown hK hP 0 rfl rfl 5 (by decide) (hts _ tw_288) (fun _ h9 => h9) rfl dX10_set_23 ?_
    refine lv_iload_n hx hb dX10_set_26 rfl (lv_at hl 1 rfl) ?_
    refine lv_iload_n hx hb dX10_set_27 rfl (lv_at hl 2 rfl) ?_
    obtain ⟨v28, f_deal_terms_28, hc28, hf⟩ := cb2_some hf
    refine kcMV (q0 := 1) (ci := 0) (As := [.int x1, .int x2]) (rest := []) (st1 := [.int v28]) (wf := (w_ND_set ct a_this a_texts a_names a_pieces a_song a_fitting a_deal a_guesses a_wise a_spy a_sheets a_deal_terms a_wise_least f_stale f_finding f_deal_terms_28 f_wise_stale_19)) C (c_De_exchange l D ct a_deal a_deal_terms f_deal_terms x1 x2 v28 f_deal_terms_28 _ hc28) ⟨rfl, rfl⟩ yn_yX0_exchange tw_515 tw_516 tw_514 ⟨Nat.le_of_ble_eq_true rfl, Nat.le_of_ble_eq_true rfl⟩ ⟨Nat.zero_le _, Nat.zero_le _⟩ hP hD hS hA [1, 2] [0, 3] [0, 2, 3, 1] rfl rfl rfl rfl rfl (by decide) rfl rfl rfl rfl rfl rfl hl.1 rfl rfl (Nat.le_of_ble_eq_true rfl) dX10_set_28 rfl (fun H locs hP hD hS => ?_)
    obtain ⟨e1, e2, e3⟩ := ti3 hf
    subst e1; subst e2; subst e3
    exact kretM C hP hD hS dX10_set_31
  · have hf := kpos hc hf
    refine lv_bipush (v := (-2)) hx hb dX10_set_12 (by decide) ?_
    obtain ⟨e1, e2, e3⟩ := ti3 hf
    subst e1; subst e2; subst e3
    exact kretM C hP hD hS dX10_set_14
