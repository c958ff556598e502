def RM_De_nights : Room := { frames := 0, cells := 0, slots := 0, locals := 0 }
set_option maxHeartbeats 4000000 in
set_option maxRecDepth 100000 in
theorem c_De_nights (l : Launch) (D : va_G) (ct : Nat → ClassId) (a_this a_terms : Nat) (f_terms : Nat → Int32) (r : Int32) (hf : De_nights f_terms = some r) : Met l yX0_nights (WS yX0_nights cX0_nights 1 (some .int)) RM_De_nights (va_Pc [.ref a_this] (PR D ct (w_De_nights ct a_this a_terms f_terms))) (QR (some (.int r))) 0 0 (fun _ => False) := by
  refine kMetR yn_yX0_nights rfl (Nat.le_of_ble_eq_true rfl) ?_
  intro p e s m args below meth c C hP ls hl
  have hl : lv_has ls 1 [(0, .ref a_this)] := hl
  obtain ⟨hx, hb, hr, hml, hown, hts, hlk, hK, hN⟩ := id C
  unfold De_nights at hf
  refine lv_aload_n hx hb dX0_nights_0 rfl (lv_at hl 0 rfl) ?_
  refine va_get (ci := 0) (v := .ref a_terms) (C := RX0) (T := TX0) (N := 1) hx hb hts inX0 hown hK hP 0 rfl rfl 0 (by decide) (hts _ tw_210) (fun _ h9 => h9) rfl dX0_nights_1 ?_
  refine lv_iconst (v := 2) hx hb dX0_nights_4 (by decide) ?_
  obtain ⟨hin, hf⟩ := rd_some hf
  generalize ev5 : f_terms (Int32.toNatClampNeg 2) = v5 at hf
  refine kiald hx hb hK hP 1 0 rfl rfl hin ev5 dX0_nights_5 ?_
  have e1 := Option.some.inj hf
  subst e1
  exact kretR C dX0_nights_6
def RM_ND_isNameBits : Room := { frames := 0, cells := 0, slots := 0, locals := 0 }
set_option maxHeartbeats 4000000 in
set_option maxRecDepth 100000 in
theorem c_ND_isNameBits (l : Launch) (D : va_G) (ct : Nat → ClassId) (x0 : Int32) (r : Int32) (hf : ND_isNameBits x0 = some r) : Met l yX10_isNameBits (WS yX10_isNameBits cX10_isNameBits 1 (some .boolean)) RM_ND_isNameBits (va_Pc [.int x0] (PR D ct (w_ND_isNameBits ct))) (QR (some (.int r))) 0 0 (fun _ => False) := by
  refine kMetR yn_yX10_isNameBits rfl (Nat.le_of_ble_eq_true rfl) ?_
  intro p e s m args below meth c C hP ls hl
  have hl : lv_has ls 1 [(0, .int x0)] := hl
  obtain ⟨hx, hb, hr, hml, hown, hts, hlk, hK, hN⟩ := id C
  unfold ND_isNameBits at hf
  refine lv_iload_n hx hb dX10_isNameBits_0 rfl (lv_at hl 0 rfl) ?_
  refine lv_if_lt (tgt := 15) hx hb dX10_isNameBits_1 (by decide) (fun hc => ?_) (fun hc => ?_)
  · have hf := kpos hc hf
    refine lv_iconst (v := 0) hx hb dX10_isNameBits_15 (by decide) ?_
    have e1 := Option.some.inj hf
    subst e1
    exact kretRz C (by decide) dX10_isNameBits_16
  · have hf := kneg hc hf
    refine lv_iload_n hx hb dX10_isNameBits_4 rfl (lv_at hl 0 rfl) ?_
    refine lv_sipush (v := 1023) hx hb dX10_isNameBits_5 (by decide) ?_
    refine lv_icmp_gt (tgt := 15) hx hb dX10_isNameBits_8 (by decide) (fun hc => ?_) (fun hc => ?_)
    · have hf := kpos hc hf
      refine lv_iconst (v := 0) hx hb dX10_isNameBits_15 (by decide) ?_
      have e1 := Option.some.inj hf
      subst e1
      exact kretRz C (by decide) dX10_isNameBits_16
    · have hf := kneg hc hf
      refine lv_iconst (v := 1) hx hb dX10_isNameBits_11 (by decide) ?_
      refine lv_goto (tgt := 16) hx hb dX10_isNameBits_12 (by decide) ?_
      have e1 := Option.some.inj hf
      subst e1
      exact kretRz C (by decide) dX10_isNameBits_16
def RM_Wi_makeReady : Room := { frames := 1, cells := 0, slots := 0, locals := 21 }
set_option maxHeartbeats 4000000 in
set_option maxRecDepth 100000 in
theorem t_Wi_makeReady_b38 {p : Program} {l : Launch} {e : Env} {s : State} {m : MethodId} {args : Array Value} {below : List Frame} {meth : Method} {c : Code} {D : va_G} {ct : Nat → ClassId} (C : CX p s m args meth c RX9 cX9_makeReady 3 none D ct) {A : Nat → Prop} (hA : ∀ q : Nat, s.heap.size ≤ q → A q) (a_this a_names a_deal a_least a_names_odds a_names_lengths a_names_letters a_names_alike a_names_oddsTogether a_deal_terms : Nat) (f_names_fault : Int32) (F : Nat) (f_names_size : Int32) (f_deal_terms : Nat → Int32) (r_stale : Int32) (r_least : Nat → Int32) (rec38 : Int32 → Int32 → Int32 → (Nat → Int32) → Option (Int32 × (Nat → Int32))) (hr38 : ∀ (x1 : Int32) (x2 : Int32) (f_stale : Int32) (f_least : Nat → Int32), rec38 x1 x2 f_stale f_least = some (r_stale, r_least) → ∀ (H : Heap) (locs : List Loc), va_P D vwCl (w_Wi_makeReady ct a_this a_names a_deal a_least a_names_odds a_names_lengths a_names_letters a_names_alike a_names_oddsTogether a_deal_terms f_stale f_names_size f_names_fault f_deal_terms f_least) H → va_D A (w_Wi_makeReady ct a_this a_names a_deal a_least a_names_odds a_names_lengths a_names_letters a_names_alike a_names_oddsTogether a_deal_terms f_stale f_names_size f_names_fault f_deal_terms f_least) → va_S A s.heap H locs → ∀ ls : Array Slot, lv_has ls 3 [(0, .ref a_this), (1, .int x1), (2, .int x2)] → W p l e RM_Wi_makeReady s m args below meth c H locs 0 0 (MQ below (QM D none (w_Wi_makeReady ct a_this a_names a_deal a_least a_names_odds a_names_lengths a_names_letters a_names_alike a_names_oddsTogether a_deal_terms r_stale f_names_size f_names_fault f_deal_terms r_least) A) args s 0 0 A) (F0 m 38 ls [])) : ∀ (x1 : Int32) (x2 : Int32) (f_stale : Int32) (f_least : Nat → Int32), Wi_makeReady_b38 F f_names_size f_deal_terms rec38 x1 x2 f_stale f_least = some (r_stale, r_least) → ∀ (H : Heap) (locs : List Loc), va_P D vwCl (w_Wi_makeReady ct a_this a_names a_deal a_least a_names_odds a_names_lengths a_names_letters a_names_alike a_names_oddsTogether a_deal_terms f_stale f_names_size f_names_fault f_deal_terms f_least) H → va_D A (w_Wi_makeReady ct a_this a_names a_deal a_least a_names_odds a_names_lengths a_names_letters a_names_alike a_names_oddsTogether a_deal_terms f_stale f_names_size f_names_fault f_deal_terms f_least) → va_S A s.heap H locs → ∀ ls : Array Slot, lv_has ls 3 [(0, .ref a_this), (1, .int x1), (2, .int x2)] → W p l e RM_Wi_makeReady s m args below meth c H locs 0 0 (MQ below (QM D none (w_Wi_makeReady ct a_this a_names a_deal a_least a_names_odds a_names_lengths a_names_letters a_names_alike a_names_oddsTogether a_deal_terms r_stale f_names_size f_names_fault f_deal_terms r_least) A) args s 0 0 A) (F0 m 38 ls []) := by
  obtain ⟨hx, hb, hr, hml, hown, hts, hlk, hK, hN⟩ := id C
  intro x1 x2 f_stale f_least hf H locs hP hD hS ls hl
  unfold Wi_makeReady_b38 at hf
  refine lv_iload_n hx hb dX9_makeReady_38 rfl (lv_at hl 2 rfl) ?_
  refine lv_iload_n hx hb dX9_makeReady_39 rfl (lv_at hl 1 rfl) ?_
  refine lv_icmp_ge (tgt := 56) hx hb dX9_makeReady_40 (by decide) (fun hc => ?_) (fun hc => ?_)
  · have hf := kpos hc hf
    obtain ⟨e1, e2⟩ := ti2 hf
    subst e1; subst e2
    exact kretMv C hP hD hS dX9_makeReady_56
  · have hf := kneg hc hf
    refine lv_aload_n hx hb dX9_makeReady_43 rfl (lv_at hl 0 rfl) ?_
    refine va_get (ci := 9) (v := .ref a_least) (C := RX9) (T := TX9) (N := 4) hx hb hts inX9 hown hK hP 0 rfl rfl 2 (by decide) (hts _ tw_235) (fun _ h9 => h9) rfl dX9_makeReady_44 ?_
    refine lv_iload_n hx hb dX9_makeReady_47 rfl (lv_at hl 2 rfl) ?_
    refine lv_iconst (v := (-1)) hx hb dX9_makeReady_48 (by decide) ?_
    obtain ⟨hin, f_least_49, ev49, hf⟩ := wr_ex hf
    refine kiast hx hb hK hP hD hS 4 0 rfl rfl hin ev49 dX9_makeReady_49 (fun H locs hP hD hS => ?_)
    have hP : va_P D vwCl (w_Wi_makeReady ct a_this a_names a_deal a_least a_names_odds a_names_lengths a_names_letters a_names_alike a_names_oddsTogether a_deal_terms f_stale f_names_size f_names_fault f_deal_terms f_least_49) H := hP
    have hD : va_D A (w_Wi_makeReady ct a_this a_names a_deal a_least a_names_odds a_names_lengths a_names_letters a_names_alike a_names_oddsTogether a_deal_terms f_stale f_names_size f_names_fault f_deal_terms f_least_49) := hD
    refine lv_iinc (v := x2 + 1) (lv' := [(2, .int (x2 + 1)), (0, .ref a_this), (1, .int x1)]) hx hb dX9_makeReady_50 hl (k := 2) rfl rfl (by decide) rfl (fun ls hl => ?_)
    refine lv_goto (tgt := 38) hx hb dX9_makeReady_53 (by decide) ?_
    exact hr38 x1 (x2 + 1) f_stale f_least_49 hf _ _ hP hD hS _ (lv_sub hl [1, 2, 0] rfl)
set_option maxHeartbeats 4000000 in
set_option maxRecDepth 100000 in
theorem t_Wi_makeReady_l38 {p : Program} {l : Launch} {e : Env} {s : State} {m : MethodId} {args : Array Value} {below : List Frame} {meth : Method} {c : Code} {D : va_G} {ct : Nat → ClassId} (C : CX p s m args meth c RX9 cX9_makeReady 3 none D ct) {A : Nat → Prop} (hA : ∀ q : Nat, s.heap.size ≤ q → A q) (a_this a_names a_deal a_least a_names_odds a_names_lengths a_names_letters a_names_alike a_names_oddsTogether a_deal_terms : Nat) (f_names_fault : Int32) (F : Nat) (f_names_size : Int32) (f_deal_terms : Nat → Int32) (r_stale : Int32) (r_least : Nat → Int32) : ∀ (n : Nat) (x1 : Int32) (x2 : Int32) (f_stale : Int32) (f_least : Nat → Int32), Wi_makeReady_l38 F f_names_size f_deal_terms n x1 x2 f_stale f_least = some (r_stale, r_least) → ∀ (H : Heap) (locs : List Loc), va_P D vwCl (w_Wi_makeReady ct a_this a_names a_deal a_least a_names_odds a_names_lengths a_names_letters a_names_alike a_names_oddsTogether a_deal_terms f_stale f_names_size f_names_fault f_deal_terms f_least) H → va_D A (w_Wi_makeReady ct a_this a_names a_deal a_least a_names_odds a_names_lengths a_names_letters a_names_alike a_names_oddsTogether a_deal_terms f_stale f_names_size f_names_fault f_deal_terms f_least) → va_S A s.heap H locs → ∀ ls : Array Slot, lv_has ls 3 [(0, .ref a_this), (1, .int x1), (2, .int x2)] → W p l e RM_Wi_makeReady s m args below meth c H locs 0 0 (MQ below (QM D none (w_Wi_makeReady ct a_this a_names a_deal a_least a_names_odds a_names_lengths a_names_letters a_names_alike a_names_oddsTogether a_deal_terms r_stale f_names_size f_names_fault f_deal_terms r_least) A) args s 0 0 A) (F0 m 38 ls []) := by
  intro n
  induction n with
  | zero =>
    intro x1 x2 f_stale f_least hf
    exact absurd hf (by simp [Wi_makeReady_l38])
  | succ n ih =>
    intro x1 x2 f_stale f_least hf
    exact t_Wi_makeReady_b38 C hA a_this a_names a_deal a_least a_names_odds a_names_lengths a_names_letters a_names_alike a_names_oddsTogether a_deal_terms f_names_fault F f_names_size f_deal_terms r_stale r_least (Wi_makeReady_l38 F f_names_size f_deal_terms n) ih x1 x2 f_stale f_least hf
set_option maxHeartbeats 4000000 in
set_option maxRecDepth 100000 in
theorem c_Wi_makeReady (l : Launch) (D : va_G) (ct : Nat → ClassId) (a_this a_names a_deal a_least a_names_odds a_names_lengths a_names_letters a_names_alike a_names_oddsTogether a_deal_terms : Nat) (f_names_fault : Int32) (F : Nat) (f_names_size : Int32) (f_deal_terms : Nat → Int32) (f_stale : Int32) (f_least : Nat → Int32) (r_stale : Int32) (r_least : Nat → Int32) (sz : Nat) (hf : Wi_makeReady F f_names_size f_deal_terms f_stale f_least = some (r_stale, r_least)) : Met l yX9_makeReady (WS yX9_makeReady cX9_makeReady 3 none) RM_Wi_makeReady (va_Pc [.ref a_this] (PM D ct sz (w_Wi_makeReady ct a_this a_names a_deal a_least a_names_odds a_names_lengths a_names_letters a_names_alike a_names_oddsTogether a_deal_terms f_stale f_names_size f_names_fault f_deal_terms f_least))) (QM D none (w_Wi_makeReady ct a_this a_names a_deal a_least a_names_odds a_names_lengths a_names_letters a_names_alike a_names_oddsTogether a_deal_terms r_stale f_names_size f_names_fault f_deal_terms r_least) (va_A (w_Wi_makeReady ct a_this a_names a_deal a_least a_names_odds a_names_lengths a_names_letters a_names_alike a_names_oddsTogether a_deal_terms f_stale f_names_size f_names_fault f_deal_terms f_least) sz)) 0 0 (va_A (w_Wi_makeReady ct a_this a_names a_deal a_least a_names_odds a_names_lengths a_names_letters a_names_alike a_names_oddsTogether a_deal_terms f_stale f_names_size f_names_fault f_deal_terms f_least) sz) := by
  refine kMetM yn_yX9_makeReady rfl (Nat.le_of_ble_eq_true rfl) ?_
  intro p e s m args below meth c A C hA hP hD ls hl
  have hl : lv_has ls 3 [(0, .ref a_this)] := hl
  have hS : va_S A s.heap s.heap [] := va_S.rf
  obtain ⟨hx, hb, hr, hml, hown, hts, hlk, hK, hN⟩ := id C
  unfold Wi_makeReady at hf
  refine lv_aload_n hx hb dX9_makeReady_0 rfl (lv_at hl 0 rfl) ?_
  refine va_get (ci := 9) (v := .int f_stale) (C := RX9) (T := TX9) (N := 4) hx hb hts inX9 hown hK hP 0 rfl rfl 3 (by decide) (hts _ tw_236) (fun _ h9 => h9) rfl dX9_makeReady_1 ?_
  refine lv_if_eq (tgt := 56) hx hb dX9_makeReady_4 (by decide) (fun hc => ?_) (fun hc => ?_)
  · have hf := kpos hc hf
    obtain ⟨e1, e2⟩ := ti2 hf
    subst e1; subst e2
    exact kretMv C hP hD hS dX9_makeReady_56
  · have hf := kneg hc hf
    refine lv_aload_n hx hb dX9_makeReady_7 rfl (lv_at hl 0 rfl) ?_
    refine lv_iconst (v := 0) hx hb dX9_makeReady_8 (by decide) ?_
    refine va_put (ci := 9) (v := .int 0) (ty := .boolean) (C := RX9) (T := TX9) (N := 4) hx hb hts inX9 tyX9 tyX9_ok nmX9 hown hK hP hD hS 0 rfl rfl 3 (by decide) (hts _ tw_236) (fun _ h9 => h9) rfl (tyX9_ok 3 (by decide)) rfl rfl (Nat.le_of_ble_eq_true rfl) dX9_makeReady_9 (fun H locs hP hD hS => ?_)
    have hP : va_P D vwCl (w_Wi_makeReady ct a_this a_names a_deal a_least a_names_odds a_names_lengths a_names_letters a_names_alike a_names_oddsTogether a_deal_terms 0 f_names_size f_names_fault f_deal_terms f_least) H := hP
    have hD : va_D A (w_Wi_makeReady ct a_this a_names a_deal a_least a_names_odds a_names_lengths a_names_letters a_names_alike a_names_oddsTogether a_deal_terms 0 f_names_size f_names_fault f_deal_terms f_least) := hD
    refine lv_aload_n hx hb dX9_makeReady_12 rfl (lv_at hl 0 rfl) ?_
    refine va_get (ci := 9) (v := .ref a_least) (C := RX9) (T := TX9) (N := 4) hx hb hts inX9 hown hK hP 0 rfl rfl 2 (by decide) (hts _ tw_235) (fun _ h9 => h9) rfl dX9_makeReady_13 ?_
    refine va_alen (v := 12288) hx hb hK hP 4 0 rfl rfl rfl dX9_makeReady_16 ?_
    refine lv_aload_n hx hb dX9_makeReady_17 rfl (lv_at hl 0 rfl) ?_
    refine va_get (ci := 9) (v := .ref a_deal) (C := RX9) (T := TX9) (N := 4) hx hb hts inX9 hown hK hP 0 rfl rfl 1 (by decide) (hts _ tw_234) (fun _ h9 => h9) rfl dX9_makeReady_18 ?_
    obtain ⟨v21, hc21, hf⟩ := cb1_some hf
    refine kcRV (q0 := 2) (ci := 0) (As := []) (rest := [.int 12288]) (st1 := [.int v21, .int 12288]) C (c_De_nights l D ct a_deal a_deal_terms f_deal_terms v21 hc21) ⟨rfl, rfl⟩ yn_yX0_nights tw_686 tw_687 tw_696 ⟨Nat.le_of_ble_eq_true rfl, Nat.le_of_ble_eq_true rfl⟩ ⟨Nat.zero_le _, Nat.zero_le _⟩ hP [2, 3] rfl rfl rfl rfl hl.1 rfl rfl (Nat.le_of_ble_eq_true rfl) dX9_makeReady_21 rfl ?_
    refine lv_aload_n hx hb dX9_makeReady_24 rfl (lv_at hl 0 rfl) ?_
    refine va_get (ci := 9) (v := .ref a_names) (C := RX9) (T := TX9) (N := 4) hx hb hts inX9 hown hK hP 0 rfl rfl 0 (by decide) (hts _ tw_233) (fun _ h9 => h9) rfl dX9_makeReady_25 ?_
    obtain ⟨v28, hc28, hf⟩ := cb1_some hf
    refine kcRV (q0 := 1) (ci := 3) (As := []) (rest := [.int v21, .int 12288]) (st1 := [.int v28, .int v21, .int 12288]) C (c_Na_size l D ct a_names a_names_odds a_names_lengths a_names_letters a_names_alike a_names_oddsTogether f_names_fault f_names_size v28 hc28) ⟨rfl, rfl⟩ yn_yX3_size tw_444 tw_445 tw_697 ⟨Nat.le_of_ble_eq_true rfl, Nat.le_of_ble_eq_true rfl⟩ ⟨Nat.zero_le _, Nat.zero_le _⟩ hP [1] rfl rfl rfl rfl hl.1 rfl rfl (Nat.le_of_ble_eq_true rfl) dX9_makeReady_28 rfl ?_
    refine lv_ishl hx hb dX9_makeReady_31 ?_
    refine kmmin hx hb (hml.trans hl.1.symm) hown (hts _ tw_698) (hts _ tw_430) (hts _ tw_72) (hts _ tw_431) (Nat.le_of_ble_eq_true rfl) (Nat.le_of_ble_eq_true rfl) (Nat.zero_le _) (Nat.zero_le _) dX9_makeReady_32 ?_
    refine lv_istore_n (lv' := [(1, .int (mnI 12288 (v21 <<< (v28 &&& 31)))), (0, .ref a_this)]) hx hb dX9_makeReady_35 rfl hl (by decide) rfl (fun ls hl => ?_)
    refine lv_iconst (v := 0) hx hb dX9_makeReady_36 (by decide) ?_
    refine lv_istore_n (lv' := [(2, .int 0), (1, .int (mnI 12288 (v21 <<< (v28 &&& 31)))), (0, .ref a_this)]) hx hb dX9_makeReady_37 rfl hl (by decide) rfl (fun ls hl => ?_)
    exact t_Wi_makeReady_l38 C hA a_this a_names a_deal a_least a_names_odds a_names_lengths a_names_letters a_names_alike a_names_oddsTogether a_deal_terms f_names_fault F f_names_size f_deal_terms r_stale r_least F (mnI 12288 (v21 <<< (v28 &&& 31))) 0 0 f_least hf _ _ hP hD hS _ (lv_sub hl [2, 1, 0] rfl)
def RM_Wi_sumUnnamed : Room := { frames := 2, cells := 0, slots := 0, locals := 41 }
set_option maxHeartbeats 4000000 in
set_option maxRecDepth 100000 in
theorem c_Wi_sumUnnamed (l : Launch) (D : va_G) (ct : Nat → ClassId) (a_this a_names a_deal a_least a_names_odds a_names_lengths a_names_letters a_names_alike a_names_oddsTogether a_deal_terms : Nat) (f_stale : Int32) (f_names_fault : Int32) (f_names_size : Int32) (f_names_oddsTogether : Nat → Int32) (f_deal_terms : Nat → Int32) (x1 : Int32) (r : Int32) (hf : Wi_sumUnnamed f_names_size f_names_oddsTogether f_deal_terms x1 = some r) : Met l yX9_sumUnnamed (WS yX9_sumUnnamed cX9_sumUnnamed 2 (some .int)) RM_Wi_sumUnnamed (va_Pc [.ref a_this, .int x1] (PR D ct (w_Wi_sumUnnamed ct a_this a_names a_deal a_least a_names_odds a_names_lengths a_names_letters a_names_alike a_names_oddsTogether a_deal_terms f_stale f_names_size f_names_fault f_names_oddsTogether f_deal_terms))) (QR (some (.int r))) 0 0 (fun _ => False) := by
  refine kMetR yn_yX9_sumUnnamed rfl (Nat.le_of_ble_eq_true rfl) ?_
  intro p e s m args below meth c C hP ls hl
  have hl : lv_has ls 2 [(0, .ref a_this), (1, .int x1)] := hl
  obtain ⟨hx, hb, hr, hml, hown, hts, hlk, hK, hN⟩ := id C
  unfold Wi_sumUnnamed at hf
  refine lv_aload_n hx hb dX9_sumUnnamed_0 rfl (lv_at hl 0 rfl) ?_
  refine va_get (ci := 9) (v := .ref a_names) (C := RX9) (T := TX9) (N := 4) hx hb hts inX9 hown hK hP 0 rfl rfl 0 (by decide) (hts _ tw_233) (fun _ h9 => h9) rfl dX9_sumUnnamed_1 ?_
  refine lv_iload_n hx hb dX9_sumUnnamed_4 rfl (lv_at hl 1 rfl) ?_
  obtain ⟨v5, hc5, hf⟩ := cb1_some hf
  refine kcRV (q0 := 1) (ci := 3) (As := [.int x1]) (rest := []) (st1 := [.int v5]) C (c_Na_oddsOfAll l D ct a_names a_names_odds a_names_lengths a_names_letters a_names_alike a_names_oddsTogether f_names_fault f_names_size f_names_oddsTogether x1 v5 hc5) ⟨rfl, rfl⟩ yn_yX3_oddsOfAll tw_591 tw_592 tw_712 ⟨Nat.le_of_ble_eq_true rfl, Nat.le_of_ble_eq_true rfl⟩ ⟨Nat.zero_le _, Nat.zero_le _⟩ hP [1, 2] rfl rfl rfl rfl hl.1 rfl rfl (Nat.le_of_ble_eq_true rfl) dX9_sumUnnamed_5 rfl ?_
  refine lv_aload_n hx hb dX9_sumUnnamed_8 rfl (lv_at hl 0 rfl) ?_
  refine va_get (ci := 9) (v := .ref a_deal) (C := RX9) (T := TX9) (N := 4) hx hb hts inX9 hown hK hP 0 rfl rfl 1 (by decide) (hts _ tw_234) (fun _ h9 => h9) rfl dX9_sumUnnamed_9 ?_
  obtain ⟨v12, hc12, hf⟩ := cb1_some hf
  refine kcRV (q0 := 3) (ci := 0) (As := []) (rest := [.int v5]) (st1 := [.int v12, .int v5]) C (c_De_paidUnnamed l D ct a_deal a_deal_terms f_deal_terms v12 hc12) ⟨rfl, rfl⟩ yn_yX0_paidUnnamed tw_660 tw_661 tw_713 ⟨Nat.le_of_ble_eq_true rfl, Nat.le_of_ble_eq_true rfl⟩ ⟨Nat.zero_le _, Nat.zero_le _⟩ hP [3, 4] rfl rfl rfl rfl hl.1 rfl rfl (Nat.le_of_ble_eq_true rfl) dX9_sumUnnamed_12 rfl ?_
  refine lv_imul hx hb dX9_sumUnnamed_15 ?_
  have e1 := Option.some.inj hf
  subst e1
  exact kretR C dX9_sumUnnamed_16
def RM_De_cow : Room := { frames := 0, cells := 0, slots := 0, locals := 0 }
set_option maxHeartbeats 4000000 in
set_option maxRecDepth 100000 in
theorem c_De_cow (l : Launch) (D : va_G) (ct : Nat → ClassId) (a_this a_terms : Nat) (f_terms : Nat → Int32) (r : Int32) (hf : De_cow f_terms = some r) : Met l yX0_cow (WS yX0_cow cX0_cow 1 (some .int)) RM_De_cow (va_Pc [.ref a_this] (PR D ct (w_De_cow ct a_this a_terms f_terms))) (QR (some (.int r))) 0 0 (fun _ => False) := by
  refine kMetR yn_yX0_cow rfl (Nat.le_of_ble_eq_true rfl) ?_
  intro p e s m args below meth c C hP ls hl
  have hl : lv_has ls 1 [(0, .ref a_this)] := hl
  obtain ⟨hx, hb, hr, hml, hown, hts, hlk, hK, hN⟩ := id C
  unfold De_cow at hf
  refine lv_aload_n hx hb dX0_cow_0 rfl (lv_at hl 0 rfl) ?_
  refine va_get (ci := 0) (v := .ref a_terms) (C := RX0) (T := TX0) (N := 1) hx hb hts inX0 hown hK hP 0 rfl rfl 0 (by decide) (hts _ tw_210) (fun _ h9 => h9) rfl dX0_cow_1 ?_
  refine lv_iconst (v := 1) hx hb dX0_cow_4 (by decide) ?_
  obtain ⟨hin, hf⟩ := rd_some hf
  generalize ev5 : f_terms (Int32.toNatClampNeg 1) = v5 at hf
  refine kiald hx hb hK hP 1 0 rfl rfl hin ev5 dX0_cow_5 ?_
  have e1 := Option.some.inj hf
  subst e1
  exact kretR C dX0_cow_6
def RM_Jint_bitCount : Room := { frames := 0, cells := 0, slots := 0, locals := 0 }
set_option maxHeartbeats 4000000 in
set_option maxRecDepth 100000 in
theorem c_Jint_bitCount (l : Launch) (D : va_G) (ct : Nat → ClassId) (x0 : Int32) (r : Int32) (hf : Jint_bitCount x0 = some r) : Met l yJ6_bitCount_0f7a4 (WS yJ6_bitCount_0f7a4 cJ6_bitCount_0f7a4 1 (some .int)) RM_Jint_bitCount (va_Pc [.int x0] (PR D ct (w_Jint_bitCount ct))) (QR (some (.int r))) 0 0 (fun _ => False) := by
  refine kMetR yn_yJ6_bitCount_0f7a4 rfl (Nat.le_of_ble_eq_true rfl) ?_
  intro p e s m args below meth c C hP ls hl
  have hl : lv_has ls 1 [(0, .int x0)] := hl
  obtain ⟨hx, hb, hr, hml, hown, hts, hlk, hK, hN⟩ := id C
  unfold Jint_bitCount at hf
  refine lv_iload_n hx hb dJ6_bitCount_0f7a4_0 rfl (lv_at hl 0 rfl) ?_
  refine lv_iload_n hx hb dJ6_bitCount_0f7a4_1 rfl (lv_at hl 0 rfl) ?_
  refine lv_iconst (v := 1) hx hb dJ6_bitCount_0f7a4_2 (by decide) ?_
  refine lv_iushr (v := ushr x0 1) hx hb dJ6_bitCount_0f7a4_3 rfl ?_
  refine lv_ldcw (v := 1431655765) hx hb hown (hts _ tw_751) dJ6_bitCount_0f7a4_4 ?_
  refine lv_iand hx hb dJ6_bitCount_0f7a4_7 ?_
  refine lv_isub hx hb dJ6_bitCount_0f7a4_8 ?_
  refine lv_istore_n (lv' := [(0, .int (x0 - ((ushr x0 1) &&& 1431655765)))]) hx hb dJ6_bitCount_0f7a4_9 rfl hl (by decide) rfl (fun ls hl => ?_)
  refine lv_iload_n hx hb dJ6_bitCount_0f7a4_10 rfl (lv_at hl 0 rfl) ?_
  refine lv_ldcw (v := 858993459) hx hb hown (hts _ tw_752) dJ6_bitCount_0f7a4_11 ?_
  refine lv_iand hx hb dJ6_bitCount_0f7a4_14 ?_
  refine lv_iload_n hx hb dJ6_bitCount_0f7a4_15 rfl (lv_at hl 0 rfl) ?_
  refine lv_iconst (v := 2) hx hb dJ6_bitCount_0f7a4_16 (by decide) ?_
  refine lv_iushr (v := ushr (x0 - ((ushr x0 1) &&& 1431655765)) 2) hx hb dJ6_bitCount_0f7a4_17 rfl ?_
  refine lv_ldcw (v := 858993459) hx hb hown (hts _ tw_752) dJ6_bitCount_0f7a4_18 ?_
  refine lv_iand hx hb dJ6_bitCount_0f7a4_21 ?_
  refine lv_iadd hx hb dJ6_bitCount_0f7a4_22 ?_
  refine lv_istore_n (lv' := [(0, .int (((x0 - ((ushr x0 1) &&& 1431655765)) &&& 858993459) + ((ushr (x0 - ((ushr x0 1) &&& 1431655765)) 2) &&& 858993459)))]) hx hb dJ6_bitCount_0f7a4_23 rfl hl (by decide) rfl (fun ls hl => ?_)
  refine lv_iload_n hx hb dJ6_bitCount_0f7a4_24 rfl (lv_at hl 0 rfl) ?_
  refine lv_iload_n hx hb dJ6_bitCount_0f7a4_25 rfl (lv_at hl 0 rfl) ?_
  refine lv_iconst (v := 4) hx hb dJ6_bitCount_0f7a4_26 (by decide) ?_
  refine lv_iushr (v := ushr (((x0 - ((ushr x0 1) &&& 1431655765)) &&& 858993459) + ((ushr (x0 - ((ushr x0 1) &&& 1431655765)) 2) &&& 858993459)) 4) hx hb dJ6_bitCount_0f7a4_27 rfl ?_
  refine lv_iadd hx hb dJ6_bitCount_0f7a4_28 ?_
  refine lv_ldcw (v := 252645135) hx hb hown (hts _ tw_753) dJ6_bitCount_0f7a4_29 ?_
  refine lv_iand hx hb dJ6_bitCount_0f7a4_32 ?_
  refine lv_istore_n (lv' := [(0, .int (((((x0 - ((ushr x0 1) &&& 1431655765)) &&& 858993459) + ((ushr (x0 - ((ushr x0 1) &&& 1431655765)) 2) &&& 858993459)) + (ushr (((x0 - ((ushr x0 1) &&& 1431655765)) &&& 858993459) + ((ushr (x0 - ((ushr x0 1) &&& 1431655765)) 2) &&& 858993459)) 4)) &&& 252645135))]) hx hb dJ6_bitCount_0f7a4_33 rfl hl (by decide) rfl (fun ls hl => ?_)
  refine lv_iload_n hx hb dJ6_bitCount_0f7a4_34 rfl (lv_at hl 0 rfl) ?_
  refine lv_iload_n hx hb dJ6_bitCount_0f7a4_35 rfl (lv_at hl 0 rfl) ?_
  refine lv_bipush (v := 8) hx hb dJ6_bitCount_0f7a4_36 (by decide) ?_
  refine lv_iushr (v := ushr (((((x0 - ((ushr x0 1) &&& 1431655765)) &&& 858993459) + ((ushr (x0 - ((ushr x0 1) &&& 1431655765)) 2) &&& 858993459)) + (ushr (((x0 - ((ushr x0 1) &&& 1431655765)) &&& 858993459) + ((ushr (x0 - ((ushr x0 1) &&& 1431655765)) 2) &&& 858993459)) 4)) &&& 252645135) 8) hx hb dJ6_bitCount_0f7a4_38 rfl ?_
  refine lv_iadd hx hb dJ6_bitCount_0f7a4_39 ?_
  refine lv_istore_n (lv' := [(0, .int ((((((x0 - ((ushr x0 1) &&& 1431655765)) &&& 858993459) + ((ushr (x0 - ((ushr x0 1) &&& 1431655765)) 2) &&& 858993459)) + (ushr (((x0 - ((ushr x0 1) &&& 1431655765)) &&& 858993459) + ((ushr (x0 - ((ushr x0 1) &&& 1431655765)) 2) &&& 858993459)) 4)) &&& 252645135) + (ushr (((((x0 - ((ushr x0 1) &&& 1431655765)) &&& 858993459) + ((ushr (x0 - ((ushr x0 1) &&& 1431655765)) 2) &&& 858993459)) + (ushr (((x0 - ((ushr x0 1) &&& 1431655765)) &&& 858993459) + ((ushr (x0 - ((ushr x0 1) &&& 1431655765)) 2) &&& 858993459)) 4)) &&& 252645135) 8)))]) hx hb dJ6_bitCount_0f7a4_40 rfl hl (by decide) rfl (fun ls hl => ?_)
  refine lv_iload_n hx hb dJ6_bitCount_0f7a4_41 rfl (lv_at hl 0 rfl) ?_
  refine lv_iload_n hx hb dJ6_bitCount_0f7a4_42 rfl (lv_at hl 0 rfl) ?_
  refine lv_bipush (v := 16) hx hb dJ6_bitCount_0f7a4_43 (by decide) ?_
  refine lv_iushr (v := ushr ((((((x0 - ((ushr x0 1) &&& 1431655765)) &&& 858993459) + ((ushr (x0 - ((ushr x0 1) &&& 1431655765)) 2) &&& 858993459)) + (ushr (((x0 - ((ushr x0 1) &&& 1431655765)) &&& 858993459) + ((ushr (x0 - ((ushr x0 1) &&& 1431655765)) 2) &&& 858993459)) 4)) &&& 252645135) + (ushr (((((x0 - ((ushr x0 1) &&& 1431655765)) &&& 858993459) + ((ushr (x0 - ((ushr x0 1) &&& 1431655765)) 2) &&& 858993459)) + (ushr (((x0 - ((ushr x0 1) &&& 1431655765)) &&& 858993459) + ((ushr (x0 - ((ushr x0 1) &&& 1431655765)) 2) &&& 858993459)) 4)) &&& 252645135) 8)) 16) hx hb dJ6_bitCount_0f7a4_45 rfl ?_
  refine lv_iadd hx hb dJ6_bitCount_0f7a4_46 ?_
  refine lv_istore_n (lv' := [(0, .int (((((((x0 - ((ushr x0 1) &&& 1431655765)) &&& 858993459) + ((ushr (x0 - ((ushr x0 1) &&& 1431655765)) 2) &&& 858993459)) + (ushr (((x0 - ((ushr x0 1) &&& 1431655765)) &&& 858993459) + ((ushr (x0 - ((ushr x0 1) &&& 1431655765)) 2) &&& 858993459)) 4)) &&& 252645135) + (ushr (((((x0 - ((ushr x0 1) &&& 1431655765)) &&& 858993459) + ((ushr (x0 - ((ushr x0 1) &&& 1431655765)) 2) &&& 858993459)) + (ushr (((x0 - ((ushr x0 1) &&& 1431655765)) &&& 858993459) + ((ushr (x0 - ((ushr x0 1) &&& 1431655765)) 2) &&& 858993459)) 4)) &&& 252645135) 8)) + (ushr ((((((x0 - ((ushr x0 1) &&& 1431655765)) &&& 858993459) + ((ushr (x0 - ((ushr x0 1) &&& 1431655765)) 2) &&& 858993459)) + (ushr (((x0 - ((ushr x0 1) &&& 1431655765)) &&& 858993459) + ((ushr (x0 - ((ushr x0 1) &&& 1431655765)) 2) &&& 858993459)) 4)) &&& 252645135) + (ushr (((((x0 - ((ushr x0 1) &&& 1431655765)) &&& 858993459) + ((ushr (x0 - ((ushr x0 1) &&& 1431655765)) 2) &&& 858993459)) + (ushr (((x0 - ((ushr x0 1) &&& 1431655765)) &&& 858993459) + ((ushr (x0 - ((ushr x0 1) &&& 1431655765)) 2) &&& 858993459)) 4)) &&& 252645135) 8)) 16)))]) hx hb dJ6_bitCount_0f7a4_47 rfl hl (by decide) rfl (fun ls hl => ?_)
  refine lv_iload_n hx hb dJ6_bitCount_0f7a4_48 rfl (lv_at hl 0 rfl) ?_
  refine lv_bipush (v := 63) hx hb dJ6_bitCount_0f7a4_49 (by decide) ?_
  refine lv_iand hx hb dJ6_bitCount_0f7a4_51 ?_
  have e1 := Option.some.inj hf
  subst e1
  exact kretR C dJ6_bitCount_0f7a4_52
def RM_Sp_leftAtWorst : Room := { frames := 1, cells := 0, slots := 0, locals := 22 }
set_option maxHeartbeats 4000000 in
set_option maxRecDepth 100000 in
theorem t_Sp_leftAtWorst_b5 {p : Program} {l : Launch} {e : Env} {s : State} {m : MethodId} {args : Array Value} {below : List Frame} {meth : Method} {c : Code} {D : va_G} {ct : Nat → ClassId} (C : CX p s m args meth c RX7 cX7_leftAtWorst 5 (some .int) D ct) (a_this a_names a_nights a_names_odds a_names_lengths a_names_letters a_names_alike a_names_oddsTogether : Nat) (f_stale : Int32) (f_settled : Int32) (f_names_size : Int32) (f_names_fault : Int32) (F : Nat) (f_names_alike : Nat → Int32) (x1 : Int32) (x2 : Int32) (r : Int32) (rec5 : Int32 → Int32 → Option Int32) (hr5 : ∀ (x3 : Int32) (x4 : Int32), rec5 x3 x4 = some r → va_P D vwCl (w_Sp_leftAtWorst ct a_this a_names a_nights a_names_odds a_names_lengths a_names_letters a_names_alike a_names_oddsTogether f_stale f_settled f_names_size f_names_fault f_names_alike) s.heap → ∀ ls : Array Slot, lv_has ls 5 [(0, .ref a_this), (1, .int x1), (2, .int x2), (3, .int x3), (4, .int x4)] → W p l e RM_Sp_leftAtWorst s m args below meth c s.heap [] 0 0 (MQ below (QR (some (.int r))) args s 0 0 (fun _ => False)) (F0 m 5 ls [])) : ∀ (x3 : Int32) (x4 : Int32), Sp_leftAtWorst_b5 F f_names_alike x1 x2 rec5 x3 x4 = some r → va_P D vwCl (w_Sp_leftAtWorst ct a_this a_names a_nights a_names_odds a_names_lengths a_names_letters a_names_alike a_names_oddsTogether f_stale f_settled f_names_size f_names_fault f_names_alike) s.heap → ∀ ls : Array Slot, lv_has ls 5 [(0, .ref a_this), (1, .int x1), (2, .int x2), (3, .int x3), (4, .int x4)] → W p l e RM_Sp_leftAtWorst s m args below meth c s.heap [] 0 0 (MQ below (QR (some (.int r))) args s 0 0 (fun _ => False)) (F0 m 5 ls []) := by
  obtain ⟨hx, hb, hr, hml, hown, hts, hlk, hK, hN⟩ := id C
  intro x3 x4 hf hP ls hl
  unfold Sp_leftAtWorst_b5 at hf
  refine lv_iload hx hb dX7_leftAtWorst_5 (lv_at hl 4 rfl) ?_
  refine lv_bipush (v := 6) hx hb dX7_leftAtWorst_7 (by decide) ?_
  refine lv_icmp_ge (tgt := 38) hx hb dX7_leftAtWorst_9 (by decide) (fun hc => ?_) (fun hc => ?_)
  · have hf := kpos hc hf
    refine lv_iload_n hx hb dX7_leftAtWorst_38 rfl (lv_at hl 3 rfl) ?_
    have e1 := Option.some.inj hf
    subst e1
    exact kretR C dX7_leftAtWorst_39
  · have hf := kneg hc hf
    refine lv_iload_n hx hb dX7_leftAtWorst_12 rfl (lv_at hl 3 rfl) ?_
    refine lv_iload_n hx hb dX7_leftAtWorst_13 rfl (lv_at hl 1 rfl) ?_
    refine lv_aload_n hx hb dX7_leftAtWorst_14 rfl (lv_at hl 0 rfl) ?_
    refine va_get (ci := 7) (v := .ref a_names) (C := RX7) (T := TX7) (N := 4) hx hb hts inX7 hown hK hP 0 rfl rfl 0 (by decide) (hts _ tw_252) (fun _ h9 => h9) rfl dX7_leftAtWorst_15 ?_
    refine lv_iload_n hx hb dX7_leftAtWorst_18 rfl (lv_at hl 2 rfl) ?_
    refine lv_iload hx hb dX7_leftAtWorst_19 (lv_at hl 4 rfl) ?_
    obtain ⟨v21, hc21, hf⟩ := cb1_some hf
    refine kcRV (q0 := 1) (ci := 3) (As := [.int x2, .int x4]) (rest := [.int x1, .int x3]) (st1 := [.int v21, .int x1, .int x3]) C (c_Na_soundingAt l D ct a_names a_names_odds a_names_lengths a_names_letters a_names_alike a_names_oddsTogether f_names_size f_names_fault f_names_alike x2 x4 v21 hc21) ⟨rfl, rfl⟩ yn_yX3_soundingAt tw_625 tw_626 tw_747 ⟨Nat.le_of_ble_eq_true rfl, Nat.le_of_ble_eq_true rfl⟩ ⟨Nat.zero_le _, Nat.zero_le _⟩ hP [1, 2] rfl rfl rfl rfl hl.1 rfl rfl (Nat.le_of_ble_eq_true rfl) dX7_leftAtWorst_21 rfl ?_
    refine lv_iand hx hb dX7_leftAtWorst_24 ?_
    obtain ⟨v25, hc25, hf⟩ := cb1_some hf
    refine kcRS (As := [.int (x1 &&& v21)]) (rest := [.int x3]) (st1 := [.int v25, .int x3]) C (c_Jint_bitCount l D ct (x1 &&& v21) v25 hc25) ⟨rfl, rfl⟩ yn_yJ6_bitCount_0f7a4 tw_749 tw_748 ⟨Nat.le_of_ble_eq_true rfl, Nat.le_of_ble_eq_true rfl⟩ ⟨Nat.zero_le _, Nat.zero_le _⟩ hP [] rfl hl.1 rfl rfl (Nat.le_of_ble_eq_true rfl) dX7_leftAtWorst_25 rfl ?_
    refine kmmax hx hb (hml.trans hl.1.symm) hown (hts _ tw_754) (hts _ tw_102) (hts _ tw_72) (hts _ tw_103) (Nat.le_of_ble_eq_true rfl) (Nat.le_of_ble_eq_true rfl) (Nat.zero_le _) (Nat.zero_le _) dX7_leftAtWorst_28 ?_
    refine lv_istore_n (lv' := [(3, .int (mxI x3 v25)), (0, .ref a_this), (1, .int x1), (2, .int x2), (4, .int x4)]) hx hb dX7_leftAtWorst_31 rfl hl (by decide) rfl (fun ls hl => ?_)
    refine lv_iinc (v := x4 + 1) (lv' := [(4, .int (x4 + 1)), (3, .int (mxI x3 v25)), (0, .ref a_this), (1, .int x1), (2, .int x2)]) hx hb dX7_leftAtWorst_32 hl (k := 4) rfl rfl (by decide) rfl (fun ls hl => ?_)
    refine lv_goto (tgt := 5) hx hb dX7_leftAtWorst_35 (by decide) ?_
    exact hr5 (mxI x3 v25) (x4 + 1) hf hP _ (lv_sub hl [2, 3, 4, 1, 0] rfl)
set_option maxHeartbeats 4000000 in
set_option maxRecDepth 100000 in
theorem t_Sp_leftAtWorst_l5 {p : Program} {l : Launch} {e : Env} {s : State} {m : MethodId} {args : Array Value} {below : List Frame} {meth : Method} {c : Code} {D : va_G} {ct : Nat → ClassId} (C : CX p s m args meth c RX7 cX7_leftAtWorst 5 (some .int) D ct) (a_this a_names a_nights a_names_odds a_names_lengths a_names_letters a_names_alike a_names_oddsTogether : Nat) (f_stale : Int32) (f_settled : Int32) (f_names_size : Int32) (f_names_fault : Int32) (F : Nat) (f_names_alike : Nat → Int32) (x1 : Int32) (x2 : Int32) (r : Int32) : ∀ (n : Nat) (x3 : Int32) (x4 : Int32), Sp_leftAtWorst_l5 F f_names_alike x1 x2 n x3 x4 = some r → va_P D vwCl (w_Sp_leftAtWorst ct a_this a_names a_nights a_names_odds a_names_lengths a_names_letters a_names_alike a_names_oddsTogether f_stale f_settled f_names_size f_names_fault f_names_alike) s.heap → ∀ ls : Array Slot, lv_has ls 5 [(0, .ref a_this), (1, .int x1), (2, .int x2), (3, .int x3), (4, .int x4)] → W p l e RM_Sp_leftAtWorst s m args below meth c s.heap [] 0 0 (MQ below (QR (some (.int r))) args s 0 0 (fun _ => False)) (F0 m 5 ls []) := by
  intro n
  induction n with
  | zero =>
    intro x3 x4 hf
    exact absurd hf (by simp [Sp_leftAtWorst_l5])
  | succ n ih =>
    intro x3 x4 hf
    exact t_Sp_leftAtWorst_b5 C a_this a_names a_nights a_names_odds a_names_lengths a_names_letters a_names_alike a_names_oddsTogether f_stale f_settled f_names_size f_names_fault F f_names_alike x1 x2 r (Sp_leftAtWorst_l5 F f_names_alike x1 x2 n) ih x3 x4 hf
set_option maxHeartbeats 4000000 in
set_option maxRecDepth 100000 in
theorem c_Sp_leftAtWorst (l : Launch) (D : va_G) (ct : Nat → ClassId) (a_this a_names a_nights a_names_odds a_names_lengths a_names_letters a_names_alike a_names_oddsTogether : Nat) (f_stale : Int32) (f_settled : Int32) (f_names_size : Int32) (f_names_fault : Int32) (F : Nat) (f_names_alike : Nat → Int32) (x1 : Int32) (x2 : Int32) (r : Int32) (hf : Sp_leftAtWorst F f_names_alike x1 x2 = some r) : Met l yX7_leftAtWorst (WS yX7_leftAtWorst cX7_leftAtWorst 5 (some .int)) RM_Sp_leftAtWorst (va_Pc [.ref a_this, .int x1, .int x2] (PR D ct (w_Sp_leftAtWorst ct a_this a_names a_nights a_names_odds a_names_lengths a_names_letters a_names_alike a_names_oddsTogether f_stale f_settled f_names_size f_names_fault f_names_alike))) (QR (some (.int r))) 0 0 (fun _ => False) := by
  refine kMetR yn_yX7_leftAtWorst rfl (Nat.le_of_ble_eq_true rfl) ?_
  intro p e s m args below meth c C hP ls hl
  have hl : lv_has ls 5 [(0, .ref a_this), (1, .int x1), (2, .int x2)] := hl
  obtain ⟨hx, hb, hr, hml, hown, hts, hlk, hK, hN⟩ := id C
  unfold Sp_leftAtWorst at hf
  refine lv_iconst (v := 0) hx hb dX7_leftAtWorst_0 (by decide) ?_
  refine lv_istore_n (lv' := [(3, .int 0), (0, .ref a_this), (1, .int x1), (2, .int x2)]) hx hb dX7_leftAtWorst_1 rfl hl (by decide) rfl (fun ls hl => ?_)
  refine lv_iconst (v := (-1)) hx hb dX7_leftAtWorst_2 (by decide) ?_
  refine lv_istore (lv' := [(4, .int (-1)), (3, .int 0), (0, .ref a_this), (1, .int x1), (2, .int x2)]) hx hb dX7_leftAtWorst_3 hl (by decide) rfl (fun ls hl => ?_)
  exact t_Sp_leftAtWorst_l5 C a_this a_names a_nights a_names_odds a_names_lengths a_names_letters a_names_alike a_names_oddsTogether f_stale f_settled f_names_size f_names_fault F f_names_alike x1 x2 r F 0 (-1) hf hP _ (lv_sub hl [2, 3, 4, 1, 0] rfl)
def RM_Sp_bestPlace : Room := { frames := 2, cells := 0, slots := 0, locals := 46 }
set_option maxHeartbeats 4000000 in
set_option maxRecDepth 100000 in
theorem t_Sp_bestPlace_b27 {p : Program} {l : Launch} {e : Env} {s : State} {m : MethodId} {args : Array Value} {below : List Frame} {meth : Method} {c : Code} {D : va_G} {ct : Nat → ClassId} (C : CX p s m args meth c RX7 cX7_bestPlace 4 (some .int) D ct) (a_this a_names a_nights a_names_odds a_names_lengths a_names_letters a_names_alike a_names_oddsTogether : Nat) (f_stale : Int32) (f_settled : Int32) (f_names_size : Int32) (f_names_fault : Int32) (F : Nat) (f_names_alike : Nat → Int32) (x1 : Int32) (r : Int32) (rec4 : Int32 → Int32 → Option Int32) (hr4 : ∀ (x2 : Int32) (x3 : Int32), rec4 x2 x3 = some r → va_P D vwCl (w_Sp_bestPlace ct a_this a_names a_nights a_names_odds a_names_lengths a_names_letters a_names_alike a_names_oddsTogether f_stale f_settled f_names_size f_names_fault f_names_alike) s.heap → ∀ ls : Array Slot, lv_has ls 4 [(0, .ref a_this), (1, .int x1), (2, .int x2), (3, .int x3)] → W p l e RM_Sp_bestPlace s m args below meth c s.heap [] 0 0 (MQ below (QR (some (.int r))) args s 0 0 (fun _ => False)) (F0 m 4 ls [])) : ∀ (x2 : Int32) (x3 : Int32), Sp_bestPlace_b27 F f_names_alike x1 rec4 x2 x3 = some r → va_P D vwCl (w_Sp_bestPlace ct a_this a_names a_nights a_names_odds a_names_lengths a_names_letters a_names_alike a_names_oddsTogether f_stale f_settled f_names_size f_names_fault f_names_alike) s.heap → ∀ ls : Array Slot, lv_has ls 4 [(0, .ref a_this), (1, .int x1), (2, .int x2), (3, .int x3)] → W p l e RM_Sp_bestPlace s m args below meth c s.heap [] 0 0 (MQ below (QR (some (.int r))) args s 0 0 (fun _ => False)) (F0 m 27 ls []) := by
  obtain ⟨hx, hb, hr, hml, hown, hts, hlk, hK, hN⟩ := id C
  intro x2 x3 hf hP ls hl
  unfold Sp_bestPlace_b27 at hf
  refine lv_iinc (v := x3 + 1) (lv' := [(3, .int (x3 + 1)), (0, .ref a_this), (1, .int x1), (2, .int x2)]) hx hb dX7_bestPlace_27 hl (k := 3) rfl rfl (by decide) rfl (fun ls hl => ?_)
  refine lv_goto (tgt := 4) hx hb dX7_bestPlace_30 (by decide) ?_
  exact hr4 x2 (x3 + 1) hf hP _ (lv_sub hl [1, 2, 3, 0] rfl)
set_option maxHeartbeats 4000000 in
set_option maxRecDepth 100000 in
theorem t_Sp_bestPlace_b4 {p : Program} {l : Launch} {e : Env} {s : State} {m : MethodId} {args : Array Value} {below : List Frame} {meth : Method} {c : Code} {D : va_G} {ct : Nat → ClassId} (C : CX p s m args meth c RX7 cX7_bestPlace 4 (some .int) D ct) (a_this a_names a_nights a_names_odds a_names_lengths a_names_letters a_names_alike a_names_oddsTogether : Nat) (f_stale : Int32) (f_settled : Int32) (f_names_size : Int32) (f_names_fault : Int32) (F : Nat) (f_names_alike : Nat → Int32) (x1 : Int32) (r : Int32) (rec4 : Int32 → Int32 → Option Int32) (hr4 : ∀ (x2 : Int32) (x3 : Int32), rec4 x2 x3 = some r → va_P D vwCl (w_Sp_bestPlace ct a_this a_names a_nights a_names_odds a_names_lengths a_names_letters a_names_alike a_names_oddsTogether f_stale f_settled f_names_size f_names_fault f_names_alike) s.heap → ∀ ls : Array Slot, lv_has ls 4 [(0, .ref a_this), (1, .int x1), (2, .int x2), (3, .int x3)] → W p l e RM_Sp_bestPlace s m args below meth c s.heap [] 0 0 (MQ below (QR (some (.int r))) args s 0 0 (fun _ => False)) (F0 m 4 ls [])) : ∀ (x2 : Int32) (x3 : Int32), Sp_bestPlace_b4 F f_names_alike x1 rec4 x2 x3 = some r → va_P D vwCl (w_Sp_bestPlace ct a_this a_names a_nights a_names_odds a_names_lengths a_names_letters a_names_alike a_names_oddsTogether f_stale f_settled f_names_size f_names_fault f_names_alike) s.heap → ∀ ls : Array Slot, lv_has ls 4 [(0, .ref a_this), (1, .int x1), (2, .int x2), (3, .int x3)] → W p l e RM_Sp_bestPlace s m args below meth c s.heap [] 0 0 (MQ below (QR (some (.int r))) args s 0 0 (fun _ => False)) (F0 m 4 ls []) := by
  obtain ⟨hx, hb, hr, hml, hown, hts, hlk, hK, hN⟩ := id C
  intro x2 x3 hf hP ls hl
  unfold Sp_bestPlace_b4 at hf
  refine lv_iload_n hx hb dX7_bestPlace_4 rfl (lv_at hl 3 rfl) ?_
  refine lv_bipush (v := 6) hx hb dX7_bestPlace_5 (by decide) ?_
  refine lv_icmp_ge (tgt := 33) hx hb dX7_bestPlace_7 (by decide) (fun hc => ?_) (fun hc => ?_)
  · have hf := kpos hc hf
    refine lv_iload_n hx hb dX7_bestPlace_33 rfl (lv_at hl 2 rfl) ?_
    have e1 := Option.some.inj hf
    subst e1
    exact kretR C dX7_bestPlace_34
  · have hf := kneg hc hf
    refine lv_aload_n hx hb dX7_bestPlace_10 rfl (lv_at hl 0 rfl) ?_
    refine lv_iload_n hx hb dX7_bestPlace_11 rfl (lv_at hl 1 rfl) ?_
    refine lv_iload_n hx hb dX7_bestPlace_12 rfl (lv_at hl 3 rfl) ?_
    obtain ⟨v13, hc13, hf⟩ := cb1_some hf
    refine kcRV (q0 := 0) (ci := 7) (As := [.int x1, .int x3]) (rest := []) (st1 := [.int v13]) C (c_Sp_leftAtWorst l D ct a_this a_names a_nights a_names_odds a_names_lengths a_names_letters a_names_alike a_names_oddsTogether f_stale f_settled f_names_size f_names_fault F f_names_alike x1 x3 v13 hc13) ⟨rfl, rfl⟩ yn_yX7_leftAtWorst tw_744 tw_745 tw_743 ⟨Nat.le_of_ble_eq_true rfl, Nat.le_of_ble_eq_true rfl⟩ ⟨Nat.zero_le _, Nat.zero_le _⟩ hP [0, 1, 2] rfl rfl rfl rfl hl.1 rfl rfl (Nat.le_of_ble_eq_true rfl) dX7_bestPlace_13 rfl ?_
    refine lv_aload_n hx hb dX7_bestPlace_16 rfl (lv_at hl 0 rfl) ?_
    refine lv_iload_n hx hb dX7_bestPlace_17 rfl (lv_at hl 1 rfl) ?_
    refine lv_iload_n hx hb dX7_bestPlace_18 rfl (lv_at hl 2 rfl) ?_
    obtain ⟨v19, hc19, hf⟩ := cb1_some hf
    refine kcRV (q0 := 0) (ci := 7) (As := [.int x1, .int x2]) (rest := [.int v13]) (st1 := [.int v19, .int v13]) C (c_Sp_leftAtWorst l D ct a_this a_names a_nights a_names_odds a_names_lengths a_names_letters a_names_alike a_names_oddsTogether f_stale f_settled f_names_size f_names_fault F f_names_alike x1 x2 v19 hc19) ⟨rfl, rfl⟩ yn_yX7_leftAtWorst tw_744 tw_745 tw_743 ⟨Nat.le_of_ble_eq_true rfl, Nat.le_of_ble_eq_true rfl⟩ ⟨Nat.zero_le _, Nat.zero_le _⟩ hP [0, 1, 2] rfl rfl rfl rfl hl.1 rfl rfl (Nat.le_of_ble_eq_true rfl) dX7_bestPlace_19 rfl ?_
    refine lv_icmp_ge (tgt := 27) hx hb dX7_bestPlace_22 (by decide) (fun hc => ?_) (fun hc => ?_)
    · have hf := kpos hc hf
      exact t_Sp_bestPlace_b27 C a_this a_names a_nights a_names_odds a_names_lengths a_names_letters a_names_alike a_names_oddsTogether f_stale f_settled f_names_size f_names_fault F f_names_alike x1 r rec4 hr4 x2 x3 hf hP _ (lv_sub hl [0, 1, 2, 3] rfl)
    · have hf := kneg hc hf
      refine lv_iload_n hx hb dX7_bestPlace_25 rfl (lv_at hl 3 rfl) ?_
      refine lv_istore_n (lv' := [(2, .int x3), (0, .ref a_this), (1, .int x1), (3, .int x3)]) hx hb dX7_bestPlace_26 rfl hl (by decide) rfl (fun ls hl => ?_)
      exact t_Sp_bestPlace_b27 C a_this a_names a_nights a_names_odds a_names_lengths a_names_letters a_names_alike a_names_oddsTogether f_stale f_settled f_names_size f_names_fault F f_names_alike x1 r rec4 hr4 x3 x3 hf hP _ (lv_sub hl [1, 2, 0, 3] rfl)
set_option maxHeartbeats 4000000 in
set_option maxRecDepth 100000 in
theorem t_Sp_bestPlace_l4 {p : Program} {l : Launch} {e : Env} {s : State} {m : MethodId} {args : Array Value} {below : List Frame} {meth : Method} {c : Code} {D : va_G} {ct : Nat → ClassId} (C : CX p s m args meth c RX7 cX7_bestPlace 4 (some .int) D ct) (a_this a_names a_nights a_names_odds a_names_lengths a_names_letters a_names_alike a_names_oddsTogether : Nat) (f_stale : Int32) (f_settled : Int32) (f_names_size : Int32) (f_names_fault : Int32) (F : Nat) (f_names_alike : Nat → Int32) (x1 : Int32) (r : Int32) : ∀ (n : Nat) (x2 : Int32) (x3 : Int32), Sp_bestPlace_l4 F f_names_alike x1 n x2 x3 = some r → va_P D vwCl (w_Sp_bestPlace ct a_this a_names a_nights a_names_odds a_names_lengths a_names_letters a_names_alike a_names_oddsTogether f_stale f_settled f_names_size f_names_fault f_names_alike) s.heap → ∀ ls : Array Slot, lv_has ls 4 [(0, .ref a_this), (1, .int x1), (2, .int x2), (3, .int x3)] → W p l e RM_Sp_bestPlace s m args below meth c s.heap [] 0 0 (MQ below (QR (some (.int r))) args s 0 0 (fun _ => False)) (F0 m 4 ls []) := by
  intro n
  induction n with
  | zero =>
    intro x2 x3 hf
    exact absurd hf (by simp [Sp_bestPlace_l4])
  | succ n ih =>
    intro x2 x3 hf
    exact t_Sp_bestPlace_b4 C a_this a_names a_nights a_names_odds a_names_lengths a_names_letters a_names_alike a_names_oddsTogether f_stale f_settled f_names_size f_names_fault F f_names_alike x1 r (Sp_bestPlace_l4 F f_names_alike x1 n) ih x2 x3 hf
set_option maxHeartbeats 4000000 in
set_option maxRecDepth 100000 in
theorem c_Sp_bestPlace (l : Launch) (D : va_G) (ct : Nat → ClassId) (a_this a_names a_nights a_names_odds a_names_lengths a_names_letters a_names_alike a_names_oddsTogether : Nat) (f_stale : Int32) (f_settled : Int32) (f_names_size : Int32) (f_names_fault : Int32) (F : Nat) (f_names_alike : Nat → Int32) (x1 : Int32) (r : Int32) (hf : Sp_bestPlace F f_names_alike x1 = some r) : Met l yX7_bestPlace (WS yX7_bestPlace cX7_bestPlace 4 (some .int)) RM_Sp_bestPlace (va_Pc [.ref a_this, .int x1] (PR D ct (w_Sp_bestPlace ct a_this a_names a_nights a_names_odds a_names_lengths a_names_letters a_names_alike a_names_oddsTogether f_stale f_settled f_names_size f_names_fault f_names_alike))) (QR (some (.int r))) 0 0 (fun _ => False) := by
  refine kMetR yn_yX7_bestPlace rfl (Nat.le_of_ble_eq_true rfl) ?_
  intro p e s m args below meth c C hP ls hl
  have hl : lv_has ls 4 [(0, .ref a_this), (1, .int x1)] := hl
  obtain ⟨hx, hb, hr, hml, hown, hts, hlk, hK, hN⟩ := id C
  unfold Sp_bestPlace at hf
  refine lv_iconst (v := 0) hx hb dX7_bestPlace_0 (by decide) ?_
  refine lv_istore_n (lv' := [(2, .int 0), (0, .ref a_this), (1, .int x1)]) hx hb dX7_bestPlace_1 rfl hl (by decide) rfl (fun ls hl => ?_)
  refine lv_iconst (v := 1) hx hb dX7_bestPlace_2 (by decide) ?_
  refine lv_istore_n (lv' := [(3, .int 1), (2, .int 0), (0, .ref a_this), (1, .int x1)]) hx hb dX7_bestPlace_3 rfl hl (by decide) rfl (fun ls hl => ?_)
  exact t_Sp_bestPlace_l4 C a_this a_names a_nights a_names_odds a_names_lengths a_names_letters a_names_alike a_names_oddsTogether f_stale f_settled f_names_size f_names_fault F f_names_alike x1 r F 0 1 hf hP _ (lv_sub hl [2, 3, 1, 0] rfl)
def RM_ND_listen : Room := { frames := 5, cells := 0, slots := 0, locals := 117 }
set_option maxHeartbeats 4000000 in
set_option maxRecDepth 100000 in
theorem c_ND_listen (l : Launch) (D : va_G) (ct : Nat → ClassId) (a_this a_texts a_names a_pieces a_song a_fitting a_deal a_guesses a_wise a_spy a_sheets a_texts0 a_texts1 a_texts2 a_texts0_bytes a_texts1_bytes a_texts2_bytes a_names_odds a_names_lengths a_names_letters a_names_alike a_names_oddsTogether a_pieces_inside a_pieces_lengths a_pieces_letters a_song_letters a_fitting_pieceFits a_fitting_inOrder a_spy_nights : Nat) (f_finding : Int32) (f_spy_stale : Int32) (f_spy_settled : Int32) (F : Nat) (f_texts0_size : Int32) (f_texts0_bytes : Nat → Int32) (f_texts1_size : Int32) (f_texts1_bytes : Nat → Int32) (f_texts2_size : Int32) (f_texts2_bytes : Nat → Int32) (f_stale : Int32) (f_names_size : Int32) (f_names_fault : Int32) (f_names_odds : Nat → Int32) (f_names_lengths : Nat → Int32) (f_names_letters : Nat → Int32) (f_names_alike : Nat → Int32) (f_names_oddsTogether : Nat → Int32) (f_pieces_size : Int32) (f_pieces_fault : Int32) (f_pieces_inside : Nat → Int32) (f_pieces_lengths : Nat → Int32) (f_pieces_letters : Nat → Int32) (f_song_size : Int32) (f_song_fault : Int32) (f_song_letters : Nat → Int32) (f_fitting_pieceCount : Int32) (f_fitting_songFits : Int32) (f_fitting_allFit : Int32) (f_fitting_ordered : Int32) (f_fitting_pieceFits : Nat → Int32) (f_fitting_inOrder : Nat → Int32) (x1 : Int32) (r : Int32) (r_stale : Int32) (r_names_size : Int32) (r_names_fault : Int32) (r_names_odds : Nat → Int32) (r_names_lengths : Nat → Int32) (r_names_letters : Nat → Int32) (r_names_alike : Nat → Int32) (r_names_oddsTogether : Nat → Int32) (r_pieces_size : Int32) (r_pieces_fault : Int32) (r_pieces_inside : Nat → Int32) (r_pieces_lengths : Nat → Int32) (r_pieces_letters : Nat → Int32) (r_song_size : Int32) (r_song_fault : Int32) (r_song_letters : Nat → Int32) (r_fitting_pieceCount : Int32) (r_fitting_songFits : Int32) (r_fitting_allFit : Int32) (r_fitting_ordered : Int32) (r_fitting_pieceFits : Nat → Int32) (r_fitting_inOrder : Nat → Int32) (sz : Nat) (hf : ND_listen F f_texts0_size f_texts0_bytes f_texts1_size f_texts1_bytes f_texts2_size f_texts2_bytes f_stale f_names_size f_names_fault f_names_odds f_names_lengths f_names_letters f_names_alike f_names_oddsTogether f_pieces_size f_pieces_fault f_pieces_inside f_pieces_lengths f_pieces_letters f_song_size f_song_fault f_song_letters f_fitting_pieceCount f_fitting_songFits f_fitting_allFit f_fitting_ordered f_fitting_pieceFits f_fitting_inOrder x1 = some (r, r_stale, r_names_size, r_names_fault, r_names_odds, r_names_lengths, r_names_letters, r_names_alike, r_names_oddsTogether, r_pieces_size, r_pieces_fault, r_pieces_inside, r_pieces_lengths, r_pieces_letters, r_song_size, r_song_fault, r_song_letters, r_fitting_pieceCount, r_fitting_songFits, r_fitting_allFit, r_fitting_ordered, r_fitting_pieceFits, r_fitting_inOrder)) : Met l yX10_listen (WS yX10_listen cX10_listen 4 (some .int)) RM_ND_listen (va_Pc [.ref a_this, .int x1] (PM D ct sz (w_ND_listen ct a_this a_texts a_names a_pieces a_song a_fitting a_deal a_guesses a_wise a_spy a_sheets a_texts0 a_texts1 a_texts2 a_texts0_bytes a_texts1_bytes a_texts2_bytes a_names_odds a_names_lengths a_names_letters a_names_alike a_names_oddsTogether a_pieces_inside a_pieces_lengths a_pieces_letters a_song_letters a_fitting_pieceFits a_fitting_inOrder a_spy_nights f_stale f_finding f_texts0_size f_texts0_bytes f_texts1_size f_texts1_bytes f_texts2_size f_texts2_bytes f_names_size f_names_fault f_names_odds f_names_lengths f_names_letters f_names_alike f_names_oddsTogether f_pieces_size f_pieces_fault f_pieces_inside f_pieces_lengths f_pieces_letters f_song_size f_song_fault f_song_letters f_fitting_pieceCount f_fitting_songFits f_fitting_allFit f_fitting_ordered f_fitting_pieceFits f_fitting_inOrder f_spy_stale f_spy_settled))) (QM D (some (.int r)) (w_ND_listen ct a_this a_texts a_names a_pieces a_song a_fitting a_deal a_guesses a_wise a_spy a_sheets a_texts0 a_texts1 a_texts2 a_texts0_bytes a_texts1_bytes a_texts2_bytes a_names_odds a_names_lengths a_names_letters a_names_alike a_names_oddsTogether a_pieces_inside a_pieces_lengths a_pieces_letters a_song_letters a_fitting_pieceFits a_fitting_inOrder a_spy_nights r_stale f_finding f_texts0_size f_texts0_bytes f_texts1_size f_texts1_bytes f_texts2_size f_texts2_bytes r_names_size r_names_fault r_names_odds r_names_lengths r_names_letters r_names_alike r_names_oddsTogether r_pieces_size r_pieces_fault r_pieces_inside r_pieces_lengths r_pieces_letters r_song_size r_song_fault r_song_letters r_fitting_pieceCount r_fitting_songFits r_fitting_allFit r_fitting_ordered r_fitting_pieceFits r_fitting_inOrder f_spy_stale f_spy_settled) (va_A (w_ND_listen ct a_this a_texts a_names a_pieces a_song a_fitting a_deal a_guesses a_wise a_spy a_sheets a_texts0 a_texts1 a_texts2 a_texts0_bytes a_texts1_bytes a_texts2_bytes a_names_odds a_names_lengths a_names_letters a_names_alike a_names_oddsTogether a_pieces_inside a_pieces_lengths a_pieces_letters a_song_letters a_fitting_pieceFits a_fitting_inOrder a_spy_nights f_stale f_finding f_texts0_size f_texts0_bytes f_texts1_size f_texts1_bytes f_texts2_size f_texts2_bytes f_names_size f_names_fault f_names_odds f_names_lengths f_names_letters f_names_alike f_names_oddsTogether f_pieces_size f_pieces_fault f_pieces_inside f_pieces_lengths f_pieces_letters f_song_size f_song_fault f_song_letters f_fitting_pieceCount f_fitting_songFits f_fitting_allFit f_fitting_ordered f_fitting_pieceFits f_fitting_inOrder f_spy_stale f_spy_settled) sz)) 0 0 (va_A (w_ND_listen ct a_this a_texts a_names a_pieces a_song a_fitting a_deal a_guesses a_wise a_spy a_sheets a_texts0 a_texts1 a_texts2 a_texts0_bytes a_texts1_bytes a_texts2_bytes a_names_odds a_names_lengths a_names_letters a_names_alike a_names_oddsTogether a_pieces_inside a_pieces_lengths a_pieces_letters a_song_letters a_fitting_pieceFits a_fitting_inOrder a_spy_nights f_stale f_finding f_texts0_size f_texts0_bytes f_texts1_size f_texts1_bytes f_texts2_size f_texts2_bytes f_names_size f_names_fault f_names_odds f_names_lengths f_names_letters f_names_alike f_names_oddsTogether f_pieces_size f_pieces_fault f_pieces_inside f_pieces_lengths f_pieces_letters f_song_size f_song_fault f_song_letters f_fitting_pieceCount f_fitting_songFits f_fitting_allFit f_fitting_ordered f_fitting_pieceFits f_fitting_inOrder f_spy_stale f_spy_settled) sz) := by
  refine kMetM yn_yX10_listen rfl (Nat.le_of_ble_eq_true rfl) ?_
  intro p e s m args below meth c A C hA hP hD ls hl
  have hl : lv_has ls 4 [(0, .ref a_this), (1, .int x1)] := hl
  have hS : va_S A s.heap s.heap [] := va_S.rf
  obtain ⟨hx, hb, hr, hml, hown, hts, hlk, hK, hN⟩ := id C
  unfold ND_listen at hf
  refine lv_iload_n hx hb dX10_listen_0 rfl (lv_at hl 1 rfl) ?_
  obtain ⟨v1, hc1, hf⟩ := cb1_some hf
  refine kcRS (As := [.int x1]) (rest := []) (st1 := [.int v1]) C (c_ND_isZeroOrOne l D ct x1 v1 hc1) ⟨rfl, rfl⟩ yn_yX10_isZeroOrOne tw_584 tw_583 ⟨Nat.le_of_ble_eq_true rfl, Nat.le_of_ble_eq_true rfl⟩ ⟨Nat.zero_le _, Nat.zero_le _⟩ hP [] rfl hl.1 rfl rfl (Nat.le_of_ble_eq_true rfl) dX10_listen_1 rfl ?_
  refine lv_if_ne (tgt := 10) hx hb dX10_listen_4 (by decide) (fun hc => ?_) (fun hc => ?_)
  · have hf := kneg hc hf
    refine lv_aload_n hx hb dX10_listen_10 rfl (lv_at hl 0 rfl) ?_
    obtain ⟨f_stale_11, f_names_size_11, f_names_fault_11, f_names_odds_11, f_names_lengths_11, f_names_letters_11, f_names_alike_11, f_names_oddsTogether_11, f_pieces_size_11, f_pieces_fault_11, f_pieces_inside_11, f_pieces_lengths_11, f_pieces_letters_11, f_song_size_11, f_song_fault_11, f_song_letters_11, f_fitting_pieceCount_11, f_fitting_songFits_11, f_fitting_allFit_11, f_fitting_ordered_11, f_fitting_pieceFits_11, f_fitting_inOrder_11, hc11, hf⟩ := cb22_some hf
    refine kcMV (q0 := 0) (ci := 10) (As := []) (rest := []) (st1 := []) (wf := (w_ND_listen ct a_this a_texts a_names a_pieces a_song a_fitting a_deal a_guesses a_wise a_spy a_sheets a_texts0 a_texts1 a_texts2 a_texts0_bytes a_texts1_bytes a_texts2_bytes a_names_odds a_names_lengths a_names_letters a_names_alike a_names_oddsTogether a_pieces_inside a_pieces_lengths a_pieces_letters a_song_letters a_fitting_pieceFits a_fitting_inOrder a_spy_nights f_stale_11 f_finding f_texts0_size f_texts0_bytes f_texts1_size f_texts1_bytes f_texts2_size f_texts2_bytes f_names_size_11 f_names_fault_11 f_names_odds_11 f_names_lengths_11 f_names_letters_11 f_names_alike_11 f_names_oddsTogether_11 f_pieces_size_11 f_pieces_fault_11 f_pieces_inside_11 f_pieces_lengths_11 f_pieces_letters_11 f_song_size_11 f_song_fault_11 f_song_letters_11 f_fitting_pieceCount_11 f_fitting_songFits_11 f_fitting_allFit_11 f_fitting_ordered_11 f_fitting_pieceFits_11 f_fitting_inOrder_11 f_spy_stale f_spy_settled)) C (c_ND_refresh l D ct a_this a_texts a_names a_pieces a_song a_fitting a_deal a_guesses a_wise a_spy a_sheets a_texts0 a_texts1 a_texts2 a_texts0_bytes a_texts1_bytes a_texts2_bytes a_names_odds a_names_lengths a_names_letters a_names_alike a_names_oddsTogether a_pieces_inside a_pieces_lengths a_pieces_letters a_song_letters a_fitting_pieceFits a_fitting_inOrder f_finding F f_texts0_size f_texts0_bytes f_texts1_size f_texts1_bytes f_texts2_size f_texts2_bytes f_stale f_names_size f_names_fault f_names_odds f_names_lengths f_names_letters f_names_alike f_names_oddsTogether f_pieces_size f_pieces_fault f_pieces_inside f_pieces_lengths f_pieces_letters f_song_size f_song_fault f_song_letters f_fitting_pieceCount f_fitting_songFits f_fitting_allFit f_fitting_ordered f_fitting_pieceFits f_fitting_inOrder f_stale_11 f_names_size_11 f_names_fault_11 f_names_odds_11 f_names_lengths_11 f_names_letters_11 f_names_alike_11 f_names_oddsTogether_11 f_pieces_size_11 f_pieces_fault_11 f_pieces_inside_11 f_pieces_lengths_11 f_pieces_letters_11 f_song_size_11 f_song_fault_11 f_song_letters_11 f_fitting_pieceCount_11 f_fitting_songFits_11 f_fitting_allFit_11 f_fitting_ordered_11 f_fitting_pieceFits_11 f_fitting_inOrder_11 _ hc11) ⟨rfl, rfl⟩ yn_yX10_refresh tw_372 tw_1 tw_370 ⟨Nat.le_of_ble_eq_true rfl, Nat.le_of_ble_eq_true rfl⟩ ⟨Nat.zero_le _, Nat.zero_le _⟩ hP hD hS hA [0, 1, 2, 3, 4, 5, 6, 7, 8, 9, 10, 11, 12, 13, 14, 15, 16, 17, 18, 19, 20, 21, 22] [23] [1, 2, 3, 4, 5, 6, 7, 8, 9, 10, 11, 12, 13, 14, 15, 16, 17, 18, 19, 20, 21, 22, 23, 0] rfl rfl rfl rfl rfl (by decide) rfl rfl rfl rfl rfl rfl hl.1 rfl rfl (Nat.le_of_ble_eq_true rfl) dX10_listen_11 rfl (fun H locs hP hD hS => ?_)
    refine lv_aload_n hx hb dX10_listen_14 rfl (lv_at hl 0 rfl) ?_
    refine va_get (ci := 10) (v := .ref a_fitting) (C := RX10) (T := TX10) (N := 12) hx hb hts inX10 hown hK hP 0 rfl rfl 4 (by decide) (hts _ tw_286) (fun _ h9 => h9) rfl dX10_listen_15 ?_
    obtain ⟨v18, hc18, hf⟩ := cb1_some hf
    refine kcRV (q0 := 20) (ci := 1) (As := []) (rest := []) (st1 := [.int v18]) C (c_Fi_byAll l D ct a_fitting a_fitting_pieceFits a_fitting_inOrder f_fitting_pieceCount_11 f_fitting_songFits_11 f_fitting_ordered_11 f_fitting_allFit_11 v18 hc18) ⟨rfl, rfl⟩ yn_yX1_byAll tw_576 tw_577 tw_575 ⟨Nat.le_of_ble_eq_true rfl, Nat.le_of_ble_eq_true rfl⟩ ⟨Nat.zero_le _, Nat.zero_le _⟩ hP [20] rfl rfl rfl rfl hl.1 rfl rfl (Nat.le_of_ble_eq_true rfl) dX10_listen_18 rfl ?_
    refine lv_istore_n (lv' := [(2, .int v18), (0, .ref a_this), (1, .int x1)]) hx hb dX10_listen_21 rfl hl (by decide) rfl (fun ls hl => ?_)
    refine lv_iload_n hx hb dX10_listen_22 rfl (lv_at hl 0 rfl) ?_
    refine lv_if_ne (tgt := 29) hx hb dX10_listen_23 (by decide) (fun hc => ?_) (fun hc => ?_)
    · have hf := kneg hc hf
      refine lv_aload_n hx hb dX10_listen_29 rfl (lv_at hl 1 rfl) ?_
      refine va_get (ci := 10) (v := .ref a_spy) (C := RX10) (T := TX10) (N := 12) hx hb hts inX10 hown hK hP 0 rfl rfl 8 (by decide) (hts _ tw_290) (fun _ h9 => h9) rfl dX10_listen_30 ?_
      refine lv_iload_n hx hb dX10_listen_33 rfl (lv_at hl 0 rfl) ?_
      obtain ⟨v34, hc34, hf⟩ := cb1_some hf
      refine kcRV (q0 := 23) (ci := 7) (As := [.int v18]) (rest := []) (st1 := [.int v34]) C (c_Sp_bestPlace l D ct a_spy a_names a_spy_nights a_names_odds a_names_lengths a_names_letters a_names_alike a_names_oddsTogether f_spy_stale f_spy_settled f_names_size_11 f_names_fault_11 F f_names_alike_11 v18 v34 hc34) ⟨rfl, rfl⟩ yn_yX7_bestPlace tw_740 tw_741 tw_739 ⟨Nat.le_of_ble_eq_true rfl, Nat.le_of_ble_eq_true rfl⟩ ⟨Nat.zero_le _, Nat.zero_le _⟩ hP [23, 8, 12] rfl rfl rfl rfl hl.1 rfl rfl (Nat.le_of_ble_eq_true rfl) dX10_listen_34 rfl ?_
      refine lv_istore_n (lv' := [(3, .int v34), (2, .int v18), (0, .ref a_this), (1, .int x1)]) hx hb dX10_listen_37 rfl hl (by decide) rfl (fun ls hl => ?_)
      refine lv_iload_n hx hb dX10_listen_38 rfl (lv_at hl 3 rfl) ?_
      refine lv_if_ne (tgt := 46) hx hb dX10_listen_39 (by decide) (fun hc => ?_) (fun hc => ?_)
      · have hf := kneg hc hf
        refine lv_aload_n hx hb dX10_listen_46 rfl (lv_at hl 2 rfl) ?_
        refine va_get (ci := 10) (v := .ref a_spy) (C := RX10) (T := TX10) (N := 12) hx hb hts inX10 hown hK hP 0 rfl rfl 8 (by decide) (hts _ tw_290) (fun _ h9 => h9) rfl dX10_listen_47 ?_
        refine lv_iload_n hx hb dX10_listen_50 rfl (lv_at hl 1 rfl) ?_
        refine lv_iload_n hx hb dX10_listen_51 rfl (lv_at hl 0 rfl) ?_
        obtain ⟨v52, hc52, hf⟩ := cb1_some hf
        refine kcRV (q0 := 23) (ci := 7) (As := [.int v18, .int v34]) (rest := []) (st1 := [.int v52]) C (c_Sp_leftAtWorst l D ct a_spy a_names a_spy_nights a_names_odds a_names_lengths a_names_letters a_names_alike a_names_oddsTogether f_spy_stale f_spy_settled f_names_size_11 f_names_fault_11 F f_names_alike_11 v18 v34 v52 hc52) ⟨rfl, rfl⟩ yn_yX7_leftAtWorst tw_744 tw_745 tw_755 ⟨Nat.le_of_ble_eq_true rfl, Nat.le_of_ble_eq_true rfl⟩ ⟨Nat.zero_le _, Nat.zero_le _⟩ hP [23, 8, 12] rfl rfl rfl rfl hl.1 rfl rfl (Nat.le_of_ble_eq_true rfl) dX10_listen_52 rfl ?_
        obtain ⟨e1, e2, e3, e4, e5, e6, e7, e8, e9, e10, e11, e12, e13, e14, e15, e16, e17, e18, e19, e20, e21, e22, e23⟩ := ti23 hf
        subst e1; subst e2; subst e3; subst e4; subst e5; subst e6; subst e7; subst e8; subst e9; subst e10; subst e11; subst e12; subst e13; subst e14; subst e15; subst e16; subst e17; subst e18; subst e19; subst e20; subst e21; subst e22; subst e23
        exact kretM C hP hD hS dX10_listen_55
      · have hf := kpos hc hf
        refine lv_iload_n hx hb dX10_listen_42 rfl (lv_at hl 0 rfl) ?_
        refine lv_goto (tgt := 55) hx hb dX10_listen_43 (by decide) ?_
        obtain ⟨e1, e2, e3, e4, e5, e6, e7, e8, e9, e10, e11, e12, e13, e14, e15, e16, e17, e18, e19, e20, e21, e22, e23⟩ := ti23 hf
        subst e1; subst e2; subst e3; subst e4; subst e5; subst e6; subst e7; subst e8; subst e9; subst e10; subst e11; subst e12; subst e13; subst e14; subst e15; subst e16; subst e17; subst e18; subst e19; subst e20; subst e21; subst e22; subst e23
        exact kretM C hP hD hS dX10_listen_55
    · have hf := kpos hc hf
      refine lv_bipush (v := (-3)) hx hb dX10_listen_26 (by decide) ?_
      obtain ⟨e1, e2, e3, e4, e5, e6, e7, e8, e9, e10, e11, e12, e13, e14, e15, e16, e17, e18, e19, e20, e21, e22, e23⟩ := ti23 hf
      subst e1; subst e2; subst e3; subst e4; subst e5; subst e6; subst e7; subst e8; subst e9; subst e10; subst e11; subst e12; subst e13; subst e14; subst e15; subst e16; subst e17; subst e18; subst e19; subst e20; subst e21; subst e22; subst e23
      exact kretM C hP hD hS dX10_listen_28
  · have hf := kpos hc hf
    refine lv_bipush (v := (-2)) hx hb dX10_listen_7 (by decide) ?_
    obtain ⟨e1, e2, e3, e4, e5, e6, e7, e8, e9, e10, e11, e12, e13, e14, e15, e16, e17, e18, e19, e20, e21, e22, e23⟩ := ti23 hf
    subst e1; subst e2; subst e3; subst e4; subst e5; subst e6; subst e7; subst e8; subst e9; subst e10; subst e11; subst e12; subst e13; subst e14; subst e15; subst e16; subst e17; subst e18; subst e19; subst e20; subst e21; subst e22; subst e23
    exact kretM C hP hD hS dX10_listen_9
def RM_Sp_nightsBehind : Room := { frames := 1, cells := 0, slots := 0, locals := 22 }
set_option maxHeartbeats 4000000 in
set_option maxRecDepth 100000 in
theorem t_Sp_nightsBehind_b5 {p : Program} {l : Launch} {e : Env} {s : State} {m : MethodId} {args : Array Value} {below : List Frame} {meth : Method} {c : Code} {D : va_G} {ct : Nat → ClassId} (C : CX p s m args meth c RX7 cX7_nightsBehind 6 (some .int) D ct) (a_this a_names a_nights a_names_odds a_names_lengths a_names_letters a_names_alike a_names_oddsTogether : Nat) (f_stale : Int32) (f_settled : Int32) (f_names_size : Int32) (f_names_fault : Int32) (F : Nat) (f_names_alike : Nat → Int32) (f_nights : Nat → Int32) (x1 : Int32) (x2 : Int32) (r : Int32) (rec5 : Int32 → Int32 → Option Int32) (hr5 : ∀ (x3 : Int32) (x4 : Int32), rec5 x3 x4 = some r → va_P D vwCl (w_Sp_nightsBehind ct a_this a_names a_nights a_names_odds a_names_lengths a_names_letters a_names_alike a_names_oddsTogether f_stale f_settled f_names_size f_names_fault f_names_alike f_nights) s.heap → ∀ ls : Array Slot, lv_has ls 6 [(0, .ref a_this), (1, .int x1), (2, .int x2), (3, .int x3), (4, .int x4)] → W p l e RM_Sp_nightsBehind s m args below meth c s.heap [] 0 0 (MQ below (QR (some (.int r))) args s 0 0 (fun _ => False)) (F0 m 5 ls [])) : ∀ (x3 : Int32) (x4 : Int32), Sp_nightsBehind_b5 F f_names_alike f_nights x1 x2 rec5 x3 x4 = some r → va_P D vwCl (w_Sp_nightsBehind ct a_this a_names a_nights a_names_odds a_names_lengths a_names_letters a_names_alike a_names_oddsTogether f_stale f_settled f_names_size f_names_fault f_names_alike f_nights) s.heap → ∀ ls : Array Slot, lv_has ls 6 [(0, .ref a_this), (1, .int x1), (2, .int x2), (3, .int x3), (4, .int x4)] → W p l e RM_Sp_nightsBehind s m args below meth c s.heap [] 0 0 (MQ below (QR (some (.int r))) args s 0 0 (fun _ => False)) (F0 m 5 ls []) := by
  obtain ⟨hx, hb, hr, hml, hown, hts, hlk, hK, hN⟩ := id C
  intro x3 x4 hf hP ls hl
  unfold Sp_nightsBehind_b5 at hf
  refine lv_iload hx hb dX7_nightsBehind_5 (lv_at hl 4 rfl) ?_
  refine lv_bipush (v := 6) hx hb dX7_nightsBehind_7 (by decide) ?_
  refine lv_icmp_ge (tgt := 53) hx hb dX7_nightsBehind_9 (by decide) (fun hc => ?_) (fun hc => ?_)
  · have hf := kpos hc hf
    refine lv_iload_n hx hb dX7_nightsBehind_53 rfl (lv_at hl 3 rfl) ?_
    have e1 := Option.some.inj hf
    subst e1
    exact kretR C dX7_nightsBehind_54
  · have hf := kneg hc hf
    refine lv_iload_n hx hb dX7_nightsBehind_12 rfl (lv_at hl 2 rfl) ?_
    refine lv_aload_n hx hb dX7_nightsBehind_13 rfl (lv_at hl 0 rfl) ?_
    refine va_get (ci := 7) (v := .ref a_names) (C := RX7) (T := TX7) (N := 4) hx hb hts inX7 hown hK hP 0 rfl rfl 0 (by decide) (hts _ tw_252) (fun _ h9 => h9) rfl dX7_nightsBehind_14 ?_
    refine lv_iload_n hx hb dX7_nightsBehind_17 rfl (lv_at hl 1 rfl) ?_
    refine lv_iload hx hb dX7_nightsBehind_18 (lv_at hl 4 rfl) ?_
    obtain ⟨v20, hc20, hf⟩ := cb1_some hf
    refine kcRV (q0 := 1) (ci := 3) (As := [.int x1, .int x4]) (rest := [.int x2]) (st1 := [.int v20, .int x2]) C (c_Na_soundingAt l D ct a_names a_names_odds a_names_lengths a_names_letters a_names_alike a_names_oddsTogether f_names_size f_names_fault f_names_alike x1 x4 v20 hc20) ⟨rfl, rfl⟩ yn_yX3_soundingAt tw_625 tw_626 tw_747 ⟨Nat.le_of_ble_eq_true rfl, Nat.le_of_ble_eq_true rfl⟩ ⟨Nat.zero_le _, Nat.zero_le _⟩ hP [1, 2] rfl rfl rfl rfl hl.1 rfl rfl (Nat.le_of_ble_eq_true rfl) dX7_nightsBehind_20 rfl ?_
    refine lv_iand hx hb dX7_nightsBehind_23 ?_
    refine lv_istore (lv' := [(5, .int (x2 &&& v20)), (0, .ref a_this), (1, .int x1), (2, .int x2), (3, .int x3), (4, .int x4)]) hx hb dX7_nightsBehind_24 hl (by decide) rfl (fun ls hl => ?_)
    refine lv_iload hx hb dX7_nightsBehind_26 (lv_at hl 0 rfl) ?_
    refine lv_iload_n hx hb dX7_nightsBehind_28 rfl (lv_at hl 3 rfl) ?_
    refine lv_icmp_ne (tgt := 35) hx hb dX7_nightsBehind_29 (by decide) (fun hc => ?_) (fun hc => ?_)
    · have hf := kneg hc hf
      refine lv_iload_n hx hb dX7_nightsBehind_35 rfl (lv_at hl 4 rfl) ?_
      refine lv_aload_n hx hb dX7_nightsBehind_36 rfl (lv_at hl 1 rfl) ?_
      refine va_get (ci := 7) (v := .ref a_nights) (C := RX7) (T := TX7) (N := 4) hx hb hts inX7 hown hK hP 0 rfl rfl 1 (by decide) (hts _ tw_253) (fun _ h9 => h9) rfl dX7_nightsBehind_37 ?_
      refine lv_iload hx hb dX7_nightsBehind_40 (lv_at hl 0 rfl) ?_
      obtain ⟨hin, hf⟩ := rd_some hf
      generalize ev42 : f_nights (Int32.toNatClampNeg (x2 &&& v20)) = v42 at hf
      refine kiald hx hb hK hP 3 0 rfl rfl hin ev42 dX7_nightsBehind_42 ?_
      refine kmmax hx hb (hml.trans hl.1.symm) hown (hts _ tw_754) (hts _ tw_102) (hts _ tw_72) (hts _ tw_103) (Nat.le_of_ble_eq_true rfl) (Nat.le_of_ble_eq_true rfl) (Nat.zero_le _) (Nat.zero_le _) dX7_nightsBehind_43 ?_
      refine lv_istore_n (lv' := [(3, .int (mxI x3 v42)), (5, .int (x2 &&& v20)), (0, .ref a_this), (1, .int x1), (2, .int x2), (4, .int x4)]) hx hb dX7_nightsBehind_46 rfl hl (by decide) rfl (fun ls hl => ?_)
      refine lv_iinc (v := x4 + 1) (lv' := [(4, .int (x4 + 1)), (3, .int (mxI x3 v42)), (5, .int (x2 &&& v20)), (0, .ref a_this), (1, .int x1), (2, .int x2)]) hx hb dX7_nightsBehind_47 hl (k := 5) rfl rfl (by decide) rfl (fun ls hl => ?_)
      refine lv_goto (tgt := 5) hx hb dX7_nightsBehind_50 (by decide) ?_
      exact hr5 (mxI x3 v42) (x4 + 1) hf hP _ (lv_sub hl [3, 4, 5, 1, 0] rfl)
    · have hf := kpos hc hf
      refine lv_bipush (v := 10) hx hb dX7_nightsBehind_32 (by decide) ?_
      have e1 := Option.some.inj hf
      subst e1
      exact kretR C dX7_nightsBehind_34
set_option maxHeartbeats 4000000 in
set_option maxRecDepth 100000 in
theorem t_Sp_nightsBehind_l5 {p : Program} {l : Launch} {e : Env} {s : State} {m : MethodId} {args : Array Value} {below : List Frame} {meth : Method} {c : Code} {D : va_G} {ct : Nat → ClassId} (C : CX p s m args meth c RX7 cX7_nightsBehind 6 (some .int) D ct) (a_this a_names a_nights a_names_odds a_names_lengths a_names_letters a_names_alike a_names_oddsTogether : Nat) (f_stale : Int32) (f_settled : Int32) (f_names_size : Int32) (f_names_fault : Int32) (F : Nat) (f_names_alike : Nat → Int32) (f_nights : Nat → Int32) (x1 : Int32) (x2 : Int32) (r : Int32) : ∀ (n : Nat) (x3 : Int32) (x4 : Int32), Sp_nightsBehind_l5 F f_names_alike f_nights x1 x2 n x3 x4 = some r → va_P D vwCl (w_Sp_nightsBehind ct a_this a_names a_nights a_names_odds a_names_lengths a_names_letters a_names_alike a_names_oddsTogether f_stale f_settled f_names_size f_names_fault f_names_alike f_nights) s.heap → ∀ ls : Array Slot, lv_has ls 6 [(0, .ref a_this), (1, .int x1), (2, .int x2), (3, .int x3), (4, .int x4)] → W p l e RM_Sp_nightsBehind s m args below meth c s.heap [] 0 0 (MQ below (QR (some (.int r))) args s 0 0 (fun _ => False)) (F0 m 5 ls []) := by
  intro n
  induction n with
  | zero =>
    intro x3 x4 hf
    exact absurd hf (by simp [Sp_nightsBehind_l5])
  | succ n ih =>
    intro x3 x4 hf
    exact t_Sp_nightsBehind_b5 C a_this a_names a_nights a_names_odds a_names_lengths a_names_letters a_names_alike a_names_oddsTogether f_stale f_settled f_names_size f_names_fault F f_names_alike f_nights x1 x2 r (Sp_nightsBehind_l5 F f_names_alike f_nights x1 x2 n) ih x3 x4 hf
set_option maxHeartbeats 4000000 in
set_option maxRecDepth 100000 in
theorem c_Sp_nightsBehind (l : Launch) (D : va_G) (ct : Nat → ClassId) (a_this a_names a_nights a_names_odds a_names_lengths a_names_letters a_names_alike a_names_oddsTogether : Nat) (f_stale : Int32) (f_settled : Int32) (f_names_size : Int32) (f_names_fault : Int32) (F : Nat) (f_names_alike : Nat → Int32) (f_nights : Nat → Int32) (x1 : Int32) (x2 : Int32) (r : Int32) (hf : Sp_nightsBehind F f_names_alike f_nights x1 x2 = some r) : Met l yX7_nightsBehind (WS yX7_nightsBehind cX7_nightsBehind 6 (some .int)) RM_Sp_nightsBehind (va_Pc [.ref a_this, .int x1, .int x2] (PR D ct (w_Sp_nightsBehind ct a_this a_names a_nights a_names_odds a_names_lengths a_names_letters a_names_alike a_names_oddsTogether f_stale f_settled f_names_size f_names_fault f_names_alike f_nights))) (QR (some (.int r))) 0 0 (fun _ => False) := by
  refine kMetR yn_yX7_nightsBehind rfl (Nat.le_of_ble_eq_true rfl) ?_
  intro p e s m args below meth c C hP ls hl
  have hl : lv_has ls 6 [(0, .ref a_this), (1, .int x1), (2, .int x2)] := hl
  obtain ⟨hx, hb, hr, hml, hown, hts, hlk, hK, hN⟩ := id C
  unfold Sp_nightsBehind at hf
  refine lv_iconst (v := 0) hx hb dX7_nightsBehind_0 (by decide) ?_
  refine lv_istore_n (lv' := [(3, .int 0), (0, .ref a_this), (1, .int x1), (2, .int x2)]) hx hb dX7_nightsBehind_1 rfl hl (by decide) rfl (fun ls hl => ?_)
  refine lv_iconst (v := (-1)) hx hb dX7_nightsBehind_2 (by decide) ?_
  refine lv_istore (lv' := [(4, .int (-1)), (3, .int 0), (0, .ref a_this), (1, .int x1), (2, .int x2)]) hx hb dX7_nightsBehind_3 hl (by decide) rfl (fun ls hl => ?_)
  exact t_Sp_nightsBehind_l5 C a_this a_names a_nights a_names_odds a_names_lengths a_names_letters a_names_alike a_names_oddsTogether f_stale f_settled f_names_size f_names_fault F f_names_alike f_nights x1 x2 r F 0 (-1) hf hP _ (lv_sub hl [2, 3, 4, 1, 0] rfl)
def RM_Sp_fewestNights : Room := { frames := 2, cells := 0, slots := 0, locals := 47 }
set_option maxHeartbeats 4000000 in
set_option maxRecDepth 100000 in
theorem t_Sp_fewestNights_b46 {p : Program} {l : Launch} {e : Env} {s : State} {m : MethodId} {args : Array Value} {below : List Frame} {meth : Method} {c : Code} {D : va_G} {ct : Nat → ClassId} (C : CX p s m args meth c RX7 cX7_fewestNights 4 (some .int) D ct) (a_this a_names a_nights a_names_odds a_names_lengths a_names_letters a_names_alike a_names_oddsTogether : Nat) (f_stale : Int32) (f_settled : Int32) (f_names_size : Int32) (f_names_fault : Int32) (F : Nat) (f_names_alike : Nat → Int32) (f_nights : Nat → Int32) (x1 : Int32) (r : Int32) (rec46 : Int32 → Int32 → Option Int32) (hr46 : ∀ (x2 : Int32) (x3 : Int32), rec46 x2 x3 = some r → va_P D vwCl (w_Sp_fewestNights ct a_this a_names a_nights a_names_odds a_names_lengths a_names_letters a_names_alike a_names_oddsTogether f_stale f_settled f_names_size f_names_fault f_names_alike f_nights) s.heap → ∀ ls : Array Slot, lv_has ls 4 [(0, .ref a_this), (1, .int x1), (2, .int x2), (3, .int x3)] → W p l e RM_Sp_fewestNights s m args below meth c s.heap [] 0 0 (MQ below (QR (some (.int r))) args s 0 0 (fun _ => False)) (F0 m 46 ls [])) : ∀ (x2 : Int32) (x3 : Int32), Sp_fewestNights_b46 F f_names_alike f_nights x1 rec46 x2 x3 = some r → va_P D vwCl (w_Sp_fewestNights ct a_this a_names a_nights a_names_odds a_names_lengths a_names_letters a_names_alike a_names_oddsTogether f_stale f_settled f_names_size f_names_fault f_names_alike f_nights) s.heap → ∀ ls : Array Slot, lv_has ls 4 [(0, .ref a_this), (1, .int x1), (2, .int x2), (3, .int x3)] → W p l e RM_Sp_fewestNights s m args below meth c s.heap [] 0 0 (MQ below (QR (some (.int r))) args s 0 0 (fun _ => False)) (F0 m 46 ls []) := by
  obtain ⟨hx, hb, hr, hml, hown, hts, hlk, hK, hN⟩ := id C
  intro x2 x3 hf hP ls hl
  unfold Sp_fewestNights_b46 at hf
  refine lv_iload_n hx hb dX7_fewestNights_46 rfl (lv_at hl 3 rfl) ?_
  refine lv_bipush (v := 6) hx hb dX7_fewestNights_47 (by decide) ?_
  refine lv_icmp_ge (tgt := 71) hx hb dX7_fewestNights_49 (by decide) (fun hc => ?_) (fun hc => ?_)
  · have hf := kpos hc hf
    refine lv_iload_n hx hb dX7_fewestNights_71 rfl (lv_at hl 2 rfl) ?_
    have e1 := Option.some.inj hf
    subst e1
    exact kretR C dX7_fewestNights_72
  · have hf := kneg hc hf
    refine lv_iload_n hx hb dX7_fewestNights_52 rfl (lv_at hl 2 rfl) ?_
    refine lv_iconst (v := 1) hx hb dX7_fewestNights_53 (by decide) ?_
    refine lv_aload_n hx hb dX7_fewestNights_54 rfl (lv_at hl 0 rfl) ?_
    refine lv_iload_n hx hb dX7_fewestNights_55 rfl (lv_at hl 3 rfl) ?_
    refine lv_iload_n hx hb dX7_fewestNights_56 rfl (lv_at hl 1 rfl) ?_
    obtain ⟨v57, hc57, hf⟩ := cb1_some hf
    refine kcRV (q0 := 0) (ci := 7) (As := [.int x3, .int x1]) (rest := [.int 1, .int x2]) (st1 := [.int v57, .int 1, .int x2]) C (c_Sp_nightsBehind l D ct a_this a_names a_nights a_names_odds a_names_lengths a_names_letters a_names_alike a_names_oddsTogether f_stale f_settled f_names_size f_names_fault F f_names_alike f_nights x3 x1 v57 hc57) ⟨rfl, rfl⟩ yn_yX7_nightsBehind tw_775 tw_18 tw_773 ⟨Nat.le_of_ble_eq_true rfl, Nat.le_of_ble_eq_true rfl⟩ ⟨Nat.zero_le _, Nat.zero_le _⟩ hP [0, 1, 2, 3] rfl rfl rfl rfl hl.1 rfl rfl (Nat.le_of_ble_eq_true rfl) dX7_fewestNights_57 rfl ?_
    refine lv_iadd hx hb dX7_fewestNights_60 ?_
    refine kmmin hx hb (hml.trans hl.1.symm) hown (hts _ tw_772) (hts _ tw_430) (hts _ tw_72) (hts _ tw_431) (Nat.le_of_ble_eq_true rfl) (Nat.le_of_ble_eq_true rfl) (Nat.zero_le _) (Nat.zero_le _) dX7_fewestNights_61 ?_
    refine lv_istore_n (lv' := [(2, .int (mnI x2 (1 + v57))), (0, .ref a_this), (1, .int x1), (3, .int x3)]) hx hb dX7_fewestNights_64 rfl hl (by decide) rfl (fun ls hl => ?_)
    refine lv_iinc (v := x3 + 1) (lv' := [(3, .int (x3 + 1)), (2, .int (mnI x2 (1 + v57))), (0, .ref a_this), (1, .int x1)]) hx hb dX7_fewestNights_65 hl (k := 3) rfl rfl (by decide) rfl (fun ls hl => ?_)
    refine lv_goto (tgt := 46) hx hb dX7_fewestNights_68 (by decide) ?_
    exact hr46 (mnI x2 (1 + v57)) (x3 + 1) hf hP _ (lv_sub hl [2, 3, 1, 0] rfl)
set_option maxHeartbeats 4000000 in
set_option maxRecDepth 100000 in
theorem t_Sp_fewestNights_l46 {p : Program} {l : Launch} {e : Env} {s : State} {m : MethodId} {args : Array Value} {below : List Frame} {meth : Method} {c : Code} {D : va_G} {ct : Nat → ClassId} (C : CX p s m args meth c RX7 cX7_fewestNights 4 (some .int) D ct) (a_this a_names a_nights a_names_odds a_names_lengths a_names_letters a_names_alike a_names_oddsTogether : Nat) (f_stale : Int32) (f_settled : Int32) (f_names_size : Int32) (f_names_fault : Int32) (F : Nat) (f_names_alike : Nat → Int32) (f_nights : Nat → Int32) (x1 : Int32) (r : Int32) : ∀ (n : Nat) (x2 : Int32) (x3 : Int32), Sp_fewestNights_l46 F f_names_alike f_nights x1 n x2 x3 = some r → va_P D vwCl (w_Sp_fewestNights ct a_this a_names a_nights a_names_odds a_names_lengths a_names_letters a_names_alike a_names_oddsTogether f_stale f_settled f_names_size f_names_fault f_names_alike f_nights) s.heap → ∀ ls : Array Slot, lv_has ls 4 [(0, .ref a_this), (1, .int x1), (2, .int x2), (3, .int x3)] → W p l e RM_Sp_fewestNights s m args below meth c s.heap [] 0 0 (MQ below (QR (some (.int r))) args s 0 0 (fun _ => False)) (F0 m 46 ls []) := by
  intro n
  induction n with
  | zero =>
    intro x2 x3 hf
    exact absurd hf (by simp [Sp_fewestNights_l46])
  | succ n ih =>
    intro x2 x3 hf
    exact t_Sp_fewestNights_b46 C a_this a_names a_nights a_names_odds a_names_lengths a_names_letters a_names_alike a_names_oddsTogether f_stale f_settled f_names_size f_names_fault F f_names_alike f_nights x1 r (Sp_fewestNights_l46 F f_names_alike f_nights x1 n) ih x2 x3 hf
set_option maxHeartbeats 4000000 in
set_option maxRecDepth 100000 in
theorem t_Sp_fewestNights_b44 {p : Program} {l : Launch} {e : Env} {s : State} {m : MethodId} {args : Array Value} {below : List Frame} {meth : Method} {c : Code} {D : va_G} {ct : Nat → ClassId} (C : CX p s m args meth c RX7 cX7_fewestNights 4 (some .int) D ct) (a_this a_names a_nights a_names_odds a_names_lengths a_names_letters a_names_alike a_names_oddsTogether : Nat) (f_stale : Int32) (f_settled : Int32) (f_names_size : Int32) (f_names_fault : Int32) (F : Nat) (f_names_alike : Nat → Int32) (f_nights : Nat → Int32) (x1 : Int32) (r : Int32) : ∀ (x2 : Int32), Sp_fewestNights_b44 F f_names_alike f_nights x1 x2 = some r → va_P D vwCl (w_Sp_fewestNights ct a_this a_names a_nights a_names_odds a_names_lengths a_names_letters a_names_alike a_names_oddsTogether f_stale f_settled f_names_size f_names_fault f_names_alike f_nights) s.heap → ∀ ls : Array Slot, lv_has ls 4 [(0, .ref a_this), (1, .int x1), (2, .int x2)] → W p l e RM_Sp_fewestNights s m args below meth c s.heap [] 0 0 (MQ below (QR (some (.int r))) args s 0 0 (fun _ => False)) (F0 m 44 ls []) := by
  obtain ⟨hx, hb, hr, hml, hown, hts, hlk, hK, hN⟩ := id C
  intro x2 hf hP ls hl
  unfold Sp_fewestNights_b44 at hf
  refine lv_iconst (v := 0) hx hb dX7_fewestNights_44 (by decide) ?_
  refine lv_istore_n (lv' := [(3, .int 0), (0, .ref a_this), (1, .int x1), (2, .int x2)]) hx hb dX7_fewestNights_45 rfl hl (by decide) rfl (fun ls hl => ?_)
  exact t_Sp_fewestNights_l46 C a_this a_names a_nights a_names_odds a_names_lengths a_names_letters a_names_alike a_names_oddsTogether f_stale f_settled f_names_size f_names_fault F f_names_alike f_nights x1 r F x2 0 hf hP _ (lv_sub hl [1, 2, 3, 0] rfl)
set_option maxHeartbeats 4000000 in
set_option maxRecDepth 100000 in
theorem t_Sp_fewestNights_b38 {p : Program} {l : Launch} {e : Env} {s : State} {m : MethodId} {args : Array Value} {below : List Frame} {meth : Method} {c : Code} {D : va_G} {ct : Nat → ClassId} (C : CX p s m args meth c RX7 cX7_fewestNights 4 (some .int) D ct) (a_this a_names a_nights a_names_odds a_names_lengths a_names_letters a_names_alike a_names_oddsTogether : Nat) (f_stale : Int32) (f_settled : Int32) (f_names_size : Int32) (f_names_fault : Int32) (F : Nat) (f_names_alike : Nat → Int32) (f_nights : Nat → Int32) (x1 : Int32) (r : Int32) (rec5 : Int32 → Int32 → Option Int32) (hr5 : ∀ (x2 : Int32) (x3 : Int32), rec5 x2 x3 = some r → va_P D vwCl (w_Sp_fewestNights ct a_this a_names a_nights a_names_odds a_names_lengths a_names_letters a_names_alike a_names_oddsTogether f_stale f_settled f_names_size f_names_fault f_names_alike f_nights) s.heap → ∀ ls : Array Slot, lv_has ls 4 [(0, .ref a_this), (1, .int x1), (2, .int x2), (3, .int x3)] → W p l e RM_Sp_fewestNights s m args below meth c s.heap [] 0 0 (MQ below (QR (some (.int r))) args s 0 0 (fun _ => False)) (F0 m 5 ls [])) : ∀ (x2 : Int32) (x3 : Int32), Sp_fewestNights_b38 F f_names_alike f_nights x1 rec5 x2 x3 = some r → va_P D vwCl (w_Sp_fewestNights ct a_this a_names a_nights a_names_odds a_names_lengths a_names_letters a_names_alike a_names_oddsTogether f_stale f_settled f_names_size f_names_fault f_names_alike f_nights) s.heap → ∀ ls : Array Slot, lv_has ls 4 [(0, .ref a_this), (1, .int x1), (2, .int x2), (3, .int x3)] → W p l e RM_Sp_fewestNights s m args below meth c s.heap [] 0 0 (MQ below (QR (some (.int r))) args s 0 0 (fun _ => False)) (F0 m 38 ls []) := by
  obtain ⟨hx, hb, hr, hml, hown, hts, hlk, hK, hN⟩ := id C
  intro x2 x3 hf hP ls hl
  unfold Sp_fewestNights_b38 at hf
  refine lv_iinc (v := x3 + 1) (lv' := [(3, .int (x3 + 1)), (0, .ref a_this), (1, .int x1), (2, .int x2)]) hx hb dX7_fewestNights_38 hl (k := 3) rfl rfl (by decide) rfl (fun ls hl => ?_)
  refine lv_goto (tgt := 5) hx hb dX7_fewestNights_41 (by decide) ?_
  exact hr5 x2 (x3 + 1) hf hP _ (lv_sub hl [1, 2, 3, 0] rfl)
set_option maxHeartbeats 4000000 in
set_option maxRecDepth 100000 in
theorem t_Sp_fewestNights_b5 {p : Program} {l : Launch} {e : Env} {s : State} {m : MethodId} {args : Array Value} {below : List Frame} {meth : Method} {c : Code} {D : va_G} {ct : Nat → ClassId} (C : CX p s m args meth c RX7 cX7_fewestNights 4 (some .int) D ct) (a_this a_names a_nights a_names_odds a_names_lengths a_names_letters a_names_alike a_names_oddsTogether : Nat) (f_stale : Int32) (f_settled : Int32) (f_names_size : Int32) (f_names_fault : Int32) (F : Nat) (f_names_alike : Nat → Int32) (f_nights : Nat → Int32) (x1 : Int32) (r : Int32) (rec5 : Int32 → Int32 → Option Int32) (hr5 : ∀ (x2 : Int32) (x3 : Int32), rec5 x2 x3 = some r → va_P D vwCl (w_Sp_fewestNights ct a_this a_names a_nights a_names_odds a_names_lengths a_names_letters a_names_alike a_names_oddsTogether f_stale f_settled f_names_size f_names_fault f_names_alike f_nights) s.heap → ∀ ls : Array Slot, lv_has ls 4 [(0, .ref a_this), (1, .int x1), (2, .int x2), (3, .int x3)] → W p l e RM_Sp_fewestNights s m args below meth c s.heap [] 0 0 (MQ below (QR (some (.int r))) args s 0 0 (fun _ => False)) (F0 m 5 ls [])) : ∀ (x2 : Int32) (x3 : Int32), Sp_fewestNights_b5 F f_names_alike f_nights x1 rec5 x2 x3 = some r → va_P D vwCl (w_Sp_fewestNights ct a_this a_names a_nights a_names_odds a_names_lengths a_names_letters a_names_alike a_names_oddsTogether f_stale f_settled f_names_size f_names_fault f_names_alike f_nights) s.heap → ∀ ls : Array Slot, lv_has ls 4 [(0, .ref a_this), (1, .int x1), (2, .int x2), (3, .int x3)] → W p l e RM_Sp_fewestNights s m args below meth c s.heap [] 0 0 (MQ below (QR (some (.int r))) args s 0 0 (fun _ => False)) (F0 m 5 ls []) := by
  obtain ⟨hx, hb, hr, hml, hown, hts, hlk, hK, hN⟩ := id C
  intro x2 x3 hf hP ls hl
  unfold Sp_fewestNights_b5 at hf
  refine lv_iload_n hx hb dX7_fewestNights_5 rfl (lv_at hl 3 rfl) ?_
  refine lv_bipush (v := 10) hx hb dX7_fewestNights_6 (by decide) ?_
  refine lv_icmp_ge (tgt := 44) hx hb dX7_fewestNights_8 (by decide) (fun hc => ?_) (fun hc => ?_)
  · have hf := kpos hc hf
    exact t_Sp_fewestNights_b44 C a_this a_names a_nights a_names_odds a_names_lengths a_names_letters a_names_alike a_names_oddsTogether f_stale f_settled f_names_size f_names_fault F f_names_alike f_nights x1 r x2 hf hP _ (lv_sub hl [0, 1, 2] rfl)
  · have hf := kneg hc hf
    refine lv_iload_n hx hb dX7_fewestNights_11 rfl (lv_at hl 1 rfl) ?_
    refine lv_iconst (v := 1) hx hb dX7_fewestNights_12 (by decide) ?_
    refine lv_iload_n hx hb dX7_fewestNights_13 rfl (lv_at hl 3 rfl) ?_
    refine lv_ishl hx hb dX7_fewestNights_14 ?_
    refine lv_iand hx hb dX7_fewestNights_15 ?_
    refine lv_if_eq (tgt := 38) hx hb dX7_fewestNights_16 (by decide) (fun hc => ?_) (fun hc => ?_)
    · have hf := kpos hc hf
      exact t_Sp_fewestNights_b38 C a_this a_names a_nights a_names_odds a_names_lengths a_names_letters a_names_alike a_names_oddsTogether f_stale f_settled f_names_size f_names_fault F f_names_alike f_nights x1 r rec5 hr5 x2 x3 hf hP _ (lv_sub hl [0, 1, 2, 3] rfl)
    · have hf := kneg hc hf
      refine lv_iload_n hx hb dX7_fewestNights_19 rfl (lv_at hl 2 rfl) ?_
      refine lv_iconst (v := 1) hx hb dX7_fewestNights_20 (by decide) ?_
      refine lv_aload_n hx hb dX7_fewestNights_21 rfl (lv_at hl 0 rfl) ?_
      refine va_get (ci := 7) (v := .ref a_nights) (C := RX7) (T := TX7) (N := 4) hx hb hts inX7 hown hK hP 0 rfl rfl 1 (by decide) (hts _ tw_253) (fun _ h9 => h9) rfl dX7_fewestNights_22 ?_
      refine lv_iload_n hx hb dX7_fewestNights_25 rfl (lv_at hl 1 rfl) ?_
      refine lv_iconst (v := 1) hx hb dX7_fewestNights_26 (by decide) ?_
      refine lv_iload_n hx hb dX7_fewestNights_27 rfl (lv_at hl 3 rfl) ?_
      refine lv_ishl hx hb dX7_fewestNights_28 ?_
      refine lv_iconst (v := (-1)) hx hb dX7_fewestNights_29 (by decide) ?_
      refine lv_ixor hx hb dX7_fewestNights_30 ?_
      refine lv_iand hx hb dX7_fewestNights_31 ?_
      obtain ⟨hin, hf⟩ := rd_some hf
      generalize ev32 : f_nights (Int32.toNatClampNeg (x1 &&& (((1 : Int32) <<< (x3 &&& 31)) ^^^ (-1)))) = v32 at hf
      refine kiald hx hb hK hP 3 0 rfl rfl hin ev32 dX7_fewestNights_32 ?_
      refine lv_iadd hx hb dX7_fewestNights_33 ?_
      refine kmmin hx hb (hml.trans hl.1.symm) hown (hts _ tw_772) (hts _ tw_430) (hts _ tw_72) (hts _ tw_431) (Nat.le_of_ble_eq_true rfl) (Nat.le_of_ble_eq_true rfl) (Nat.zero_le _) (Nat.zero_le _) dX7_fewestNights_34 ?_
      refine lv_istore_n (lv' := [(2, .int (mnI x2 (1 + v32))), (0, .ref a_this), (1, .int x1), (3, .int x3)]) hx hb dX7_fewestNights_37 rfl hl (by decide) rfl (fun ls hl => ?_)
      exact t_Sp_fewestNights_b38 C a_this a_names a_nights a_names_odds a_names_lengths a_names_letters a_names_alike a_names_oddsTogether f_stale f_settled f_names_size f_names_fault F f_names_alike f_nights x1 r rec5 hr5 (mnI x2 (1 + v32)) x3 hf hP _ (lv_sub hl [1, 2, 0, 3] rfl)
set_option maxHeartbeats 4000000 in
set_option maxRecDepth 100000 in
theorem t_Sp_fewestNights_l5 {p : Program} {l : Launch} {e : Env} {s : State} {m : MethodId} {args : Array Value} {below : List Frame} {meth : Method} {c : Code} {D : va_G} {ct : Nat → ClassId} (C : CX p s m args meth c RX7 cX7_fewestNights 4 (some .int) D ct) (a_this a_names a_nights a_names_odds a_names_lengths a_names_letters a_names_alike a_names_oddsTogether : Nat) (f_stale : Int32) (f_settled : Int32) (f_names_size : Int32) (f_names_fault : Int32) (F : Nat) (f_names_alike : Nat → Int32) (f_nights : Nat → Int32) (x1 : Int32) (r : Int32) : ∀ (n : Nat) (x2 : Int32) (x3 : Int32), Sp_fewestNights_l5 F f_names_alike f_nights x1 n x2 x3 = some r → va_P D vwCl (w_Sp_fewestNights ct a_this a_names a_nights a_names_odds a_names_lengths a_names_letters a_names_alike a_names_oddsTogether f_stale f_settled f_names_size f_names_fault f_names_alike f_nights) s.heap → ∀ ls : Array Slot, lv_has ls 4 [(0, .ref a_this), (1, .int x1), (2, .int x2), (3, .int x3)] → W p l e RM_Sp_fewestNights s m args below meth c s.heap [] 0 0 (MQ below (QR (some (.int r))) args s 0 0 (fun _ => False)) (F0 m 5 ls []) := by
  intro n
  induction n with
  | zero =>
    intro x2 x3 hf
    exact absurd hf (by simp [Sp_fewestNights_l5])
  | succ n ih =>
    intro x2 x3 hf
    exact t_Sp_fewestNights_b5 C a_this a_names a_nights a_names_odds a_names_lengths a_names_letters a_names_alike a_names_oddsTogether f_stale f_settled f_names_size f_names_fault F f_names_alike f_nights x1 r (Sp_fewestNights_l5 F f_names_alike f_nights x1 n) ih x2 x3 hf
set_option maxHeartbeats 4000000 in
set_option maxRecDepth 100000 in
theorem c_Sp_fewestNights (l : Launch) (D : va_G) (ct : Nat → ClassId) (a_this a_names a_nights a_names_odds a_names_lengths a_names_letters a_names_alike a_names_oddsTogether : Nat) (f_stale : Int32) (f_settled : Int32) (f_names_size : Int32) (f_names_fault : Int32) (F : Nat) (f_names_alike : Nat → Int32) (f_nights : Nat → Int32) (x1 : Int32) (r : Int32) (hf : Sp_fewestNights F f_names_alike f_nights x1 = some r) : Met l yX7_fewestNights (WS yX7_fewestNights cX7_fewestNights 4 (some .int)) RM_Sp_fewestNights (va_Pc [.ref a_this, .int x1] (PR D ct (w_Sp_fewestNights ct a_this a_names a_nights a_names_odds a_names_lengths a_names_letters a_names_alike a_names_oddsTogether f_stale f_settled f_names_size f_names_fault f_names_alike f_nights))) (QR (some (.int r))) 0 0 (fun _ => False) := by
  refine kMetR yn_yX7_fewestNights rfl (Nat.le_of_ble_eq_true rfl) ?_
  intro p e s m args below meth c C hP ls hl
  have hl : lv_has ls 4 [(0, .ref a_this), (1, .int x1)] := hl
  obtain ⟨hx, hb, hr, hml, hown, hts, hlk, hK, hN⟩ := id C
  unfold Sp_fewestNights at hf
  refine lv_bipush (v := 10) hx hb dX7_fewestNights_0 (by decide) ?_
  refine lv_istore_n (lv' := [(2, .int 10), (0, .ref a_this), (1, .int x1)]) hx hb dX7_fewestNights_2 rfl hl (by decide) rfl (fun ls hl => ?_)
  refine lv_iconst (v := 0) hx hb dX7_fewestNights_3 (by decide) ?_
  refine lv_istore_n (lv' := [(3, .int 0), (2, .int 10), (0, .ref a_this), (1, .int x1)]) hx hb dX7_fewestNights_4 rfl hl (by decide) rfl (fun ls hl => ?_)
  exact t_Sp_fewestNights_l5 C a_this a_names a_nights a_names_odds a_names_lengths a_names_letters a_names_alike a_names_oddsTogether f_stale f_settled f_names_size f_names_fault F f_names_alike f_nights x1 r F 10 0 hf hP _ (lv_sub hl [2, 3, 1, 0] rfl)
def RM_Sp_settle : Room := { frames := 3, cells := 0, slots := 0, locals := 70 }
set_option maxHeartbeats 4000000 in
set_option maxRecDepth 100000 in
theorem t_Sp_settle_b12 {p : Program} {l : Launch} {e : Env} {s : State} {m : MethodId} {args : Array Value} {below : List Frame} {meth : Method} {c : Code} {D : va_G} {ct : Nat → ClassId} (C : CX p s m args meth c RX7 cX7_settle 5 none D ct) {A : Nat → Prop} (hA : ∀ q : Nat, s.heap.size ≤ q → A q) (a_this a_names a_nights a_names_odds a_names_lengths a_names_letters a_names_alike a_names_oddsTogether : Nat) (f_stale : Int32) (f_settled : Int32) (f_names_size : Int32) (f_names_fault : Int32) (F : Nat) (f_names_alike : Nat → Int32) (x1 : Int32) (r_nights : Nat → Int32) (rec12 : Int32 → Int32 → Int32 → (Nat → Int32) → Option ((Nat → Int32))) (hr12 : ∀ (x2 : Int32) (x3 : Int32) (x4 : Int32) (f_nights : Nat → Int32), rec12 x2 x3 x4 f_nights = some r_nights → ∀ (H : Heap) (locs : List Loc), va_P D vwCl (w_Sp_settle ct a_this a_names a_nights a_names_odds a_names_lengths a_names_letters a_names_alike a_names_oddsTogether f_stale f_settled f_names_size f_names_fault f_names_alike f_nights) H → va_D A (w_Sp_settle ct a_this a_names a_nights a_names_odds a_names_lengths a_names_letters a_names_alike a_names_oddsTogether f_stale f_settled f_names_size f_names_fault f_names_alike f_nights) → va_S A s.heap H locs → ∀ ls : Array Slot, lv_has ls 5 [(0, .ref a_this), (1, .int x1), (2, .int x2), (3, .int x3), (4, .int x4)] → W p l e RM_Sp_settle s m args below meth c H locs 0 0 (MQ below (QM D none (w_Sp_settle ct a_this a_names a_nights a_names_odds a_names_lengths a_names_letters a_names_alike a_names_oddsTogether f_stale f_settled f_names_size f_names_fault f_names_alike r_nights) A) args s 0 0 A) (F0 m 12 ls [])) : ∀ (x2 : Int32) (x3 : Int32) (x4 : Int32) (f_nights : Nat → Int32), Sp_settle_b12 F f_names_alike x1 rec12 x2 x3 x4 f_nights = some r_nights → ∀ (H : Heap) (locs : List Loc), va_P D vwCl (w_Sp_settle ct a_this a_names a_nights a_names_odds a_names_lengths a_names_letters a_names_alike a_names_oddsTogether f_stale f_settled f_names_size f_names_fault f_names_alike f_nights) H → va_D A (w_Sp_settle ct a_this a_names a_nights a_names_odds a_names_lengths a_names_letters a_names_alike a_names_oddsTogether f_stale f_settled f_names_size f_names_fault f_names_alike f_nights) → va_S A s.heap H locs → ∀ ls : Array Slot, lv_has ls 5 [(0, .ref a_this), (1, .int x1), (2, .int x2), (3, .int x3), (4, .int x4)] → W p l e RM_Sp_settle s m args below meth c H locs 0 0 (MQ below (QM D none (w_Sp_settle ct a_this a_names a_nights a_names_odds a_names_lengths a_names_letters a_names_alike a_names_oddsTogether f_stale f_settled f_names_size f_names_fault f_names_alike r_nights) A) args s 0 0 A) (F0 m 12 ls []) := by
  obtain ⟨hx, hb, hr, hml, hown, hts, hlk, hK, hN⟩ := id C
  intro x2 x3 x4 f_nights hf H locs hP hD hS ls hl
  unfold Sp_settle_b12 at hf
  refine lv_iload hx hb dX7_settle_12 (lv_at hl 4 rfl) ?_
  refine lv_iload_n hx hb dX7_settle_14 rfl (lv_at hl 2 rfl) ?_
  refine lv_icmp_ge (tgt := 41) hx hb dX7_settle_15 (by decide) (fun hc => ?_) (fun hc => ?_)
  · have hf := kpos hc hf
    have e1 := Option.some.inj hf
    subst e1
    exact kretMv C hP hD hS dX7_settle_41
  · have hf := kneg hc hf
    refine lv_iload_n hx hb dX7_settle_18 rfl (lv_at hl 3 rfl) ?_
    refine lv_iload_n hx hb dX7_settle_19 rfl (lv_at hl 1 rfl) ?_
    refine lv_isub hx hb dX7_settle_20 ?_
    refine lv_iload_n hx hb dX7_settle_21 rfl (lv_at hl 1 rfl) ?_
    refine lv_iand hx hb dX7_settle_22 ?_
    refine lv_istore_n (lv' := [(3, .int ((x3 - x1) &&& x1)), (0, .ref a_this), (1, .int x1), (2, .int x2), (4, .int x4)]) hx hb dX7_settle_23 rfl hl (by decide) rfl (fun ls hl => ?_)
    refine lv_aload_n hx hb dX7_settle_24 rfl (lv_at hl 1 rfl) ?_
    refine va_get (ci := 7) (v := .ref a_nights) (C := RX7) (T := TX7) (N := 4) hx hb hts inX7 hown hK hP 0 rfl rfl 1 (by decide) (hts _ tw_253) (fun _ h9 => h9) rfl dX7_settle_25 ?_
    refine lv_iload_n hx hb dX7_settle_28 rfl (lv_at hl 0 rfl) ?_
    refine lv_aload_n hx hb dX7_settle_29 rfl (lv_at hl 1 rfl) ?_
    refine lv_iload_n hx hb dX7_settle_30 rfl (lv_at hl 0 rfl) ?_
    obtain ⟨v31, hc31, hf⟩ := cb1_some hf
    refine kcRV (q0 := 0) (ci := 7) (As := [.int ((x3 - x1) &&& x1)]) (rest := [.int ((x3 - x1) &&& x1), .ref a_nights]) (st1 := [.int v31, .int ((x3 - x1) &&& x1), .ref a_nights]) C (c_Sp_fewestNights l D ct a_this a_names a_nights a_names_odds a_names_lengths a_names_letters a_names_alike a_names_oddsTogether f_stale f_settled f_names_size f_names_fault F f_names_alike f_nights ((x3 - x1) &&& x1) v31 hc31) ⟨rfl, rfl⟩ yn_yX7_fewestNights tw_770 tw_17 tw_768 ⟨Nat.le_of_ble_eq_true rfl, Nat.le_of_ble_eq_true rfl⟩ ⟨Nat.zero_le _, Nat.zero_le _⟩ hP [0, 1, 2, 3] rfl rfl rfl rfl hl.1 rfl rfl (Nat.le_of_ble_eq_true rfl) dX7_settle_31 rfl ?_
    obtain ⟨hin, f_nights_34, ev34, hf⟩ := wr_ex hf
    refine kiast hx hb hK hP hD hS 3 0 rfl rfl hin ev34 dX7_settle_34 (fun H locs hP hD hS => ?_)
    have hP : va_P D vwCl (w_Sp_settle ct a_this a_names a_nights a_names_odds a_names_lengths a_names_letters a_names_alike a_names_oddsTogether f_stale f_settled f_names_size f_names_fault f_names_alike f_nights_34) H := hP
    have hD : va_D A (w_Sp_settle ct a_this a_names a_nights a_names_odds a_names_lengths a_names_letters a_names_alike a_names_oddsTogether f_stale f_settled f_names_size f_names_fault f_names_alike f_nights_34) := hD
    refine lv_iinc (v := x4 + 1) (lv' := [(4, .int (x4 + 1)), (3, .int ((x3 - x1) &&& x1)), (0, .ref a_this), (1, .int x1), (2, .int x2)]) hx hb dX7_settle_35 hl (k := 4) rfl rfl (by decide) rfl (fun ls hl => ?_)
    refine lv_goto (tgt := 12) hx hb dX7_settle_38 (by decide) ?_
    exact hr12 x2 ((x3 - x1) &&& x1) (x4 + 1) f_nights_34 hf _ _ hP hD hS _ (lv_sub hl [2, 3, 4, 1, 0] rfl)
set_option maxHeartbeats 4000000 in
set_option maxRecDepth 100000 in
theorem t_Sp_settle_l12 {p : Program} {l : Launch} {e : Env} {s : State} {m : MethodId} {args : Array Value} {below : List Frame} {meth : Method} {c : Code} {D : va_G} {ct : Nat → ClassId} (C : CX p s m args meth c RX7 cX7_settle 5 none D ct) {A : Nat → Prop} (hA : ∀ q : Nat, s.heap.size ≤ q → A q) (a_this a_names a_nights a_names_odds a_names_lengths a_names_letters a_names_alike a_names_oddsTogether : Nat) (f_stale : Int32) (f_settled : Int32) (f_names_size : Int32) (f_names_fault : Int32) (F : Nat) (f_names_alike : Nat → Int32) (x1 : Int32) (r_nights : Nat → Int32) : ∀ (n : Nat) (x2 : Int32) (x3 : Int32) (x4 : Int32) (f_nights : Nat → Int32), Sp_settle_l12 F f_names_alike x1 n x2 x3 x4 f_nights = some r_nights → ∀ (H : Heap) (locs : List Loc), va_P D vwCl (w_Sp_settle ct a_this a_names a_nights a_names_odds a_names_lengths a_names_letters a_names_alike a_names_oddsTogether f_stale f_settled f_names_size f_names_fault f_names_alike f_nights) H → va_D A (w_Sp_settle ct a_this a_names a_nights a_names_odds a_names_lengths a_names_letters a_names_alike a_names_oddsTogether f_stale f_settled f_names_size f_names_fault f_names_alike f_nights) → va_S A s.heap H locs → ∀ ls : Array Slot, lv_has ls 5 [(0, .ref a_this), (1, .int x1), (2, .int x2), (3, .int x3), (4, .int x4)] → W p l e RM_Sp_settle s m args below meth c H locs 0 0 (MQ below (QM D none (w_Sp_settle ct a_this a_names a_nights a_names_odds a_names_lengths a_names_letters a_names_alike a_names_oddsTogether f_stale f_settled f_names_size f_names_fault f_names_alike r_nights) A) args s 0 0 A) (F0 m 12 ls []) := by
  intro n
  induction n with
  | zero =>
    intro x2 x3 x4 f_nights hf
    exact absurd hf (by simp [Sp_settle_l12])
  | succ n ih =>
    intro x2 x3 x4 f_nights hf
    exact t_Sp_settle_b12 C hA a_this a_names a_nights a_names_odds a_names_lengths a_names_letters a_names_alike a_names_oddsTogether f_stale f_settled f_names_size f_names_fault F f_names_alike x1 r_nights (Sp_settle_l12 F f_names_alike x1 n) ih x2 x3 x4 f_nights hf
set_option maxHeartbeats 4000000 in
set_option maxRecDepth 100000 in
theorem c_Sp_settle (l : Launch) (D : va_G) (ct : Nat → ClassId) (a_this a_names a_nights a_names_odds a_names_lengths a_names_letters a_names_alike a_names_oddsTogether : Nat) (f_stale : Int32) (f_settled : Int32) (f_names_size : Int32) (f_names_fault : Int32) (F : Nat) (f_names_alike : Nat → Int32) (f_nights : Nat → Int32) (x1 : Int32) (r_nights : Nat → Int32) (sz : Nat) (hf : Sp_settle F f_names_alike f_nights x1 = some r_nights) : Met l yX7_settle (WS yX7_settle cX7_settle 5 none) RM_Sp_settle (va_Pc [.ref a_this, .int x1] (PM D ct sz (w_Sp_settle ct a_this a_names a_nights a_names_odds a_names_lengths a_names_letters a_names_alike a_names_oddsTogether f_stale f_settled f_names_size f_names_fault f_names_alike f_nights))) (QM D none (w_Sp_settle ct a_this a_names a_nights a_names_odds a_names_lengths a_names_letters a_names_alike a_names_oddsTogether f_stale f_settled f_names_size f_names_fault f_names_alike r_nights) (va_A (w_Sp_settle ct a_this a_names a_nights a_names_odds a_names_lengths a_names_letters a_names_alike a_names_oddsTogether f_stale f_settled f_names_size f_names_fault f_names_alike f_nights) sz)) 0 0 (va_A (w_Sp_settle ct a_this a_names a_nights a_names_odds a_names_lengths a_names_letters a_names_alike a_names_oddsTogether f_stale f_settled f_names_size f_names_fault f_names_alike f_nights) sz) := by
  refine kMetM yn_yX7_settle rfl (Nat.le_of_ble_eq_true rfl) ?_
  intro p e s m args below meth c A C hA hP hD ls hl
  have hl : lv_has ls 5 [(0, .ref a_this), (1, .int x1)] := hl
  have hS : va_S A s.heap s.heap [] := va_S.rf
  obtain ⟨hx, hb, hr, hml, hown, hts, hlk, hK, hN⟩ := id C
  unfold Sp_settle at hf
  refine lv_iconst (v := 1) hx hb dX7_settle_0 (by decide) ?_
  refine lv_iload_n hx hb dX7_settle_1 rfl (lv_at hl 1 rfl) ?_
  obtain ⟨v2, hc2, hf⟩ := cb1_some hf
  refine kcRS (As := [.int x1]) (rest := [.int 1]) (st1 := [.int v2, .int 1]) C (c_Jint_bitCount l D ct x1 v2 hc2) ⟨rfl, rfl⟩ yn_yJ6_bitCount_0f7a4 tw_749 tw_748 ⟨Nat.le_of_ble_eq_true rfl, Nat.le_of_ble_eq_true rfl⟩ ⟨Nat.zero_le _, Nat.zero_le _⟩ hP [] rfl hl.1 rfl rfl (Nat.le_of_ble_eq_true rfl) dX7_settle_2 rfl ?_
  refine lv_ishl hx hb dX7_settle_5 ?_
  refine lv_istore_n (lv' := [(2, .int ((1 : Int32) <<< (v2 &&& 31))), (0, .ref a_this), (1, .int x1)]) hx hb dX7_settle_6 rfl hl (by decide) rfl (fun ls hl => ?_)
  refine lv_iconst (v := 0) hx hb dX7_settle_7 (by decide) ?_
  refine lv_istore_n (lv' := [(3, .int 0), (2, .int ((1 : Int32) <<< (v2 &&& 31))), (0, .ref a_this), (1, .int x1)]) hx hb dX7_settle_8 rfl hl (by decide) rfl (fun ls hl => ?_)
  refine lv_iconst (v := 1) hx hb dX7_settle_9 (by decide) ?_
  refine lv_istore (lv' := [(4, .int 1), (3, .int 0), (2, .int ((1 : Int32) <<< (v2 &&& 31))), (0, .ref a_this), (1, .int x1)]) hx hb dX7_settle_10 hl (by decide) rfl (fun ls hl => ?_)
  exact t_Sp_settle_l12 C hA a_this a_names a_nights a_names_odds a_names_lengths a_names_letters a_names_alike a_names_oddsTogether f_stale f_settled f_names_size f_names_fault F f_names_alike x1 r_nights F ((1 : Int32) <<< (v2 &&& 31)) 0 1 f_nights hf _ _ hP hD hS _ (lv_sub hl [3, 4, 2, 1, 0] rfl)
def RM_Sp_nightsAtWorst : Room := { frames := 4, cells := 0, slots := 0, locals := 94 }
set_option maxHeartbeats 4000000 in
set_option maxRecDepth 100000 in
theorem t_Sp_nightsAtWorst_b36 {p : Program} {l : Launch} {e : Env} {s : State} {m : MethodId} {args : Array Value} {below : List Frame} {meth : Method} {c : Code} {D : va_G} {ct : Nat → ClassId} (C : CX p s m args meth c RX7 cX7_nightsAtWorst 3 (some .int) D ct) {A : Nat → Prop} (hA : ∀ q : Nat, s.heap.size ≤ q → A q) (a_this a_names a_nights a_names_odds a_names_lengths a_names_letters a_names_alike a_names_oddsTogether : Nat) (f_names_size : Int32) (f_names_fault : Int32) (F : Nat) (f_names_alike : Nat → Int32) (x1 : Int32) (r : Int32) (r_stale : Int32) (r_settled : Int32) (r_nights : Nat → Int32) : ∀ (x2 : Int32) (f_stale : Int32) (f_settled : Int32) (f_nights : Nat → Int32), Sp_nightsAtWorst_b36 F f_names_alike x1 x2 f_stale f_settled f_nights = some (r, r_stale, r_settled, r_nights) → ∀ (H : Heap) (locs : List Loc), va_P D vwCl (w_Sp_nightsAtWorst ct a_this a_names a_nights a_names_odds a_names_lengths a_names_letters a_names_alike a_names_oddsTogether f_stale f_settled f_names_size f_names_fault f_names_alike f_nights) H → va_D A (w_Sp_nightsAtWorst ct a_this a_names a_nights a_names_odds a_names_lengths a_names_letters a_names_alike a_names_oddsTogether f_stale f_settled f_names_size f_names_fault f_names_alike f_nights) → va_S A s.heap H locs → ∀ ls : Array Slot, lv_has ls 3 [(0, .ref a_this), (2, .int x2)] → W p l e RM_Sp_nightsAtWorst s m args below meth c H locs 0 0 (MQ below (QM D (some (.int r)) (w_Sp_nightsAtWorst ct a_this a_names a_nights a_names_odds a_names_lengths a_names_letters a_names_alike a_names_oddsTogether r_stale r_settled f_names_size f_names_fault f_names_alike r_nights) A) args s 0 0 A) (F0 m 36 ls []) := by
  obtain ⟨hx, hb, hr, hml, hown, hts, hlk, hK, hN⟩ := id C
  intro x2 f_stale f_settled f_nights hf H locs hP hD hS ls hl
  unfold Sp_nightsAtWorst_b36 at hf
  refine lv_aload_n hx hb dX7_nightsAtWorst_36 rfl (lv_at hl 0 rfl) ?_
  refine va_get (ci := 7) (v := .ref a_nights) (C := RX7) (T := TX7) (N := 4) hx hb hts inX7 hown hK hP 0 rfl rfl 1 (by decide) (hts _ tw_253) (fun _ h9 => h9) rfl dX7_nightsAtWorst_37 ?_
  refine lv_iload_n hx hb dX7_nightsAtWorst_40 rfl (lv_at hl 1 rfl) ?_
  obtain ⟨hin, hf⟩ := rd_some hf
  generalize ev41 : f_nights (Int32.toNatClampNeg x2) = v41 at hf
  refine kiald hx hb hK hP 3 0 rfl rfl hin ev41 dX7_nightsAtWorst_41 ?_
  obtain ⟨e1, e2, e3, e4⟩ := ti4 hf
  subst e1; subst e2; subst e3; subst e4
  exact kretM C hP hD hS dX7_nightsAtWorst_42
set_option maxHeartbeats 4000000 in
set_option maxRecDepth 100000 in
theorem t_Sp_nightsAtWorst_b21 {p : Program} {l : Launch} {e : Env} {s : State} {m : MethodId} {args : Array Value} {below : List Frame} {meth : Method} {c : Code} {D : va_G} {ct : Nat → ClassId} (C : CX p s m args meth c RX7 cX7_nightsAtWorst 3 (some .int) D ct) {A : Nat → Prop} (hA : ∀ q : Nat, s.heap.size ≤ q → A q) (a_this a_names a_nights a_names_odds a_names_lengths a_names_letters a_names_alike a_names_oddsTogether : Nat) (f_names_size : Int32) (f_names_fault : Int32) (F : Nat) (f_names_alike : Nat → Int32) (x1 : Int32) (r : Int32) (r_stale : Int32) (r_settled : Int32) (r_nights : Nat → Int32) : ∀ (x2 : Int32) (f_stale : Int32) (f_settled : Int32) (f_nights : Nat → Int32), Sp_nightsAtWorst_b21 F f_names_alike x1 x2 f_stale f_settled f_nights = some (r, r_stale, r_settled, r_nights) → ∀ (H : Heap) (locs : List Loc), va_P D vwCl (w_Sp_nightsAtWorst ct a_this a_names a_nights a_names_odds a_names_lengths a_names_letters a_names_alike a_names_oddsTogether f_stale f_settled f_names_size f_names_fault f_names_alike f_nights) H → va_D A (w_Sp_nightsAtWorst ct a_this a_names a_nights a_names_odds a_names_lengths a_names_letters a_names_alike a_names_oddsTogether f_stale f_settled f_names_size f_names_fault f_names_alike f_nights) → va_S A s.heap H locs → ∀ ls : Array Slot, lv_has ls 3 [(0, .ref a_this), (2, .int x2)] → W p l e RM_Sp_nightsAtWorst s m args below meth c H locs 0 0 (MQ below (QM D (some (.int r)) (w_Sp_nightsAtWorst ct a_this a_names a_nights a_names_odds a_names_lengths a_names_letters a_names_alike a_names_oddsTogether r_stale r_settled f_names_size f_names_fault f_names_alike r_nights) A) args s 0 0 A) (F0 m 21 ls []) := by
  obtain ⟨hx, hb, hr, hml, hown, hts, hlk, hK, hN⟩ := id C
  intro x2 f_stale f_settled f_nights hf H locs hP hD hS ls hl
  unfold Sp_nightsAtWorst_b21 at hf
  refine lv_aload_n hx hb dX7_nightsAtWorst_21 rfl (lv_at hl 0 rfl) ?_
  refine lv_iconst (v := 0) hx hb dX7_nightsAtWorst_22 (by decide) ?_
  refine va_put (ci := 7) (v := .int 0) (ty := .boolean) (C := RX7) (T := TX7) (N := 4) hx hb hts inX7 tyX7 tyX7_ok nmX7 hown hK hP hD hS 0 rfl rfl 2 (by decide) (hts _ tw_254) (fun _ h9 => h9) rfl (tyX7_ok 2 (by decide)) rfl rfl (Nat.le_of_ble_eq_true rfl) dX7_nightsAtWorst_23 (fun H locs hP hD hS => ?_)
  have hP : va_P D vwCl (w_Sp_nightsAtWorst ct a_this a_names a_nights a_names_odds a_names_lengths a_names_letters a_names_alike a_names_oddsTogether 0 f_settled f_names_size f_names_fault f_names_alike f_nights) H := hP
  have hD : va_D A (w_Sp_nightsAtWorst ct a_this a_names a_nights a_names_odds a_names_lengths a_names_letters a_names_alike a_names_oddsTogether 0 f_settled f_names_size f_names_fault f_names_alike f_nights) := hD
  refine lv_aload_n hx hb dX7_nightsAtWorst_26 rfl (lv_at hl 0 rfl) ?_
  refine lv_iload_n hx hb dX7_nightsAtWorst_27 rfl (lv_at hl 1 rfl) ?_
  refine va_put (ci := 7) (v := .int x2) (ty := .int) (C := RX7) (T := TX7) (N := 4) hx hb hts inX7 tyX7 tyX7_ok nmX7 hown hK hP hD hS 0 rfl rfl 3 (by decide) (hts _ tw_255) (fun _ h9 => h9) rfl (tyX7_ok 3 (by decide)) rfl rfl (Nat.le_of_ble_eq_true rfl) dX7_nightsAtWorst_28 (fun H locs hP hD hS => ?_)
  have hP : va_P D vwCl (w_Sp_nightsAtWorst ct a_this a_names a_nights a_names_odds a_names_lengths a_names_letters a_names_alike a_names_oddsTogether 0 x2 f_names_size f_names_fault f_names_alike f_nights) H := hP
  have hD : va_D A (w_Sp_nightsAtWorst ct a_this a_names a_nights a_names_odds a_names_lengths a_names_letters a_names_alike a_names_oddsTogether 0 x2 f_names_size f_names_fault f_names_alike f_nights) := hD
  refine lv_aload_n hx hb dX7_nightsAtWorst_31 rfl (lv_at hl 0 rfl) ?_
  refine lv_iload_n hx hb dX7_nightsAtWorst_32 rfl (lv_at hl 1 rfl) ?_
  obtain ⟨f_nights_33, hc33, hf⟩ := cb1_some hf
  refine kcMV (q0 := 0) (ci := 7) (As := [.int x2]) (rest := []) (st1 := []) (wf := (w_Sp_nightsAtWorst ct a_this a_names a_nights a_names_odds a_names_lengths a_names_letters a_names_alike a_names_oddsTogether 0 x2 f_names_size f_names_fault f_names_alike f_nights_33)) C (c_Sp_settle l D ct a_this a_names a_nights a_names_odds a_names_lengths a_names_letters a_names_alike a_names_oddsTogether 0 x2 f_names_size f_names_fault F f_names_alike f_nights x2 f_nights_33 _ hc33) ⟨rfl, rfl⟩ yn_yX7_settle tw_766 tw_16 tw_764 ⟨Nat.le_of_ble_eq_true rfl, Nat.le_of_ble_eq_true rfl⟩ ⟨Nat.zero_le _, Nat.zero_le _⟩ hP hD hS hA [0, 1, 2, 3] [] [0, 1, 2, 3] rfl rfl rfl rfl rfl (by decide) rfl rfl rfl rfl rfl rfl hl.1 rfl rfl (Nat.le_of_ble_eq_true rfl) dX7_nightsAtWorst_33 rfl (fun H locs hP hD hS => ?_)
  exact t_Sp_nightsAtWorst_b36 C hA a_this a_names a_nights a_names_odds a_names_lengths a_names_letters a_names_alike a_names_oddsTogether f_names_size f_names_fault F f_names_alike x1 r r_stale r_settled r_nights x2 0 x2 f_nights_33 hf _ _ hP hD hS _ (lv_sub hl [0, 1] rfl)
set_option maxHeartbeats 4000000 in
set_option maxRecDepth 100000 in
theorem c_Sp_nightsAtWorst (l : Launch) (D : va_G) (ct : Nat → ClassId) (a_this a_names a_nights a_names_odds a_names_lengths a_names_letters a_names_alike a_names_oddsTogether : Nat) (f_names_size : Int32) (f_names_fault : Int32) (F : Nat) (f_names_alike : Nat → Int32) (f_stale : Int32) (f_settled : Int32) (f_nights : Nat → Int32) (x1 : Int32) (r : Int32) (r_stale : Int32) (r_settled : Int32) (r_nights : Nat → Int32) (sz : Nat) (hf : Sp_nightsAtWorst F f_names_alike f_stale f_settled f_nights x1 = some (r, r_stale, r_settled, r_nights)) : Met l yX7_nightsAtWorst (WS yX7_nightsAtWorst cX7_nightsAtWorst 3 (some .int)) RM_Sp_nightsAtWorst (va_Pc [.ref a_this, .int x1] (PM D ct sz (w_Sp_nightsAtWorst ct a_this a_names a_nights a_names_odds a_names_lengths a_names_letters a_names_alike a_names_oddsTogether f_stale f_settled f_names_size f_names_fault f_names_alike f_nights))) (QM D (some (.int r)) (w_Sp_nightsAtWorst ct a_this a_names a_nights a_names_odds a_names_lengths a_names_letters a_names_alike a_names_oddsTogether r_stale r_settled f_names_size f_names_fault f_names_alike r_nights) (va_A (w_Sp_nightsAtWorst ct a_this a_names a_nights a_names_odds a_names_lengths a_names_letters a_names_alike a_names_oddsTogether f_stale f_settled f_names_size f_names_fault f_names_alike f_nights) sz)) 0 0 (va_A (w_Sp_nightsAtWorst ct a_this a_names a_nights a_names_odds a_names_lengths a_names_letters a_names_alike a_names_oddsTogether f_stale f_settled f_names_size f_names_fault f_names_alike f_nights) sz) := by
  refine kMetM yn_yX7_nightsAtWorst rfl (Nat.le_of_ble_eq_true rfl) ?_
  intro p e s m args below meth c A C hA hP hD ls hl
  have hl : lv_has ls 3 [(0, .ref a_this), (1, .int x1)] := hl
  have hS : va_S A s.heap s.heap [] := va_S.rf
  obtain ⟨hx, hb, hr, hml, hown, hts, hlk, hK, hN⟩ := id C
  unfold Sp_nightsAtWorst at hf
  refine lv_iload_n hx hb dX7_nightsAtWorst_0 rfl (lv_at hl 1 rfl) ?_
  refine lv_sipush (v := 1023) hx hb dX7_nightsAtWorst_1 (by decide) ?_
  refine lv_iand hx hb dX7_nightsAtWorst_4 ?_
  refine lv_istore_n (lv' := [(2, .int (x1 &&& 1023)), (0, .ref a_this), (1, .int x1)]) hx hb dX7_nightsAtWorst_5 rfl hl (by decide) rfl (fun ls hl => ?_)
  refine lv_aload_n hx hb dX7_nightsAtWorst_6 rfl (lv_at hl 1 rfl) ?_
  refine va_get (ci := 7) (v := .int f_stale) (C := RX7) (T := TX7) (N := 4) hx hb hts inX7 hown hK hP 0 rfl rfl 2 (by decide) (hts _ tw_254) (fun _ h9 => h9) rfl dX7_nightsAtWorst_7 ?_
  refine lv_if_ne (tgt := 21) hx hb dX7_nightsAtWorst_10 (by decide) (fun hc => ?_) (fun hc => ?_)
  · have hf := kneg hc hf
    exact t_Sp_nightsAtWorst_b21 C hA a_this a_names a_nights a_names_odds a_names_lengths a_names_letters a_names_alike a_names_oddsTogether f_names_size f_names_fault F f_names_alike x1 r r_stale r_settled r_nights (x1 &&& 1023) f_stale f_settled f_nights hf _ _ hP hD hS _ (lv_sub hl [1, 0] rfl)
  · have hf := kpos hc hf
    refine lv_aload_n hx hb dX7_nightsAtWorst_13 rfl (lv_at hl 1 rfl) ?_
    refine va_get (ci := 7) (v := .int f_settled) (C := RX7) (T := TX7) (N := 4) hx hb hts inX7 hown hK hP 0 rfl rfl 3 (by decide) (hts _ tw_255) (fun _ h9 => h9) rfl dX7_nightsAtWorst_14 ?_
    refine lv_iload_n hx hb dX7_nightsAtWorst_17 rfl (lv_at hl 0 rfl) ?_
    refine lv_icmp_eq (tgt := 36) hx hb dX7_nightsAtWorst_18 (by decide) (fun hc => ?_) (fun hc => ?_)
    · have hf := kpos hc hf
      exact t_Sp_nightsAtWorst_b36 C hA a_this a_names a_nights a_names_odds a_names_lengths a_names_letters a_names_alike a_names_oddsTogether f_names_size f_names_fault F f_names_alike x1 r r_stale r_settled r_nights (x1 &&& 1023) f_stale f_settled f_nights hf _ _ hP hD hS _ (lv_sub hl [1, 0] rfl)
    · have hf := kneg hc hf
      exact t_Sp_nightsAtWorst_b21 C hA a_this a_names a_nights a_names_odds a_names_lengths a_names_letters a_names_alike a_names_oddsTogether f_names_size f_names_fault F f_names_alike x1 r r_stale r_settled r_nights (x1 &&& 1023) f_stale f_settled f_nights hf _ _ hP hD hS _ (lv_sub hl [1, 0] rfl)
def RM_ND_sure : Room := { frames := 5, cells := 0, slots := 0, locals := 117 }
set_option maxHeartbeats 4000000 in
set_option maxRecDepth 100000 in
theorem c_ND_sure (l : Launch) (D : va_G) (ct : Nat → ClassId) (a_this a_texts a_names a_pieces a_song a_fitting a_deal a_guesses a_wise a_spy a_sheets a_texts0 a_texts1 a_texts2 a_texts0_bytes a_texts1_bytes a_texts2_bytes a_names_odds a_names_lengths a_names_letters a_names_alike a_names_oddsTogether a_pieces_inside a_pieces_lengths a_pieces_letters a_song_letters a_fitting_pieceFits a_fitting_inOrder a_spy_nights : Nat) (f_finding : Int32) (F : Nat) (f_texts0_size : Int32) (f_texts0_bytes : Nat → Int32) (f_texts1_size : Int32) (f_texts1_bytes : Nat → Int32) (f_texts2_size : Int32) (f_texts2_bytes : Nat → Int32) (f_stale : Int32) (f_names_size : Int32) (f_names_fault : Int32) (f_names_odds : Nat → Int32) (f_names_lengths : Nat → Int32) (f_names_letters : Nat → Int32) (f_names_alike : Nat → Int32) (f_names_oddsTogether : Nat → Int32) (f_pieces_size : Int32) (f_pieces_fault : Int32) (f_pieces_inside : Nat → Int32) (f_pieces_lengths : Nat → Int32) (f_pieces_letters : Nat → Int32) (f_song_size : Int32) (f_song_fault : Int32) (f_song_letters : Nat → Int32) (f_fitting_pieceCount : Int32) (f_fitting_songFits : Int32) (f_fitting_allFit : Int32) (f_fitting_ordered : Int32) (f_fitting_pieceFits : Nat → Int32) (f_fitting_inOrder : Nat → Int32) (f_spy_stale : Int32) (f_spy_settled : Int32) (f_spy_nights : Nat → Int32) (r : Int32) (r_stale : Int32) (r_names_size : Int32) (r_names_fault : Int32) (r_names_odds : Nat → Int32) (r_names_lengths : Nat → Int32) (r_names_letters : Nat → Int32) (r_names_alike : Nat → Int32) (r_names_oddsTogether : Nat → Int32) (r_pieces_size : Int32) (r_pieces_fault : Int32) (r_pieces_inside : Nat → Int32) (r_pieces_lengths : Nat → Int32) (r_pieces_letters : Nat → Int32) (r_song_size : Int32) (r_song_fault : Int32) (r_song_letters : Nat → Int32) (r_fitting_pieceCount : Int32) (r_fitting_songFits : Int32) (r_fitting_allFit : Int32) (r_fitting_ordered : Int32) (r_fitting_pieceFits : Nat → Int32) (r_fitting_inOrder : Nat → Int32) (r_spy_stale : Int32) (r_spy_settled : Int32) (r_spy_nights : Nat → Int32) (sz : Nat) (hf : ND_sure F f_texts0_size f_texts0_bytes f_texts1_size f_texts1_bytes f_texts2_size f_texts2_bytes f_stale f_names_size f_names_fault f_names_odds f_names_lengths f_names_letters f_names_alike f_names_oddsTogether f_pieces_size f_pieces_fault f_pieces_inside f_pieces_lengths f_pieces_letters f_song_size f_song_fault f_song_letters f_fitting_pieceCount f_fitting_songFits f_fitting_allFit f_fitting_ordered f_fitting_pieceFits f_fitting_inOrder f_spy_stale f_spy_settled f_spy_nights = some (r, r_stale, r_names_size, r_names_fault, r_names_odds, r_names_lengths, r_names_letters, r_names_alike, r_names_oddsTogether, r_pieces_size, r_pieces_fault, r_pieces_inside, r_pieces_lengths, r_pieces_letters, r_song_size, r_song_fault, r_song_letters, r_fitting_pieceCount, r_fitting_songFits, r_fitting_allFit, r_fitting_ordered, r_fitting_pieceFits, r_fitting_inOrder, r_spy_stale, r_spy_settled, r_spy_nights)) : Met l yX10_sure (WS yX10_sure cX10_sure 1 (some .int)) RM_ND_sure (va_Pc [.ref a_this] (PM D ct sz (w_ND_sure ct a_this a_texts a_names a_pieces a_song a_fitting a_deal a_guesses a_wise a_spy a_sheets a_texts0 a_texts1 a_texts2 a_texts0_bytes a_texts1_bytes a_texts2_bytes a_names_odds a_names_lengths a_names_letters a_names_alike a_names_oddsTogether a_pieces_inside a_pieces_lengths a_pieces_letters a_song_letters a_fitting_pieceFits a_fitting_inOrder a_spy_nights f_stale f_finding f_texts0_size f_texts0_bytes f_texts1_size f_texts1_bytes f_texts2_size f_texts2_bytes f_names_size f_names_fault f_names_odds f_names_lengths f_names_letters f_names_alike f_names_oddsTogether f_pieces_size f_pieces_fault f_pieces_inside f_pieces_lengths f_pieces_letters f_song_size f_song_fault f_song_letters f_fitting_pieceCount f_fitting_songFits f_fitting_allFit f_fitting_ordered f_fitting_pieceFits f_fitting_inOrder f_spy_stale f_spy_settled f_spy_nights))) (QM D (some (.int r)) (w_ND_sure ct a_this a_texts a_names a_pieces a_song a_fitting a_deal a_guesses a_wise a_spy a_sheets a_texts0 a_texts1 a_texts2 a_texts0_bytes a_texts1_bytes a_texts2_bytes a_names_odds a_names_lengths a_names_letters a_names_alike a_names_oddsTogether a_pieces_inside a_pieces_lengths a_pieces_letters a_song_letters a_fitting_pieceFits a_fitting_inOrder a_spy_nights r_stale f_finding f_texts0_size f_texts0_bytes f_texts1_size f_texts1_bytes f_texts2_size f_texts2_bytes r_names_size r_names_fault r_names_odds r_names_lengths r_names_letters r_names_alike r_names_oddsTogether r_pieces_size r_pieces_fault r_pieces_inside r_pieces_lengths r_pieces_letters r_song_size r_song_fault r_song_letters r_fitting_pieceCount r_fitting_songFits r_fitting_allFit r_fitting_ordered r_fitting_pieceFits r_fitting_inOrder r_spy_stale r_spy_settled r_spy_nights) (va_A (w_ND_sure ct a_this a_texts a_names a_pieces a_song a_fitting a_deal a_guesses a_wise a_spy a_sheets a_texts0 a_texts1 a_texts2 a_texts0_bytes a_texts1_bytes a_texts2_bytes a_names_odds a_names_lengths a_names_letters a_names_alike a_names_oddsTogether a_pieces_inside a_pieces_lengths a_pieces_letters a_song_letters a_fitting_pieceFits a_fitting_inOrder a_spy_nights f_stale f_finding f_texts0_size f_texts0_bytes f_texts1_size f_texts1_bytes f_texts2_size f_texts2_bytes f_names_size f_names_fault f_names_odds f_names_lengths f_names_letters f_names_alike f_names_oddsTogether f_pieces_size f_pieces_fault f_pieces_inside f_pieces_lengths f_pieces_letters f_song_size f_song_fault f_song_letters f_fitting_pieceCount f_fitting_songFits f_fitting_allFit f_fitting_ordered f_fitting_pieceFits f_fitting_inOrder f_spy_stale f_spy_settled f_spy_nights) sz)) 0 0 (va_A (w_ND_sure ct a_this a_texts a_names a_pieces a_song a_fitting a_deal a_guesses a_wise a_spy a_sheets a_texts0 a_texts1 a_texts2 a_texts0_bytes a_texts1_bytes a_texts2_bytes a_names_odds a_names_lengths a_names_letters a_names_alike a_names_oddsTogether a_pieces_inside a_pieces_lengths a_pieces_letters a_song_letters a_fitting_pieceFits a_fitting_inOrder a_spy_nights f_stale f_finding f_texts0_size f_texts0_bytes f_texts1_size f_texts1_bytes f_texts2_size f_texts2_bytes f_names_size f_names_fault f_names_odds f_names_lengths f_names_letters f_names_alike f_names_oddsTogether f_pieces_size f_pieces_fault f_pieces_inside f_pieces_lengths f_pieces_letters f_song_size f_song_fault f_song_letters f_fitting_pieceCount f_fitting_songFits f_fitting_allFit f_fitting_ordered f_fitting_pieceFits f_fitting_inOrder f_spy_stale f_spy_settled f_spy_nights) sz) := by
  refine kMetM yn_yX10_sure rfl (Nat.le_of_ble_eq_true rfl) ?_
  intro p e s m args below meth c A C hA hP hD ls hl
  have hl : lv_has ls 1 [(0, .ref a_this)] := hl
  have hS : va_S A s.heap s.heap [] := va_S.rf
  obtain ⟨hx, hb, hr, hml, hown, hts, hlk, hK, hN⟩ := id C
  unfold ND_sure at hf
  refine lv_aload_n hx hb dX10_sure_0 rfl (lv_at hl 0 rfl) ?_
  obtain ⟨f_stale_1, f_names_size_1, f_names_fault_1, f_names_odds_1, f_names_lengths_1, f_names_letters_1, f_names_alike_1, f_names_oddsTogether_1, f_pieces_size_1, f_pieces_fault_1, f_pieces_inside_1, f_pieces_lengths_1, f_pieces_letters_1, f_song_size_1, f_song_fault_1, f_song_letters_1, f_fitting_pieceCount_1, f_fitting_songFits_1, f_fitting_allFit_1, f_fitting_ordered_1, f_fitting_pieceFits_1, f_fitting_inOrder_1, hc1, hf⟩ := cb22_some hf
  refine kcMV (q0 := 0) (ci := 10) (As := []) (rest := []) (st1 := []) (wf := (w_ND_sure ct a_this a_texts a_names a_pieces a_song a_fitting a_deal a_guesses a_wise a_spy a_sheets a_texts0 a_texts1 a_texts2 a_texts0_bytes a_texts1_bytes a_texts2_bytes a_names_odds a_names_lengths a_names_letters a_names_alike a_names_oddsTogether a_pieces_inside a_pieces_lengths a_pieces_letters a_song_letters a_fitting_pieceFits a_fitting_inOrder a_spy_nights f_stale_1 f_finding f_texts0_size f_texts0_bytes f_texts1_size f_texts1_bytes f_texts2_size f_texts2_bytes f_names_size_1 f_names_fault_1 f_names_odds_1 f_names_lengths_1 f_names_letters_1 f_names_alike_1 f_names_oddsTogether_1 f_pieces_size_1 f_pieces_fault_1 f_pieces_inside_1 f_pieces_lengths_1 f_pieces_letters_1 f_song_size_1 f_song_fault_1 f_song_letters_1 f_fitting_pieceCount_1 f_fitting_songFits_1 f_fitting_allFit_1 f_fitting_ordered_1 f_fitting_pieceFits_1 f_fitting_inOrder_1 f_spy_stale f_spy_settled f_spy_nights)) C (c_ND_refresh l D ct a_this a_texts a_names a_pieces a_song a_fitting a_deal a_guesses a_wise a_spy a_sheets a_texts0 a_texts1 a_texts2 a_texts0_bytes a_texts1_bytes a_texts2_bytes a_names_odds a_names_lengths a_names_letters a_names_alike a_names_oddsTogether a_pieces_inside a_pieces_lengths a_pieces_letters a_song_letters a_fitting_pieceFits a_fitting_inOrder f_finding F f_texts0_size f_texts0_bytes f_texts1_size f_texts1_bytes f_texts2_size f_texts2_bytes f_stale f_names_size f_names_fault f_names_odds f_names_lengths f_names_letters f_names_alike f_names_oddsTogether f_pieces_size f_pieces_fault f_pieces_inside f_pieces_lengths f_pieces_letters f_song_size f_song_fault f_song_letters f_fitting_pieceCount f_fitting_songFits f_fitting_allFit f_fitting_ordered f_fitting_pieceFits f_fitting_inOrder f_stale_1 f_names_size_1 f_names_fault_1 f_names_odds_1 f_names_lengths_1 f_names_letters_1 f_names_alike_1 f_names_oddsTogether_1 f_pieces_size_1 f_pieces_fault_1 f_pieces_inside_1 f_pieces_lengths_1 f_pieces_letters_1 f_song_size_1 f_song_fault_1 f_song_letters_1 f_fitting_pieceCount_1 f_fitting_songFits_1 f_fitting_allFit_1 f_fitting_ordered_1 f_fitting_pieceFits_1 f_fitting_inOrder_1 _ hc1) ⟨rfl, rfl⟩ yn_yX10_refresh tw_372 tw_1 tw_370 ⟨Nat.le_of_ble_eq_true rfl, Nat.le_of_ble_eq_true rfl⟩ ⟨Nat.zero_le _, Nat.zero_le _⟩ hP hD hS hA [0, 1, 2, 3, 4, 5, 6, 7, 8, 9, 10, 11, 12, 13, 14, 15, 16, 17, 18, 19, 20, 21, 22] [23, 24] [2, 3, 4, 5, 6, 7, 8, 9, 10, 11, 12, 13, 14, 15, 16, 17, 18, 19, 20, 21, 22, 23, 24, 0, 1] rfl rfl rfl rfl rfl (by decide) rfl rfl rfl rfl rfl rfl hl.1 rfl rfl (Nat.le_of_ble_eq_true rfl) dX10_sure_1 rfl (fun H locs hP hD hS => ?_)
  refine lv_aload_n hx hb dX10_sure_4 rfl (lv_at hl 0 rfl) ?_
  refine va_get (ci := 10) (v := .ref a_spy) (C := RX10) (T := TX10) (N := 12) hx hb hts inX10 hown hK hP 0 rfl rfl 8 (by decide) (hts _ tw_290) (fun _ h9 => h9) rfl dX10_sure_5 ?_
  refine lv_aload_n hx hb dX10_sure_8 rfl (lv_at hl 0 rfl) ?_
  refine va_get (ci := 10) (v := .ref a_fitting) (C := RX10) (T := TX10) (N := 12) hx hb hts inX10 hown hK hP 0 rfl rfl 4 (by decide) (hts _ tw_286) (fun _ h9 => h9) rfl dX10_sure_9 ?_
  obtain ⟨v12, hc12, hf⟩ := cb1_some hf
  refine kcRV (q0 := 20) (ci := 1) (As := []) (rest := [.ref a_spy]) (st1 := [.int v12, .ref a_spy]) C (c_Fi_byAll l D ct a_fitting a_fitting_pieceFits a_fitting_inOrder f_fitting_pieceCount_1 f_fitting_songFits_1 f_fitting_ordered_1 f_fitting_allFit_1 v12 hc12) ⟨rfl, rfl⟩ yn_yX1_byAll tw_576 tw_577 tw_575 ⟨Nat.le_of_ble_eq_true rfl, Nat.le_of_ble_eq_true rfl⟩ ⟨Nat.zero_le _, Nat.zero_le _⟩ hP [20] rfl rfl rfl rfl hl.1 rfl rfl (Nat.le_of_ble_eq_true rfl) dX10_sure_12 rfl ?_
  obtain ⟨v15, f_spy_stale_15, f_spy_settled_15, f_spy_nights_15, hc15, hf⟩ := cb4_some hf
  refine kcMV (q0 := 23) (ci := 7) (As := [.int v12]) (rest := []) (st1 := [.int v15]) (wf := (w_ND_sure ct a_this a_texts a_names a_pieces a_song a_fitting a_deal a_guesses a_wise a_spy a_sheets a_texts0 a_texts1 a_texts2 a_texts0_bytes a_texts1_bytes a_texts2_bytes a_names_odds a_names_lengths a_names_letters a_names_alike a_names_oddsTogether a_pieces_inside a_pieces_lengths a_pieces_letters a_song_letters a_fitting_pieceFits a_fitting_inOrder a_spy_nights f_stale_1 f_finding f_texts0_size f_texts0_bytes f_texts1_size f_texts1_bytes f_texts2_size f_texts2_bytes f_names_size_1 f_names_fault_1 f_names_odds_1 f_names_lengths_1 f_names_letters_1 f_names_alike_1 f_names_oddsTogether_1 f_pieces_size_1 f_pieces_fault_1 f_pieces_inside_1 f_pieces_lengths_1 f_pieces_letters_1 f_song_size_1 f_song_fault_1 f_song_letters_1 f_fitting_pieceCount_1 f_fitting_songFits_1 f_fitting_allFit_1 f_fitting_ordered_1 f_fitting_pieceFits_1 f_fitting_inOrder_1 f_spy_stale_15 f_spy_settled_15 f_spy_nights_15)) C (c_Sp_nightsAtWorst l D ct a_spy a_names a_spy_nights a_names_odds a_names_lengths a_names_letters a_names_alike a_names_oddsTogether f_names_size_1 f_names_fault_1 F f_names_alike_1 f_spy_stale f_spy_settled f_spy_nights v12 v15 f_spy_stale_15 f_spy_settled_15 f_spy_nights_15 _ hc15) ⟨rfl, rfl⟩ yn_yX7_nightsAtWorst tw_761 tw_762 tw_760 ⟨Nat.le_of_ble_eq_true rfl, Nat.le_of_ble_eq_true rfl⟩ ⟨Nat.zero_le _, Nat.zero_le _⟩ hP hD hS hA [23, 8, 12, 24] [0, 1, 2, 3, 4, 5, 6, 7, 9, 10, 11, 13, 14, 15, 16, 17, 18, 19, 20, 21, 22] [0, 1, 2, 3, 4, 5, 6, 7, 22, 8, 9, 10, 23, 11, 12, 13, 14, 15, 16, 17, 18, 19, 20, 21, 24] rfl rfl rfl rfl rfl (by decide) rfl rfl rfl rfl rfl rfl hl.1 rfl rfl (Nat.le_of_ble_eq_true rfl) dX10_sure_15 rfl (fun H locs hP hD hS => ?_)
  obtain ⟨e1, e2, e3, e4, e5, e6, e7, e8, e9, e10, e11, e12, e13, e14, e15, e16, e17, e18, e19, e20, e21, e22, e23, e24, e25, e26⟩ := ti26 hf
  subst e1; subst e2; subst e3; subst e4; subst e5; subst e6; subst e7; subst e8; subst e9; subst e10; subst e11; subst e12; subst e13; subst e14; subst e15; subst e16; subst e17; subst e18; subst e19; subst e20; subst e21; subst e22; subst e23; subst e24; subst e25; subst e26
  exact kretM C hP hD hS dX10_sure_18
def RM_ND_isPieceBits : Room := { frames := 0, cells := 0, slots := 0, locals := 0 }
set_option maxHeartbeats 4000000 in
set_option maxRecDepth 100000 in
theorem c_ND_isPieceBits (l : Launch) (D : va_G) (ct : Nat → ClassId) (x0 : Int32) (r : Int32) (hf : ND_isPieceBits x0 = some r) : Met l yX10_isPieceBits (WS yX10_isPieceBits cX10_isPieceBits 1 (some .boolean)) RM_ND_isPieceBits (va_Pc [.int x0] (PR D ct (w_ND_isPieceBits ct))) (QR (some (.int r))) 0 0 (fun _ => False) := by
  refine kMetR yn_yX10_isPieceBits rfl (Nat.le_of_ble_eq_true rfl) ?_
  intro p e s m args below meth c C hP ls hl
  have hl : lv_has ls 1 [(0, .int x0)] := hl
  obtain ⟨hx, hb, hr, hml, hown, hts, hlk, hK, hN⟩ := id C
  unfold ND_isPieceBits at hf
  refine lv_iload_n hx hb dX10_isPieceBits_0 rfl (lv_at hl 0 rfl) ?_
  refine lv_if_lt (tgt := 14) hx hb dX10_isPieceBits_1 (by decide) (fun hc => ?_) (fun hc => ?_)
  · have hf := kpos hc hf
    refine lv_iconst (v := 0) hx hb dX10_isPieceBits_14 (by decide) ?_
    have e1 := Option.some.inj hf
    subst e1
    exact kretRz C (by decide) dX10_isPieceBits_15
  · have hf := kneg hc hf
    refine lv_iload_n hx hb dX10_isPieceBits_4 rfl (lv_at hl 0 rfl) ?_
    refine lv_bipush (v := 63) hx hb dX10_isPieceBits_5 (by decide) ?_
    refine lv_icmp_gt (tgt := 14) hx hb dX10_isPieceBits_7 (by decide) (fun hc => ?_) (fun hc => ?_)
    · have hf := kpos hc hf
      refine lv_iconst (v := 0) hx hb dX10_isPieceBits_14 (by decide) ?_
      have e1 := Option.some.inj hf
      subst e1
      exact kretRz C (by decide) dX10_isPieceBits_15
    · have hf := kneg hc hf
      refine lv_iconst (v := 1) hx hb dX10_isPieceBits_10 (by decide) ?_
      refine lv_goto (tgt := 15) hx hb dX10_isPieceBits_11 (by decide) ?_
      have e1 := Option.some.inj hf
      subst e1
      exact kretRz C (by decide) dX10_isPieceBits_15
def RM_ND_pool : Room := { frames := 5, cells := 0, slots := 0, locals := 117 }
set_option maxHeartbeats 4000000 in
set_option maxRecDepth 100000 in
theorem t_ND_pool_b62 {p : Program} {l : Launch} {e : Env} {s : State} {m : MethodId} {args : Array Value} {below : List Frame} {meth : Method} {c : Code} {D : va_G} {ct : Nat → ClassId} (C : CX p s m args meth c RX10 cX10_pool 4 (some .int) D ct) {A : Nat → Prop} (hA : ∀ q : Nat, s.heap.size ≤ q → A q) (a_this a_texts a_names a_pieces a_song a_fitting a_deal a_guesses a_wise a_spy a_sheets a_texts0 a_texts1 a_texts2 a_texts0_bytes a_texts1_bytes a_texts2_bytes a_names_odds a_names_lengths a_names_letters a_names_alike a_names_oddsTogether a_pieces_inside a_pieces_lengths a_pieces_letters a_song_letters a_fitting_pieceFits a_fitting_inOrder : Nat) (f_finding : Int32) (F : Nat) (f_texts0_size : Int32) (f_texts0_bytes : Nat → Int32) (f_texts1_size : Int32) (f_texts1_bytes : Nat → Int32) (f_texts2_size : Int32) (f_texts2_bytes : Nat → Int32) (x1 : Int32) (x2 : Int32) (x3 : Int32) (r : Int32) (r_stale : Int32) (r_names_size : Int32) (r_names_fault : Int32) (r_names_odds : Nat → Int32) (r_names_lengths : Nat → Int32) (r_names_letters : Nat → Int32) (r_names_alike : Nat → Int32) (r_names_oddsTogether : Nat → Int32) (r_pieces_size : Int32) (r_pieces_fault : Int32) (r_pieces_inside : Nat → Int32) (r_pieces_lengths : Nat → Int32) (r_pieces_letters : Nat → Int32) (r_song_size : Int32) (r_song_fault : Int32) (r_song_letters : Nat → Int32) (r_fitting_pieceCount : Int32) (r_fitting_songFits : Int32) (r_fitting_allFit : Int32) (r_fitting_ordered : Int32) (r_fitting_pieceFits : Nat → Int32) (r_fitting_inOrder : Nat → Int32) : ∀ (k1 : Int32) (f_stale : Int32) (f_names_size : Int32) (f_names_fault : Int32) (f_names_odds : Nat → Int32) (f_names_lengths : Nat → Int32) (f_names_letters : Nat → Int32) (f_names_alike : Nat → Int32) (f_names_oddsTogether : Nat → Int32) (f_pieces_size : Int32) (f_pieces_fault : Int32) (f_pieces_inside : Nat → Int32) (f_pieces_lengths : Nat → Int32) (f_pieces_letters : Nat → Int32) (f_song_size : Int32) (f_song_fault : Int32) (f_song_letters : Nat → Int32) (f_fitting_pieceCount : Int32) (f_fitting_songFits : Int32) (f_fitting_allFit : Int32) (f_fitting_ordered : Int32) (f_fitting_pieceFits : Nat → Int32) (f_fitting_inOrder : Nat → Int32), ND_pool_b62 F f_texts0_size f_texts0_bytes f_texts1_size f_texts1_bytes f_texts2_size f_texts2_bytes x1 x2 x3 k1 f_stale f_names_size f_names_fault f_names_odds f_names_lengths f_names_letters f_names_alike f_names_oddsTogether f_pieces_size f_pieces_fault f_pieces_inside f_pieces_lengths f_pieces_letters f_song_size f_song_fault f_song_letters f_fitting_pieceCount f_fitting_songFits f_fitting_allFit f_fitting_ordered f_fitting_pieceFits f_fitting_inOrder = some (r, r_stale, r_names_size, r_names_fault, r_names_odds, r_names_lengths, r_names_letters, r_names_alike, r_names_oddsTogether, r_pieces_size, r_pieces_fault, r_pieces_inside, r_pieces_lengths, r_pieces_letters, r_song_size, r_song_fault, r_song_letters, r_fitting_pieceCount, r_fitting_songFits, r_fitting_allFit, r_fitting_ordered, r_fitting_pieceFits, r_fitting_inOrder) → ∀ (H : Heap) (locs : List Loc), va_P D vwCl (w_ND_pool ct a_this a_texts a_names a_pieces a_song a_fitting a_deal a_guesses a_wise a_spy a_sheets a_texts0 a_texts1 a_texts2 a_texts0_bytes a_texts1_bytes a_texts2_bytes a_names_odds a_names_lengths a_names_letters a_names_alike a_names_oddsTogether a_pieces_inside a_pieces_lengths a_pieces_letters a_song_letters a_fitting_pieceFits a_fitting_inOrder f_stale f_finding f_texts0_size f_texts0_bytes f_texts1_size f_texts1_bytes f_texts2_size f_texts2_bytes f_names_size f_names_fault f_names_odds f_names_lengths f_names_letters f_names_alike f_names_oddsTogether f_pieces_size f_pieces_fault f_pieces_inside f_pieces_lengths f_pieces_letters f_song_size f_song_fault f_song_letters f_fitting_pieceCount f_fitting_songFits f_fitting_allFit f_fitting_ordered f_fitting_pieceFits f_fitting_inOrder) H → va_D A (w_ND_pool ct a_this a_texts a_names a_pieces a_song a_fitting a_deal a_guesses a_wise a_spy a_sheets a_texts0 a_texts1 a_texts2 a_texts0_bytes a_texts1_bytes a_texts2_bytes a_names_odds a_names_lengths a_names_letters a_names_alike a_names_oddsTogether a_pieces_inside a_pieces_lengths a_pieces_letters a_song_letters a_fitting_pieceFits a_fitting_inOrder f_stale f_finding f_texts0_size f_texts0_bytes f_texts1_size f_texts1_bytes f_texts2_size f_texts2_bytes f_names_size f_names_fault f_names_odds f_names_lengths f_names_letters f_names_alike f_names_oddsTogether f_pieces_size f_pieces_fault f_pieces_inside f_pieces_lengths f_pieces_letters f_song_size f_song_fault f_song_letters f_fitting_pieceCount f_fitting_songFits f_fitting_allFit f_fitting_ordered f_fitting_pieceFits f_fitting_inOrder) → va_S A s.heap H locs → ∀ ls : Array Slot, lv_has ls 4 [] → W p l e RM_ND_pool s m args below meth c H locs 0 0 (MQ below (QM D (some (.int r)) (w_ND_pool ct a_this a_texts a_names a_pieces a_song a_fitting a_deal a_guesses a_wise a_spy a_sheets a_texts0 a_texts1 a_texts2 a_texts0_bytes a_texts1_bytes a_texts2_bytes a_names_odds a_names_lengths a_names_letters a_names_alike a_names_oddsTogether a_pieces_inside a_pieces_lengths a_pieces_letters a_song_letters a_fitting_pieceFits a_fitting_inOrder r_stale f_finding f_texts0_size f_texts0_bytes f_texts1_size f_texts1_bytes f_texts2_size f_texts2_bytes r_names_size r_names_fault r_names_odds r_names_lengths r_names_letters r_names_alike r_names_oddsTogether r_pieces_size r_pieces_fault r_pieces_inside r_pieces_lengths r_pieces_letters r_song_size r_song_fault r_song_letters r_fitting_pieceCount r_fitting_songFits r_fitting_allFit r_fitting_ordered r_fitting_pieceFits r_fitting_inOrder) A) args s 0 0 A) (F0 m 62 ls [.int k1, .ref a_fitting]) := by
  obtain ⟨hx, hb, hr, hml, hown, hts, hlk, hK, hN⟩ := id C
  intro k1 f_stale f_names_size f_names_fault f_names_odds f_names_lengths f_names_letters f_names_alike f_names_oddsTogether f_pieces_size f_pieces_fault f_pieces_inside f_pieces_lengths f_pieces_letters f_song_size f_song_fault f_song_letters f_fitting_pieceCount f_fitting_songFits f_fitting_allFit f_fitting_ordered f_fitting_pieceFits f_fitting_inOrder hf H locs hP hD hS ls hl
  unfold ND_pool_b62 at hf
  obtain ⟨v62, hc62, hf⟩ := cb1_some hf
  refine kcRV (q0 := 20) (ci := 1) (As := [.int k1]) (rest := []) (st1 := [.int v62]) C (c_Fi_by l D ct a_fitting a_fitting_pieceFits a_fitting_inOrder f_fitting_allFit f_fitting_ordered F f_fitting_pieceCount f_fitting_songFits f_fitting_pieceFits k1 v62 hc62) ⟨rfl, rfl⟩ yn_yX1_by tw_467 tw_468 tw_789 ⟨Nat.le_of_ble_eq_true rfl, Nat.le_of_ble_eq_true rfl⟩ ⟨Nat.zero_le _, Nat.zero_le _⟩ hP [20, 21] rfl rfl rfl rfl hl.1 rfl rfl (Nat.le_of_ble_eq_true rfl) dX10_pool_62 rfl ?_
  obtain ⟨v65, hc65, hf⟩ := cb1_some hf
  refine kcRS (As := [.int v62]) (rest := []) (st1 := [.int v65]) C (c_Jint_bitCount l D ct v62 v65 hc65) ⟨rfl, rfl⟩ yn_yJ6_bitCount_0f7a4 tw_749 tw_790 ⟨Nat.le_of_ble_eq_true rfl, Nat.le_of_ble_eq_true rfl⟩ ⟨Nat.zero_le _, Nat.zero_le _⟩ hP [] rfl hl.1 rfl rfl (Nat.le_of_ble_eq_true rfl) dX10_pool_65 rfl ?_
  obtain ⟨e1, e2, e3, e4, e5, e6, e7, e8, e9, e10, e11, e12, e13, e14, e15, e16, e17, e18, e19, e20, e21, e22, e23⟩ := ti23 hf
  subst e1; subst e2; subst e3; subst e4; subst e5; subst e6; subst e7; subst e8; subst e9; subst e10; subst e11; subst e12; subst e13; subst e14; subst e15; subst e16; subst e17; subst e18; subst e19; subst e20; subst e21; subst e22; subst e23
  exact kretM C hP hD hS dX10_pool_68
set_option maxHeartbeats 4000000 in
set_option maxRecDepth 100000 in
theorem c_ND_pool (l : Launch) (D : va_G) (ct : Nat → ClassId) (a_this a_texts a_names a_pieces a_song a_fitting a_deal a_guesses a_wise a_spy a_sheets a_texts0 a_texts1 a_texts2 a_texts0_bytes a_texts1_bytes a_texts2_bytes a_names_odds a_names_lengths a_names_letters a_names_alike a_names_oddsTogether a_pieces_inside a_pieces_lengths a_pieces_letters a_song_letters a_fitting_pieceFits a_fitting_inOrder : Nat) (f_finding : Int32) (F : Nat) (f_texts0_size : Int32) (f_texts0_bytes : Nat → Int32) (f_texts1_size : Int32) (f_texts1_bytes : Nat → Int32) (f_texts2_size : Int32) (f_texts2_bytes : Nat → Int32) (f_stale : Int32) (f_names_size : Int32) (f_names_fault : Int32) (f_names_odds : Nat → Int32) (f_names_lengths : Nat → Int32) (f_names_letters : Nat → Int32) (f_names_alike : Nat → Int32) (f_names_oddsTogether : Nat → Int32) (f_pieces_size : Int32) (f_pieces_fault : Int32) (f_pieces_inside : Nat → Int32) (f_pieces_lengths : Nat → Int32) (f_pieces_letters : Nat → Int32) (f_song_size : Int32) (f_song_fault : Int32) (f_song_letters : Nat → Int32) (f_fitting_pieceCount : Int32) (f_fitting_songFits : Int32) (f_fitting_allFit : Int32) (f_fitting_ordered : Int32) (f_fitting_pieceFits : Nat → Int32) (f_fitting_inOrder : Nat → Int32) (x1 : Int32) (x2 : Int32) (x3 : Int32) (r : Int32) (r_stale : Int32) (r_names_size : Int32) (r_names_fault : Int32) (r_names_odds : Nat → Int32) (r_names_lengths : Nat → Int32) (r_names_letters : Nat → Int32) (r_names_alike : Nat → Int32) (r_names_oddsTogether : Nat → Int32) (r_pieces_size : Int32) (r_pieces_fault : Int32) (r_pieces_inside : Nat → Int32) (r_pieces_lengths : Nat → Int32) (r_pieces_letters : Nat → Int32) (r_song_size : Int32) (r_song_fault : Int32) (r_song_letters : Nat → Int32) (r_fitting_pieceCount : Int32) (r_fitting_songFits : Int32) (r_fitting_allFit : Int32) (r_fitting_ordered : Int32) (r_fitting_pieceFits : Nat → Int32) (r_fitting_inOrder : Nat → Int32) (sz : Nat) (hf : ND_pool F f_texts0_size f_texts0_bytes f_texts1_size f_texts1_bytes f_texts2_size f_texts2_bytes f_stale f_names_size f_names_fault f_names_odds f_names_lengths f_names_letters f_names_alike f_names_oddsTogether f_pieces_size f_pieces_fault f_pieces_inside f_pieces_lengths f_pieces_letters f_song_size f_song_fault f_song_letters f_fitting_pieceCount f_fitting_songFits f_fitting_allFit f_fitting_ordered f_fitting_pieceFits f_fitting_inOrder x1 x2 x3 = some (r, r_stale, r_names_size, r_names_fault, r_names_odds, r_names_lengths, r_names_letters, r_names_alike, r_names_oddsTogether, r_pieces_size, r_pieces_fault, r_pieces_inside, r_pieces_lengths, r_pieces_letters, r_song_size, r_song_fault, r_song_letters, r_fitting_pieceCount, r_fitting_songFits, r_fitting_allFit, r_fitting_ordered, r_fitting_pieceFits, r_fitting_inOrder)) : Met l yX10_pool (WS yX10_pool cX10_pool 4 (some .int)) RM_ND_pool (va_Pc [.ref a_this, .int x1, .int x2, .int x3] (PM D ct sz (w_ND_pool ct a_this a_texts a_names a_pieces a_song a_fitting a_deal a_guesses a_wise a_spy a_sheets a_texts0 a_texts1 a_texts2 a_texts0_bytes a_texts1_bytes a_texts2_bytes a_names_odds a_names_lengths a_names_letters a_names_alike a_names_oddsTogether a_pieces_inside a_pieces_lengths a_pieces_letters a_song_letters a_fitting_pieceFits a_fitting_inOrder f_stale f_finding f_texts0_size f_texts0_bytes f_texts1_size f_texts1_bytes f_texts2_size f_texts2_bytes f_names_size f_names_fault f_names_odds f_names_lengths f_names_letters f_names_alike f_names_oddsTogether f_pieces_size f_pieces_fault f_pieces_inside f_pieces_lengths f_pieces_letters f_song_size f_song_fault f_song_letters f_fitting_pieceCount f_fitting_songFits f_fitting_allFit f_fitting_ordered f_fitting_pieceFits f_fitting_inOrder))) (QM D (some (.int r)) (w_ND_pool ct a_this a_texts a_names a_pieces a_song a_fitting a_deal a_guesses a_wise a_spy a_sheets a_texts0 a_texts1 a_texts2 a_texts0_bytes a_texts1_bytes a_texts2_bytes a_names_odds a_names_lengths a_names_letters a_names_alike a_names_oddsTogether a_pieces_inside a_pieces_lengths a_pieces_letters a_song_letters a_fitting_pieceFits a_fitting_inOrder r_stale f_finding f_texts0_size f_texts0_bytes f_texts1_size f_texts1_bytes f_texts2_size f_texts2_bytes r_names_size r_names_fault r_names_odds r_names_lengths r_names_letters r_names_alike r_names_oddsTogether r_pieces_size r_pieces_fault r_pieces_inside r_pieces_lengths r_pieces_letters r_song_size r_song_fault r_song_letters r_fitting_pieceCount r_fitting_songFits r_fitting_allFit r_fitting_ordered r_fitting_pieceFits r_fitting_inOrder) (va_A (w_ND_pool ct a_this a_texts a_names a_pieces a_song a_fitting a_deal a_guesses a_wise a_spy a_sheets a_texts0 a_texts1 a_texts2 a_texts0_bytes a_texts1_bytes a_texts2_bytes a_names_odds a_names_lengths a_names_letters a_names_alike a_names_oddsTogether a_pieces_inside a_pieces_lengths a_pieces_letters a_song_letters a_fitting_pieceFits a_fitting_inOrder f_stale f_finding f_texts0_size f_texts0_bytes f_texts1_size f_texts1_bytes f_texts2_size f_texts2_bytes f_names_size f_names_fault f_names_odds f_names_lengths f_names_letters f_names_alike f_names_oddsTogether f_pieces_size f_pieces_fault f_pieces_inside f_pieces_lengths f_pieces_letters f_song_size f_song_fault f_song_letters f_fitting_pieceCount f_fitting_songFits f_fitting_allFit f_fitting_ordered f_fitting_pieceFits f_fitting_inOrder) sz)) 0 0 (va_A (w_ND_pool ct a_this a_texts a_names a_pieces a_song a_fitting a_deal a_guesses a_wise a_spy a_sheets a_texts0 a_texts1 a_texts2 a_texts0_bytes a_texts1_bytes a_texts2_bytes a_names_odds a_names_lengths a_names_letters a_names_alike a_names_oddsTogether a_pieces_inside a_pieces_lengths a_pieces_letters a_song_letters a_fitting_pieceFits a_fitting_inOrder f_stale f_finding f_texts0_size f_texts0_bytes f_texts1_size f_texts1_bytes f_texts2_size f_texts2_bytes f_names_size f_names_fault f_names_odds f_names_lengths f_names_letters f_names_alike f_names_oddsTogether f_pieces_size f_pieces_fault f_pieces_inside f_pieces_lengths f_pieces_letters f_song_size f_song_fault f_song_letters f_fitting_pieceCount f_fitting_songFits f_fitting_allFit f_fitting_ordered f_fitting_pieceFits f_fitting_inOrder) sz) := by
  refine kMetM yn_yX10_pool rfl (Nat.le_of_ble_eq_true rfl) ?_
  intro p e s m args below meth c A C hA hP hD ls hl
  have hl : lv_has ls 4 [(0, .ref a_this), (1, .int x1), (2, .int x2), (3, .int x3)] := hl
  have hS : va_S A s.heap s.heap [] := va_S.rf
  obtain ⟨hx, hb, hr, hml, hown, hts, hlk, hK, hN⟩ := id C
  unfold ND_pool at hf
  refine lv_iload_n hx hb dX10_pool_0 rfl (lv_at hl 1 rfl) ?_
  obtain ⟨v1, hc1, hf⟩ := cb1_some hf
  refine kcRS (As := [.int x1]) (rest := []) (st1 := [.int v1]) C (c_ND_isPieceBits l D ct x1 v1 hc1) ⟨rfl, rfl⟩ yn_yX10_isPieceBits tw_787 tw_786 ⟨Nat.le_of_ble_eq_true rfl, Nat.le_of_ble_eq_true rfl⟩ ⟨Nat.zero_le _, Nat.zero_le _⟩ hP [] rfl hl.1 rfl rfl (Nat.le_of_ble_eq_true rfl) dX10_pool_1 rfl ?_
  refine lv_if_eq (tgt := 23) hx hb dX10_pool_4 (by decide) (fun hc => ?_) (fun hc => ?_)
  · have hf := kpos hc hf
    refine lv_bipush (v := (-2)) hx hb dX10_pool_23 (by decide) ?_
    obtain ⟨e1, e2, e3, e4, e5, e6, e7, e8, e9, e10, e11, e12, e13, e14, e15, e16, e17, e18, e19, e20, e21, e22, e23⟩ := ti23 hf
    subst e1; subst e2; subst e3; subst e4; subst e5; subst e6; subst e7; subst e8; subst e9; subst e10; subst e11; subst e12; subst e13; subst e14; subst e15; subst e16; subst e17; subst e18; subst e19; subst e20; subst e21; subst e22; subst e23
    exact kretM C hP hD hS dX10_pool_25
  · have hf := kneg hc hf
    refine lv_iload_n hx hb dX10_pool_7 rfl (lv_at hl 2 rfl) ?_
    obtain ⟨v8, hc8, hf⟩ := cb1_some hf
    refine kcRS (As := [.int x2]) (rest := []) (st1 := [.int v8]) C (c_ND_isPieceBits l D ct x2 v8 hc8) ⟨rfl, rfl⟩ yn_yX10_isPieceBits tw_787 tw_786 ⟨Nat.le_of_ble_eq_true rfl, Nat.le_of_ble_eq_true rfl⟩ ⟨Nat.zero_le _, Nat.zero_le _⟩ hP [] rfl hl.1 rfl rfl (Nat.le_of_ble_eq_true rfl) dX10_pool_8 rfl ?_
    refine lv_if_eq (tgt := 23) hx hb dX10_pool_11 (by decide) (fun hc => ?_) (fun hc => ?_)
    · have hf := kpos hc hf
      refine lv_bipush (v := (-2)) hx hb dX10_pool_23 (by decide) ?_
      obtain ⟨e1, e2, e3, e4, e5, e6, e7, e8, e9, e10, e11, e12, e13, e14, e15, e16, e17, e18, e19, e20, e21, e22, e23⟩ := ti23 hf
      subst e1; subst e2; subst e3; subst e4; subst e5; subst e6; subst e7; subst e8; subst e9; subst e10; subst e11; subst e12; subst e13; subst e14; subst e15; subst e16; subst e17; subst e18; subst e19; subst e20; subst e21; subst e22; subst e23
      exact kretM C hP hD hS dX10_pool_25
    · have hf := kneg hc hf
      refine lv_iload_n hx hb dX10_pool_14 rfl (lv_at hl 3 rfl) ?_
      refine lv_if_lt (tgt := 23) hx hb dX10_pool_15 (by decide) (fun hc => ?_) (fun hc => ?_)
      · have hf := kpos hc hf
        refine lv_bipush (v := (-2)) hx hb dX10_pool_23 (by decide) ?_
        obtain ⟨e1, e2, e3, e4, e5, e6, e7, e8, e9, e10, e11, e12, e13, e14, e15, e16, e17, e18, e19, e20, e21, e22, e23⟩ := ti23 hf
        subst e1; subst e2; subst e3; subst e4; subst e5; subst e6; subst e7; subst e8; subst e9; subst e10; subst e11; subst e12; subst e13; subst e14; subst e15; subst e16; subst e17; subst e18; subst e19; subst e20; subst e21; subst e22; subst e23
        exact kretM C hP hD hS dX10_pool_25
      · have hf := kneg hc hf
        refine lv_iload_n hx hb dX10_pool_18 rfl (lv_at hl 3 rfl) ?_
        refine lv_iconst (v := 2) hx hb dX10_pool_19 (by decide) ?_
        refine lv_icmp_le (tgt := 26) hx hb dX10_pool_20 (by decide) (fun hc => ?_) (fun hc => ?_)
        · have hf := kpos hc hf
          refine lv_aload_n hx hb dX10_pool_26 rfl (lv_at hl 0 rfl) ?_
          obtain ⟨f_stale_27, f_names_size_27, f_names_fault_27, f_names_odds_27, f_names_lengths_27, f_names_letters_27, f_names_alike_27, f_names_oddsTogether_27, f_pieces_size_27, f_pieces_fault_27, f_pieces_inside_27, f_pieces_lengths_27, f_pieces_letters_27, f_song_size_27, f_song_fault_27, f_song_letters_27, f_fitting_pieceCount_27, f_fitting_songFits_27, f_fitting_allFit_27, f_fitting_ordered_27, f_fitting_pieceFits_27, f_fitting_inOrder_27, hc27, hf⟩ := cb22_some hf
          refine kcMV (q0 := 0) (ci := 10) (As := []) (rest := []) (st1 := []) (wf := (w_ND_pool ct a_this a_texts a_names a_pieces a_song a_fitting a_deal a_guesses a_wise a_spy a_sheets a_texts0 a_texts1 a_texts2 a_texts0_bytes a_texts1_bytes a_texts2_bytes a_names_odds a_names_lengths a_names_letters a_names_alike a_names_oddsTogether a_pieces_inside a_pieces_lengths a_pieces_letters a_song_letters a_fitting_pieceFits a_fitting_inOrder f_stale_27 f_finding f_texts0_size f_texts0_bytes f_texts1_size f_texts1_bytes f_texts2_size f_texts2_bytes f_names_size_27 f_names_fault_27 f_names_odds_27 f_names_lengths_27 f_names_letters_27 f_names_alike_27 f_names_oddsTogether_27 f_pieces_size_27 f_pieces_fault_27 f_pieces_inside_27 f_pieces_lengths_27 f_pieces_letters_27 f_song_size_27 f_song_fault_27 f_song_letters_27 f_fitting_pieceCount_27 f_fitting_songFits_27 f_fitting_allFit_27 f_fitting_ordered_27 f_fitting_pieceFits_27 f_fitting_inOrder_27)) C (c_ND_refresh l D ct a_this a_texts a_names a_pieces a_song a_fitting a_deal a_guesses a_wise a_spy a_sheets a_texts0 a_texts1 a_texts2 a_texts0_bytes a_texts1_bytes a_texts2_bytes a_names_odds a_names_lengths a_names_letters a_names_alike a_names_oddsTogether a_pieces_inside a_pieces_lengths a_pieces_letters a_song_letters a_fitting_pieceFits a_fitting_inOrder f_finding F f_texts0_size f_texts0_bytes f_texts1_size f_texts1_bytes f_texts2_size f_texts2_bytes f_stale f_names_size f_names_fault f_names_odds f_names_lengths f_names_letters f_names_alike f_names_oddsTogether f_pieces_size f_pieces_fault f_pieces_inside f_pieces_lengths f_pieces_letters f_song_size f_song_fault f_song_letters f_fitting_pieceCount f_fitting_songFits f_fitting_allFit f_fitting_ordered f_fitting_pieceFits f_fitting_inOrder f_stale_27 f_names_size_27 f_names_fault_27 f_names_odds_27 f_names_lengths_27 f_names_letters_27 f_names_alike_27 f_names_oddsTogether_27 f_pieces_size_27 f_pieces_fault_27 f_pieces_inside_27 f_pieces_lengths_27 f_pieces_letters_27 f_song_size_27 f_song_fault_27 f_song_letters_27 f_fitting_pieceCount_27 f_fitting_songFits_27 f_fitting_allFit_27 f_fitting_ordered_27 f_fitting_pieceFits_27 f_fitting_inOrder_27 _ hc27) ⟨rfl, rfl⟩ yn_yX10_refresh tw_372 tw_1 tw_370 ⟨Nat.le_of_ble_eq_true rfl, Nat.le_of_ble_eq_true rfl⟩ ⟨Nat.zero_le _, Nat.zero_le _⟩ hP hD hS hA [0, 1, 2, 3, 4, 5, 6, 7, 8, 9, 10, 11, 12, 13, 14, 15, 16, 17, 18, 19, 20, 21, 22] [] [0, 1, 2, 3, 4, 5, 6, 7, 8, 9, 10, 11, 12, 13, 14, 15, 16, 17, 18, 19, 20, 21, 22] rfl rfl rfl rfl rfl (by decide) rfl rfl rfl rfl rfl rfl hl.1 rfl rfl (Nat.le_of_ble_eq_true rfl) dX10_pool_27 rfl (fun H locs hP hD hS => ?_)
          refine lv_iload_n hx hb dX10_pool_30 rfl (lv_at hl 3 rfl) ?_
          refine lv_iconst (v := 2) hx hb dX10_pool_31 (by decide) ?_
          refine lv_icmp_ne (tgt := 49) hx hb dX10_pool_32 (by decide) (fun hc => ?_) (fun hc => ?_)
          · have hf := kneg hc hf
            refine lv_aload_n hx hb dX10_pool_49 rfl (lv_at hl 0 rfl) ?_
            refine va_get (ci := 10) (v := .ref a_fitting) (C := RX10) (T := TX10) (N := 12) hx hb hts inX10 hown hK hP 0 rfl rfl 4 (by decide) (hts _ tw_286) (fun _ h9 => h9) rfl dX10_pool_50 ?_
            refine lv_iload_n hx hb dX10_pool_53 rfl (lv_at hl 3 rfl) ?_
            refine lv_if_ne (tgt := 61) hx hb dX10_pool_54 (by decide) (fun hc => ?_) (fun hc => ?_)
            · have hf := kneg hc hf
              refine lv_iload_n hx hb dX10_pool_61 rfl (lv_at hl 2 rfl) ?_
              exact t_ND_pool_b62 C hA a_this a_texts a_names a_pieces a_song a_fitting a_deal a_guesses a_wise a_spy a_sheets a_texts0 a_texts1 a_texts2 a_texts0_bytes a_texts1_bytes a_texts2_bytes a_names_odds a_names_lengths a_names_letters a_names_alike a_names_oddsTogether a_pieces_inside a_pieces_lengths a_pieces_letters a_song_letters a_fitting_pieceFits a_fitting_inOrder f_finding F f_texts0_size f_texts0_bytes f_texts1_size f_texts1_bytes f_texts2_size f_texts2_bytes x1 x2 x3 r r_stale r_names_size r_names_fault r_names_odds r_names_lengths r_names_letters r_names_alike r_names_oddsTogether r_pieces_size r_pieces_fault r_pieces_inside r_pieces_lengths r_pieces_letters r_song_size r_song_fault r_song_letters r_fitting_pieceCount r_fitting_songFits r_fitting_allFit r_fitting_ordered r_fitting_pieceFits r_fitting_inOrder x2 f_stale_27 f_names_size_27 f_names_fault_27 f_names_odds_27 f_names_lengths_27 f_names_letters_27 f_names_alike_27 f_names_oddsTogether_27 f_pieces_size_27 f_pieces_fault_27 f_pieces_inside_27 f_pieces_lengths_27 f_pieces_letters_27 f_song_size_27 f_song_fault_27 f_song_letters_27 f_fitting_pieceCount_27 f_fitting_songFits_27 f_fitting_allFit_27 f_fitting_ordered_27 f_fitting_pieceFits_27 f_fitting_inOrder_27 hf _ _ hP hD hS _ (lv_sub hl [] rfl)
            · have hf := kpos hc hf
              refine lv_iload_n hx hb dX10_pool_57 rfl (lv_at hl 1 rfl) ?_
              refine lv_goto (tgt := 62) hx hb dX10_pool_58 (by decide) ?_
              exact t_ND_pool_b62 C hA a_this a_texts a_names a_pieces a_song a_fitting a_deal a_guesses a_wise a_spy a_sheets a_texts0 a_texts1 a_texts2 a_texts0_bytes a_texts1_bytes a_texts2_bytes a_names_odds a_names_lengths a_names_letters a_names_alike a_names_oddsTogether a_pieces_inside a_pieces_lengths a_pieces_letters a_song_letters a_fitting_pieceFits a_fitting_inOrder f_finding F f_texts0_size f_texts0_bytes f_texts1_size f_texts1_bytes f_texts2_size f_texts2_bytes x1 x2 x3 r r_stale r_names_size r_names_fault r_names_odds r_names_lengths r_names_letters r_names_alike r_names_oddsTogether r_pieces_size r_pieces_fault r_pieces_inside r_pieces_lengths r_pieces_letters r_song_size r_song_fault r_song_letters r_fitting_pieceCount r_fitting_songFits r_fitting_allFit r_fitting_ordered r_fitting_pieceFits r_fitting_inOrder x1 f_stale_27 f_names_size_27 f_names_fault_27 f_names_odds_27 f_names_lengths_27 f_names_letters_27 f_names_alike_27 f_names_oddsTogether_27 f_pieces_size_27 f_pieces_fault_27 f_pieces_inside_27 f_pieces_lengths_27 f_pieces_letters_27 f_song_size_27 f_song_fault_27 f_song_letters_27 f_fitting_pieceCount_27 f_fitting_songFits_27 f_fitting_allFit_27 f_fitting_ordered_27 f_fitting_pieceFits_27 f_fitting_inOrder_27 hf _ _ hP hD hS _ (lv_sub hl [] rfl)
          · have hf := kpos hc hf
            refine lv_aload_n hx hb dX10_pool_35 rfl (lv_at hl 0 rfl) ?_
            refine va_get (ci := 10) (v := .ref a_fitting) (C := RX10) (T := TX10) (N := 12) hx hb hts inX10 hown hK hP 0 rfl rfl 4 (by decide) (hts _ tw_286) (fun _ h9 => h9) rfl dX10_pool_36 ?_
            refine lv_iload_n hx hb dX10_pool_39 rfl (lv_at hl 1 rfl) ?_
            refine lv_iload_n hx hb dX10_pool_40 rfl (lv_at hl 2 rfl) ?_
            refine lv_ior hx hb dX10_pool_41 ?_
            obtain ⟨v42, hc42, hf⟩ := cb1_some hf
            refine kcRV (q0 := 20) (ci := 1) (As := [.int (x1 ||| x2)]) (rest := []) (st1 := [.int v42]) C (c_Fi_by l D ct a_fitting a_fitting_pieceFits a_fitting_inOrder f_fitting_allFit_27 f_fitting_ordered_27 F f_fitting_pieceCount_27 f_fitting_songFits_27 f_fitting_pieceFits_27 (x1 ||| x2) v42 hc42) ⟨rfl, rfl⟩ yn_yX1_by tw_467 tw_468 tw_789 ⟨Nat.le_of_ble_eq_true rfl, Nat.le_of_ble_eq_true rfl⟩ ⟨Nat.zero_le _, Nat.zero_le _⟩ hP [20, 21] rfl rfl rfl rfl hl.1 rfl rfl (Nat.le_of_ble_eq_true rfl) dX10_pool_42 rfl ?_
            obtain ⟨v45, hc45, hf⟩ := cb1_some hf
            refine kcRS (As := [.int v42]) (rest := []) (st1 := [.int v45]) C (c_Jint_bitCount l D ct v42 v45 hc45) ⟨rfl, rfl⟩ yn_yJ6_bitCount_0f7a4 tw_749 tw_790 ⟨Nat.le_of_ble_eq_true rfl, Nat.le_of_ble_eq_true rfl⟩ ⟨Nat.zero_le _, Nat.zero_le _⟩ hP [] rfl hl.1 rfl rfl (Nat.le_of_ble_eq_true rfl) dX10_pool_45 rfl ?_
            obtain ⟨e1, e2, e3, e4, e5, e6, e7, e8, e9, e10, e11, e12, e13, e14, e15, e16, e17, e18, e19, e20, e21, e22, e23⟩ := ti23 hf
            subst e1; subst e2; subst e3; subst e4; subst e5; subst e6; subst e7; subst e8; subst e9; subst e10; subst e11; subst e12; subst e13; subst e14; subst e15; subst e16; subst e17; subst e18; subst e19; subst e20; subst e21; subst e22; subst e23
            exact kretM C hP hD hS dX10_pool_48
        · have hf := kneg hc hf
          refine lv_bipush (v := (-2)) hx hb dX10_pool_23 (by decide) ?_
          obtain ⟨e1, e2, e3, e4, e5, e6, e7, e8, e9, e10, e11, e12, e13, e14, e15, e16, e17, e18, e19, e20, e21, e22, e23⟩ := ti23 hf
          subst e1; subst e2; subst e3; subst e4; subst e5; subst e6; subst e7; subst e8; subst e9; subst e10; subst e11; subst e12; subst e13; subst e14; subst e15; subst e16; subst e17; subst e18; subst e19; subst e20; subst e21; subst e22; subst e23
          exact kretM C hP hD hS dX10_pool_25
