def RM_ND_isZeroOrOne : Room := { frames := 0, cells := 0, slots := 0, locals := 0 }
set_option maxHeartbeats 4000000 in
set_option maxRecDepth 100000 in
theorem t_ND_isZeroOrOne_b9 {p : Program} {l : Launch} {e : Env} {s : State} {m : MethodId} {args : Array Value} {below : List Frame} {meth : Method} {c : Code} {D : va_G} {ct : Nat → ClassId} (C : CX p s m args meth c RX10 cX10_isZeroOrOne 1 (some .boolean) D ct) (x0 : Int32) (r : Int32) : ND_isZeroOrOne_b9 x0 = some r → va_P D vwCl (w_ND_isZeroOrOne ct) s.heap → ∀ ls : Array Slot, lv_has ls 1 [] → W p l e RM_ND_isZeroOrOne s m args below meth c s.heap [] 0 0 (MQ below (QR (some (.int r))) args s 0 0 (fun _ => False)) (F0 m 9 ls []) := by
  obtain ⟨hx, hb, hr, hml, hown, hts, hlk, hK, hN⟩ := id C
  intro hf hP ls hl
  unfold ND_isZeroOrOne_b9 at hf
  refine lv_iconst (v := 1) hx hb dX10_isZeroOrOne_9 (by decide) ?_
  refine lv_goto (tgt := 14) hx hb dX10_isZeroOrOne_10 (by decide) ?_
  have e1 := Option.some.inj hf
  subst e1
  exact kretRz C (by decide) dX10_isZeroOrOne_14
set_option maxHeartbeats 4000000 in
set_option maxRecDepth 100000 in
theorem c_ND_isZeroOrOne (l : Launch) (D : va_G) (ct : Nat → ClassId) (x0 : Int32) (r : Int32) (hf : ND_isZeroOrOne x0 = some r) : Met l yX10_isZeroOrOne (WS yX10_isZeroOrOne cX10_isZeroOrOne 1 (some .boolean)) RM_ND_isZeroOrOne (va_Pc [.int x0] (PR D ct (w_ND_isZeroOrOne ct))) (QR (some (.int r))) 0 0 (fun _ => False) := by
  refine kMetR yn_yX10_isZeroOrOne rfl (Nat.le_of_ble_eq_true rfl) ?_
  intro p e s m args below meth c C hP ls hl
  have hl : lv_has ls 1 [(0, .int x0)] := hl
  obtain ⟨hx, hb, hr, hml, hown, hts, hlk, hK, hN⟩ := id C
  unfold ND_isZeroOrOne at hf
  refine lv_iload_n hx hb dX10_isZeroOrOne_0 rfl (lv_at hl 0 rfl) ?_
  refine lv_if_eq (tgt := 9) hx hb dX10_isZeroOrOne_1 (by decide) (fun hc => ?_) (fun hc => ?_)
  · have hf := kpos hc hf
    exact t_ND_isZeroOrOne_b9 C x0 r hf hP _ (lv_sub hl [] rfl)
  · have hf := kneg hc hf
    refine lv_iload_n hx hb dX10_isZeroOrOne_4 rfl (lv_at hl 0 rfl) ?_
    refine lv_iconst (v := 1) hx hb dX10_isZeroOrOne_5 (by decide) ?_
    refine lv_icmp_ne (tgt := 13) hx hb dX10_isZeroOrOne_6 (by decide) (fun hc => ?_) (fun hc => ?_)
    · have hf := kneg hc hf
      refine lv_iconst (v := 0) hx hb dX10_isZeroOrOne_13 (by decide) ?_
      have e1 := Option.some.inj hf
      subst e1
      exact kretRz C (by decide) dX10_isZeroOrOne_14
    · have hf := kpos hc hf
      exact t_ND_isZeroOrOne_b9 C x0 r hf hP _ (lv_sub hl [] rfl)
def RM_ND_asLong : Room := { frames := 0, cells := 0, slots := 0, locals := 0 }
set_option maxHeartbeats 4000000 in
set_option maxRecDepth 100000 in
theorem c_ND_asLong (l : Launch) (D : va_G) (ct : Nat → ClassId) (x0 : Int32) (r : Int64) (hf : ND_asLong x0 = some r) : Met l yX10_asLong (WS yX10_asLong cX10_asLong 1 (some .long)) RM_ND_asLong (va_Pc [.int x0] (PR D ct (w_ND_asLong ct))) (QR (some (.long r))) 0 0 (fun _ => False) := by
  refine kMetR yn_yX10_asLong rfl (Nat.le_of_ble_eq_true rfl) ?_
  intro p e s m args below meth c C hP ls hl
  have hl : lv_has ls 1 [(0, .int x0)] := hl
  obtain ⟨hx, hb, hr, hml, hown, hts, hlk, hK, hN⟩ := id C
  unfold ND_asLong at hf
  refine lv_ldc2 (v := (-9223372036854775808)) hx hb hown (hts _ tw_590) dX10_asLong_0 ?_
  refine lv_iload_n hx hb dX10_asLong_3 rfl (lv_at hl 0 rfl) ?_
  refine lv_i2l (v := Int32.toInt64 x0) hx hb dX10_asLong_4 rfl ?_
  refine lv_lsub hx hb dX10_asLong_5 ?_
  have e1 := Option.some.inj hf
  subst e1
  exact kretRl C dX10_asLong_6
def RM_Na_oddsOfAll : Room := { frames := 0, cells := 0, slots := 0, locals := 0 }
set_option maxHeartbeats 4000000 in
set_option maxRecDepth 100000 in
theorem c_Na_oddsOfAll (l : Launch) (D : va_G) (ct : Nat → ClassId) (a_this a_odds a_lengths a_letters a_alike a_oddsTogether : Nat) (f_fault : Int32) (f_size : Int32) (f_oddsTogether : Nat → Int32) (x1 : Int32) (r : Int32) (hf : Na_oddsOfAll f_size f_oddsTogether x1 = some r) : Met l yX3_oddsOfAll (WS yX3_oddsOfAll cX3_oddsOfAll 2 (some .int)) RM_Na_oddsOfAll (va_Pc [.ref a_this, .int x1] (PR D ct (w_Na_oddsOfAll ct a_this a_odds a_lengths a_letters a_alike a_oddsTogether f_size f_fault f_oddsTogether))) (QR (some (.int r))) 0 0 (fun _ => False) := by
  refine kMetR yn_yX3_oddsOfAll rfl (Nat.le_of_ble_eq_true rfl) ?_
  intro p e s m args below meth c C hP ls hl
  have hl : lv_has ls 2 [(0, .ref a_this), (1, .int x1)] := hl
  obtain ⟨hx, hb, hr, hml, hown, hts, hlk, hK, hN⟩ := id C
  unfold Na_oddsOfAll at hf
  refine lv_aload_n hx hb dX3_oddsOfAll_0 rfl (lv_at hl 0 rfl) ?_
  refine va_get (ci := 3) (v := .ref a_oddsTogether) (C := RX3) (T := TX3) (N := 7) hx hb hts inX3 hown hK hP 0 rfl rfl 4 (by decide) (hts _ tw_123) (fun _ h9 => h9) rfl dX3_oddsOfAll_1 ?_
  refine lv_iload_n hx hb dX3_oddsOfAll_4 rfl (lv_at hl 1 rfl) ?_
  refine lv_iconst (v := 1) hx hb dX3_oddsOfAll_5 (by decide) ?_
  refine lv_aload_n hx hb dX3_oddsOfAll_6 rfl (lv_at hl 0 rfl) ?_
  refine va_get (ci := 3) (v := .int f_size) (C := RX3) (T := TX3) (N := 7) hx hb hts inX3 hown hK hP 0 rfl rfl 5 (by decide) (hts _ tw_124) (fun _ h9 => h9) rfl dX3_oddsOfAll_7 ?_
  refine lv_ishl hx hb dX3_oddsOfAll_10 ?_
  refine lv_iconst (v := 1) hx hb dX3_oddsOfAll_11 (by decide) ?_
  refine lv_isub hx hb dX3_oddsOfAll_12 ?_
  refine lv_iand hx hb dX3_oddsOfAll_13 ?_
  obtain ⟨hin, hf⟩ := rd_some hf
  generalize ev14 : f_oddsTogether (Int32.toNatClampNeg (x1 &&& (((1 : Int32) <<< (f_size &&& 31)) - 1))) = v14 at hf
  refine kiald hx hb hK hP 1 0 rfl rfl hin ev14 dX3_oddsOfAll_14 ?_
  have e1 := Option.some.inj hf
  subst e1
  exact kretR C dX3_oddsOfAll_15
def RM_ND_greatestDivisor : Room := { frames := 0, cells := 0, slots := 0, locals := 0 }
set_option maxHeartbeats 4000000 in
set_option maxRecDepth 100000 in
theorem t_ND_greatestDivisor_b7 {p : Program} {l : Launch} {e : Env} {s : State} {m : MethodId} {args : Array Value} {below : List Frame} {meth : Method} {c : Code} {D : va_G} {ct : Nat → ClassId} (C : CX p s m args meth c RX10 cX10_greatestDivisor 6 (some .int) D ct) (F : Nat) (x0 : Int32) (x1 : Int32) (r : Int32) (rec7 : Int32 → Int32 → Int32 → Option Int32) (hr7 : ∀ (x2 : Int32) (x3 : Int32) (x4 : Int32), rec7 x2 x3 x4 = some r → va_P D vwCl (w_ND_greatestDivisor ct) s.heap → ∀ ls : Array Slot, lv_has ls 6 [(2, .int x2), (3, .int x3), (4, .int x4)] → W p l e RM_ND_greatestDivisor s m args below meth c s.heap [] 0 0 (MQ below (QR (some (.int r))) args s 0 0 (fun _ => False)) (F0 m 7 ls [])) : ∀ (x2 : Int32) (x3 : Int32) (x4 : Int32), ND_greatestDivisor_b7 F x0 x1 rec7 x2 x3 x4 = some r → va_P D vwCl (w_ND_greatestDivisor ct) s.heap → ∀ ls : Array Slot, lv_has ls 6 [(2, .int x2), (3, .int x3), (4, .int x4)] → W p l e RM_ND_greatestDivisor s m args below meth c s.heap [] 0 0 (MQ below (QR (some (.int r))) args s 0 0 (fun _ => False)) (F0 m 7 ls []) := by
  obtain ⟨hx, hb, hr, hml, hown, hts, hlk, hK, hN⟩ := id C
  intro x2 x3 x4 hf hP ls hl
  unfold ND_greatestDivisor_b7 at hf
  refine lv_iload hx hb dX10_greatestDivisor_7 (lv_at hl 2 rfl) ?_
  refine lv_bipush (v := 100) hx hb dX10_greatestDivisor_9 (by decide) ?_
  refine lv_icmp_ge (tgt := 34) hx hb dX10_greatestDivisor_11 (by decide) (fun hc => ?_) (fun hc => ?_)
  · have hf := kpos hc hf
    refine lv_iload_n hx hb dX10_greatestDivisor_34 rfl (lv_at hl 0 rfl) ?_
    have e1 := Option.some.inj hf
    subst e1
    exact kretR C dX10_greatestDivisor_35
  · have hf := kneg hc hf
    refine lv_iload_n hx hb dX10_greatestDivisor_14 rfl (lv_at hl 1 rfl) ?_
    refine lv_if_eq (tgt := 34) hx hb dX10_greatestDivisor_15 (by decide) (fun hc => ?_) (fun hc => ?_)
    · have hf := kpos hc hf
      refine lv_iload_n hx hb dX10_greatestDivisor_34 rfl (lv_at hl 0 rfl) ?_
      have e1 := Option.some.inj hf
      subst e1
      exact kretR C dX10_greatestDivisor_35
    · have hf := kneg hc hf
      refine lv_iload_n hx hb dX10_greatestDivisor_18 rfl (lv_at hl 0 rfl) ?_
      refine lv_iload_n hx hb dX10_greatestDivisor_19 rfl (lv_at hl 1 rfl) ?_
      obtain ⟨hne, hf⟩ := gd_some hf
      refine lv_irem hx hb dX10_greatestDivisor_20 hne ?_
      refine lv_istore (lv' := [(5, .int (x2 - x2 / x3 * x3)), (2, .int x2), (3, .int x3), (4, .int x4)]) hx hb dX10_greatestDivisor_21 hl (by decide) rfl (fun ls hl => ?_)
      refine lv_iload_n hx hb dX10_greatestDivisor_23 rfl (lv_at hl 2 rfl) ?_
      refine lv_istore_n (lv' := [(2, .int x3), (5, .int (x2 - x2 / x3 * x3)), (3, .int x3), (4, .int x4)]) hx hb dX10_greatestDivisor_24 rfl hl (by decide) rfl (fun ls hl => ?_)
      refine lv_iload hx hb dX10_greatestDivisor_25 (lv_at hl 1 rfl) ?_
      refine lv_istore_n (lv' := [(3, .int (x2 - x2 / x3 * x3)), (2, .int x3), (5, .int (x2 - x2 / x3 * x3)), (4, .int x4)]) hx hb dX10_greatestDivisor_27 rfl hl (by decide) rfl (fun ls hl => ?_)
      refine lv_iinc (v := x4 + 1) (lv' := [(4, .int (x4 + 1)), (3, .int (x2 - x2 / x3 * x3)), (2, .int x3), (5, .int (x2 - x2 / x3 * x3))]) hx hb dX10_greatestDivisor_28 hl (k := 3) rfl rfl (by decide) rfl (fun ls hl => ?_)
      refine lv_goto (tgt := 7) hx hb dX10_greatestDivisor_31 (by decide) ?_
      exact hr7 x3 (x2 - x2 / x3 * x3) (x4 + 1) hf hP _ (lv_sub hl [2, 1, 0] rfl)
set_option maxHeartbeats 4000000 in
set_option maxRecDepth 100000 in
theorem t_ND_greatestDivisor_l7 {p : Program} {l : Launch} {e : Env} {s : State} {m : MethodId} {args : Array Value} {below : List Frame} {meth : Method} {c : Code} {D : va_G} {ct : Nat → ClassId} (C : CX p s m args meth c RX10 cX10_greatestDivisor 6 (some .int) D ct) (F : Nat) (x0 : Int32) (x1 : Int32) (r : Int32) : ∀ (n : Nat) (x2 : Int32) (x3 : Int32) (x4 : Int32), ND_greatestDivisor_l7 F x0 x1 n x2 x3 x4 = some r → va_P D vwCl (w_ND_greatestDivisor ct) s.heap → ∀ ls : Array Slot, lv_has ls 6 [(2, .int x2), (3, .int x3), (4, .int x4)] → W p l e RM_ND_greatestDivisor s m args below meth c s.heap [] 0 0 (MQ below (QR (some (.int r))) args s 0 0 (fun _ => False)) (F0 m 7 ls []) := by
  intro n
  induction n with
  | zero =>
    intro x2 x3 x4 hf
    exact absurd hf (by simp [ND_greatestDivisor_l7])
  | succ n ih =>
    intro x2 x3 x4 hf
    exact t_ND_greatestDivisor_b7 C F x0 x1 r (ND_greatestDivisor_l7 F x0 x1 n) ih x2 x3 x4 hf
set_option maxHeartbeats 4000000 in
set_option maxRecDepth 100000 in
theorem c_ND_greatestDivisor (l : Launch) (D : va_G) (ct : Nat → ClassId) (F : Nat) (x0 : Int32) (x1 : Int32) (r : Int32) (hf : ND_greatestDivisor F x0 x1 = some r) : Met l yX10_greatestDivisor (WS yX10_greatestDivisor cX10_greatestDivisor 6 (some .int)) RM_ND_greatestDivisor (va_Pc [.int x0, .int x1] (PR D ct (w_ND_greatestDivisor ct))) (QR (some (.int r))) 0 0 (fun _ => False) := by
  refine kMetR yn_yX10_greatestDivisor rfl (Nat.le_of_ble_eq_true rfl) ?_
  intro p e s m args below meth c C hP ls hl
  have hl : lv_has ls 6 [(0, .int x0), (1, .int x1)] := hl
  obtain ⟨hx, hb, hr, hml, hown, hts, hlk, hK, hN⟩ := id C
  unfold ND_greatestDivisor at hf
  refine lv_iload_n hx hb dX10_greatestDivisor_0 rfl (lv_at hl 0 rfl) ?_
  refine lv_istore_n (lv' := [(2, .int x0), (0, .int x0), (1, .int x1)]) hx hb dX10_greatestDivisor_1 rfl hl (by decide) rfl (fun ls hl => ?_)
  refine lv_iload_n hx hb dX10_greatestDivisor_2 rfl (lv_at hl 2 rfl) ?_
  refine lv_istore_n (lv' := [(3, .int x1), (2, .int x0), (0, .int x0), (1, .int x1)]) hx hb dX10_greatestDivisor_3 rfl hl (by decide) rfl (fun ls hl => ?_)
  refine lv_iconst (v := 0) hx hb dX10_greatestDivisor_4 (by decide) ?_
  refine lv_istore (lv' := [(4, .int 0), (3, .int x1), (2, .int x0), (0, .int x0), (1, .int x1)]) hx hb dX10_greatestDivisor_5 hl (by decide) rfl (fun ls hl => ?_)
  exact t_ND_greatestDivisor_l7 C F x0 x1 r F x0 x1 0 hf hP _ (lv_sub hl [2, 1, 0] rfl)
def RM_ND_lowestTerm : Room := { frames := 1, cells := 0, slots := 0, locals := 25 }
set_option maxHeartbeats 4000000 in
set_option maxRecDepth 100000 in
theorem t_ND_lowestTerm_b21 {p : Program} {l : Launch} {e : Env} {s : State} {m : MethodId} {args : Array Value} {below : List Frame} {meth : Method} {c : Code} {D : va_G} {ct : Nat → ClassId} (C : CX p s m args meth c RX10 cX10_lowestTerm 4 (some .int) D ct) (F : Nat) (x0 : Int32) (x1 : Int32) (x2 : Int32) (r : Int32) : ∀ (x3 : Int32) (k0 : Int32), ND_lowestTerm_b21 F x0 x1 x2 x3 k0 = some r → va_P D vwCl (w_ND_lowestTerm ct) s.heap → ∀ ls : Array Slot, lv_has ls 4 [(3, .int x3)] → W p l e RM_ND_lowestTerm s m args below meth c s.heap [] 0 0 (MQ below (QR (some (.int r))) args s 0 0 (fun _ => False)) (F0 m 21 ls [.int k0]) := by
  obtain ⟨hx, hb, hr, hml, hown, hts, hlk, hK, hN⟩ := id C
  intro x3 k0 hf hP ls hl
  unfold ND_lowestTerm_b21 at hf
  refine lv_iload_n hx hb dX10_lowestTerm_21 rfl (lv_at hl 0 rfl) ?_
  obtain ⟨hne, hf⟩ := gd_some hf
  refine lv_idiv hx hb dX10_lowestTerm_22 hne ?_
  have e1 := Option.some.inj hf
  subst e1
  exact kretR C dX10_lowestTerm_23
set_option maxHeartbeats 4000000 in
set_option maxRecDepth 100000 in
theorem c_ND_lowestTerm (l : Launch) (D : va_G) (ct : Nat → ClassId) (F : Nat) (x0 : Int32) (x1 : Int32) (x2 : Int32) (r : Int32) (hf : ND_lowestTerm F x0 x1 x2 = some r) : Met l yX10_lowestTerm (WS yX10_lowestTerm cX10_lowestTerm 4 (some .int)) RM_ND_lowestTerm (va_Pc [.int x0, .int x1, .int x2] (PR D ct (w_ND_lowestTerm ct))) (QR (some (.int r))) 0 0 (fun _ => False) := by
  refine kMetR yn_yX10_lowestTerm rfl (Nat.le_of_ble_eq_true rfl) ?_
  intro p e s m args below meth c C hP ls hl
  have hl : lv_has ls 4 [(0, .int x0), (1, .int x1), (2, .int x2)] := hl
  obtain ⟨hx, hb, hr, hml, hown, hts, hlk, hK, hN⟩ := id C
  unfold ND_lowestTerm at hf
  refine lv_iload_n hx hb dX10_lowestTerm_0 rfl (lv_at hl 0 rfl) ?_
  refine lv_iload_n hx hb dX10_lowestTerm_1 rfl (lv_at hl 1 rfl) ?_
  obtain ⟨v2, hc2, hf⟩ := cb1_some hf
  refine kcRS (As := [.int x0, .int x1]) (rest := []) (st1 := [.int v2]) C (c_ND_greatestDivisor l D ct F x0 x1 v2 hc2) ⟨rfl, rfl⟩ yn_yX10_greatestDivisor tw_599 tw_598 ⟨Nat.le_of_ble_eq_true rfl, Nat.le_of_ble_eq_true rfl⟩ ⟨Nat.zero_le _, Nat.zero_le _⟩ hP [] rfl hl.1 rfl rfl (Nat.le_of_ble_eq_true rfl) dX10_lowestTerm_2 rfl ?_
  refine lv_istore_n (lv' := [(3, .int v2), (0, .int x0), (1, .int x1), (2, .int x2)]) hx hb dX10_lowestTerm_5 rfl hl (by decide) rfl (fun ls hl => ?_)
  refine lv_iload_n hx hb dX10_lowestTerm_6 rfl (lv_at hl 0 rfl) ?_
  refine lv_if_ne (tgt := 12) hx hb dX10_lowestTerm_7 (by decide) (fun hc => ?_) (fun hc => ?_)
  · have hf := kneg hc hf
    refine lv_iload_n hx hb dX10_lowestTerm_12 rfl (lv_at hl 3 rfl) ?_
    refine lv_if_ne (tgt := 20) hx hb dX10_lowestTerm_13 (by decide) (fun hc => ?_) (fun hc => ?_)
    · have hf := kneg hc hf
      refine lv_iload_n hx hb dX10_lowestTerm_20 rfl (lv_at hl 2 rfl) ?_
      exact t_ND_lowestTerm_b21 C F x0 x1 x2 r v2 x1 hf hP _ (lv_sub hl [0] rfl)
    · have hf := kpos hc hf
      refine lv_iload_n hx hb dX10_lowestTerm_16 rfl (lv_at hl 1 rfl) ?_
      refine lv_goto (tgt := 21) hx hb dX10_lowestTerm_17 (by decide) ?_
      exact t_ND_lowestTerm_b21 C F x0 x1 x2 r v2 x0 hf hP _ (lv_sub hl [0] rfl)
  · have hf := kpos hc hf
    refine lv_iload_n hx hb dX10_lowestTerm_10 rfl (lv_at hl 3 rfl) ?_
    have e1 := Option.some.inj hf
    subst e1
    exact kretR C dX10_lowestTerm_11
def RM_ND_chance : Room := { frames := 5, cells := 0, slots := 0, locals := 117 }
set_option maxHeartbeats 4000000 in
set_option maxRecDepth 100000 in
theorem t_ND_chance_b66 {p : Program} {l : Launch} {e : Env} {s : State} {m : MethodId} {args : Array Value} {below : List Frame} {meth : Method} {c : Code} {D : va_G} {ct : Nat → ClassId} (C : CX p s m args meth c RX10 cX10_chance 5 (some .long) D ct) {A : Nat → Prop} (hA : ∀ q : Nat, s.heap.size ≤ q → A q) (a_this a_texts a_names a_pieces a_song a_fitting a_deal a_guesses a_wise a_spy a_sheets a_texts0 a_texts1 a_texts2 a_texts0_bytes a_texts1_bytes a_texts2_bytes a_names_odds a_names_lengths a_names_letters a_names_alike a_names_oddsTogether a_pieces_inside a_pieces_lengths a_pieces_letters a_song_letters a_fitting_pieceFits a_fitting_inOrder : Nat) (f_finding : Int32) (F : Nat) (f_texts0_size : Int32) (f_texts0_bytes : Nat → Int32) (f_texts1_size : Int32) (f_texts1_bytes : Nat → Int32) (f_texts2_size : Int32) (f_texts2_bytes : Nat → Int32) (x1 : Int32) (x2 : Int32) (r : Int64) (r_stale : Int32) (r_names_size : Int32) (r_names_fault : Int32) (r_names_odds : Nat → Int32) (r_names_lengths : Nat → Int32) (r_names_letters : Nat → Int32) (r_names_alike : Nat → Int32) (r_names_oddsTogether : Nat → Int32) (r_pieces_size : Int32) (r_pieces_fault : Int32) (r_pieces_inside : Nat → Int32) (r_pieces_lengths : Nat → Int32) (r_pieces_letters : Nat → Int32) (r_song_size : Int32) (r_song_fault : Int32) (r_song_letters : Nat → Int32) (r_fitting_pieceCount : Int32) (r_fitting_songFits : Int32) (r_fitting_allFit : Int32) (r_fitting_ordered : Int32) (r_fitting_pieceFits : Nat → Int32) (r_fitting_inOrder : Nat → Int32) : ∀ (x3 : Int32) (k0 : Int32) (f_stale : Int32) (f_names_size : Int32) (f_names_fault : Int32) (f_names_odds : Nat → Int32) (f_names_lengths : Nat → Int32) (f_names_letters : Nat → Int32) (f_names_alike : Nat → Int32) (f_names_oddsTogether : Nat → Int32) (f_pieces_size : Int32) (f_pieces_fault : Int32) (f_pieces_inside : Nat → Int32) (f_pieces_lengths : Nat → Int32) (f_pieces_letters : Nat → Int32) (f_song_size : Int32) (f_song_fault : Int32) (f_song_letters : Nat → Int32) (f_fitting_pieceCount : Int32) (f_fitting_songFits : Int32) (f_fitting_allFit : Int32) (f_fitting_ordered : Int32) (f_fitting_pieceFits : Nat → Int32) (f_fitting_inOrder : Nat → Int32), ND_chance_b66 F f_texts0_size f_texts0_bytes f_texts1_size f_texts1_bytes f_texts2_size f_texts2_bytes x1 x2 x3 k0 f_stale f_names_size f_names_fault f_names_odds f_names_lengths f_names_letters f_names_alike f_names_oddsTogether f_pieces_size f_pieces_fault f_pieces_inside f_pieces_lengths f_pieces_letters f_song_size f_song_fault f_song_letters f_fitting_pieceCount f_fitting_songFits f_fitting_allFit f_fitting_ordered f_fitting_pieceFits f_fitting_inOrder = some (r, r_stale, r_names_size, r_names_fault, r_names_odds, r_names_lengths, r_names_letters, r_names_alike, r_names_oddsTogether, r_pieces_size, r_pieces_fault, r_pieces_inside, r_pieces_lengths, r_pieces_letters, r_song_size, r_song_fault, r_song_letters, r_fitting_pieceCount, r_fitting_songFits, r_fitting_allFit, r_fitting_ordered, r_fitting_pieceFits, r_fitting_inOrder) → ∀ (H : Heap) (locs : List Loc), va_P D vwCl (w_ND_chance ct a_this a_texts a_names a_pieces a_song a_fitting a_deal a_guesses a_wise a_spy a_sheets a_texts0 a_texts1 a_texts2 a_texts0_bytes a_texts1_bytes a_texts2_bytes a_names_odds a_names_lengths a_names_letters a_names_alike a_names_oddsTogether a_pieces_inside a_pieces_lengths a_pieces_letters a_song_letters a_fitting_pieceFits a_fitting_inOrder f_stale f_finding f_texts0_size f_texts0_bytes f_texts1_size f_texts1_bytes f_texts2_size f_texts2_bytes f_names_size f_names_fault f_names_odds f_names_lengths f_names_letters f_names_alike f_names_oddsTogether f_pieces_size f_pieces_fault f_pieces_inside f_pieces_lengths f_pieces_letters f_song_size f_song_fault f_song_letters f_fitting_pieceCount f_fitting_songFits f_fitting_allFit f_fitting_ordered f_fitting_pieceFits f_fitting_inOrder) H → va_D A (w_ND_chance ct a_this a_texts a_names a_pieces a_song a_fitting a_deal a_guesses a_wise a_spy a_sheets a_texts0 a_texts1 a_texts2 a_texts0_bytes a_texts1_bytes a_texts2_bytes a_names_odds a_names_lengths a_names_letters a_names_alike a_names_oddsTogether a_pieces_inside a_pieces_lengths a_pieces_letters a_song_letters a_fitting_pieceFits a_fitting_inOrder f_stale f_finding f_texts0_size f_texts0_bytes f_texts1_size f_texts1_bytes f_texts2_size f_texts2_bytes f_names_size f_names_fault f_names_odds f_names_lengths f_names_letters f_names_alike f_names_oddsTogether f_pieces_size f_pieces_fault f_pieces_inside f_pieces_lengths f_pieces_letters f_song_size f_song_fault f_song_letters f_fitting_pieceCount f_fitting_songFits f_fitting_allFit f_fitting_ordered f_fitting_pieceFits f_fitting_inOrder) → va_S A s.heap H locs → ∀ ls : Array Slot, lv_has ls 5 [(0, .ref a_this), (2, .int x2), (3, .int x3)] → W p l e RM_ND_chance s m args below meth c H locs 0 0 (MQ below (QM D (some (.long r)) (w_ND_chance ct a_this a_texts a_names a_pieces a_song a_fitting a_deal a_guesses a_wise a_spy a_sheets a_texts0 a_texts1 a_texts2 a_texts0_bytes a_texts1_bytes a_texts2_bytes a_names_odds a_names_lengths a_names_letters a_names_alike a_names_oddsTogether a_pieces_inside a_pieces_lengths a_pieces_letters a_song_letters a_fitting_pieceFits a_fitting_inOrder r_stale f_finding f_texts0_size f_texts0_bytes f_texts1_size f_texts1_bytes f_texts2_size f_texts2_bytes r_names_size r_names_fault r_names_odds r_names_lengths r_names_letters r_names_alike r_names_oddsTogether r_pieces_size r_pieces_fault r_pieces_inside r_pieces_lengths r_pieces_letters r_song_size r_song_fault r_song_letters r_fitting_pieceCount r_fitting_songFits r_fitting_allFit r_fitting_ordered r_fitting_pieceFits r_fitting_inOrder) A) args s 0 0 A) (F0 m 66 ls [.int k0]) := by
  obtain ⟨hx, hb, hr, hml, hown, hts, hlk, hK, hN⟩ := id C
  intro x3 k0 f_stale f_names_size f_names_fault f_names_odds f_names_lengths f_names_letters f_names_alike f_names_oddsTogether f_pieces_size f_pieces_fault f_pieces_inside f_pieces_lengths f_pieces_letters f_song_size f_song_fault f_song_letters f_fitting_pieceCount f_fitting_songFits f_fitting_allFit f_fitting_ordered f_fitting_pieceFits f_fitting_inOrder hf H locs hP hD hS ls hl
  unfold ND_chance_b66 at hf
  refine lv_istore (lv' := [(4, .int k0), (0, .ref a_this), (2, .int x2), (3, .int x3)]) hx hb dX10_chance_66 hl (by decide) rfl (fun ls hl => ?_)
  refine lv_iload hx hb dX10_chance_68 (lv_at hl 0 rfl) ?_
  refine lv_aload_n hx hb dX10_chance_70 rfl (lv_at hl 1 rfl) ?_
  refine va_get (ci := 10) (v := .ref a_names) (C := RX10) (T := TX10) (N := 12) hx hb hts inX10 hown hK hP 0 rfl rfl 1 (by decide) (hts _ tw_284) (fun _ h9 => h9) rfl dX10_chance_71 ?_
  refine lv_iload_n hx hb dX10_chance_74 rfl (lv_at hl 3 rfl) ?_
  obtain ⟨v75, hc75, hf⟩ := cb1_some hf
  refine kcRV (q0 := 8) (ci := 3) (As := [.int x3]) (rest := [.int k0]) (st1 := [.int v75, .int k0]) C (c_Na_oddsOfAll l D ct a_names a_names_odds a_names_lengths a_names_letters a_names_alike a_names_oddsTogether f_names_fault f_names_size f_names_oddsTogether x3 v75 hc75) ⟨rfl, rfl⟩ yn_yX3_oddsOfAll tw_592 tw_593 tw_591 ⟨Nat.le_of_ble_eq_true rfl, Nat.le_of_ble_eq_true rfl⟩ ⟨Nat.zero_le _, Nat.zero_le _⟩ hP [8, 13] rfl rfl rfl rfl hl.1 rfl rfl (Nat.le_of_ble_eq_true rfl) dX10_chance_75 rfl ?_
  refine lv_iload_n hx hb dX10_chance_78 rfl (lv_at hl 2 rfl) ?_
  obtain ⟨v79, hc79, hf⟩ := cb1_some hf
  refine kcRS (As := [.int k0, .int v75, .int x2]) (rest := []) (st1 := [.int v79]) C (c_ND_lowestTerm l D ct F k0 v75 x2 v79 hc79) ⟨rfl, rfl⟩ yn_yX10_lowestTerm tw_596 tw_595 ⟨Nat.le_of_ble_eq_true rfl, Nat.le_of_ble_eq_true rfl⟩ ⟨Nat.zero_le _, Nat.zero_le _⟩ hP [] rfl hl.1 rfl rfl (Nat.le_of_ble_eq_true rfl) dX10_chance_79 rfl ?_
  refine lv_i2l (v := Int32.toInt64 v79) hx hb dX10_chance_82 rfl ?_
  obtain ⟨e1, e2, e3, e4, e5, e6, e7, e8, e9, e10, e11, e12, e13, e14, e15, e16, e17, e18, e19, e20, e21, e22, e23⟩ := ti23 hf
  subst e1; subst e2; subst e3; subst e4; subst e5; subst e6; subst e7; subst e8; subst e9; subst e10; subst e11; subst e12; subst e13; subst e14; subst e15; subst e16; subst e17; subst e18; subst e19; subst e20; subst e21; subst e22; subst e23
  exact kretMl C hP hD hS dX10_chance_83
set_option maxHeartbeats 4000000 in
set_option maxRecDepth 100000 in
theorem t_ND_chance_b22 {p : Program} {l : Launch} {e : Env} {s : State} {m : MethodId} {args : Array Value} {below : List Frame} {meth : Method} {c : Code} {D : va_G} {ct : Nat → ClassId} (C : CX p s m args meth c RX10 cX10_chance 5 (some .long) D ct) {A : Nat → Prop} (hA : ∀ q : Nat, s.heap.size ≤ q → A q) (a_this a_texts a_names a_pieces a_song a_fitting a_deal a_guesses a_wise a_spy a_sheets a_texts0 a_texts1 a_texts2 a_texts0_bytes a_texts1_bytes a_texts2_bytes a_names_odds a_names_lengths a_names_letters a_names_alike a_names_oddsTogether a_pieces_inside a_pieces_lengths a_pieces_letters a_song_letters a_fitting_pieceFits a_fitting_inOrder : Nat) (f_finding : Int32) (F : Nat) (f_texts0_size : Int32) (f_texts0_bytes : Nat → Int32) (f_texts1_size : Int32) (f_texts1_bytes : Nat → Int32) (f_texts2_size : Int32) (f_texts2_bytes : Nat → Int32) (x1 : Int32) (x2 : Int32) (r : Int64) (r_stale : Int32) (r_names_size : Int32) (r_names_fault : Int32) (r_names_odds : Nat → Int32) (r_names_lengths : Nat → Int32) (r_names_letters : Nat → Int32) (r_names_alike : Nat → Int32) (r_names_oddsTogether : Nat → Int32) (r_pieces_size : Int32) (r_pieces_fault : Int32) (r_pieces_inside : Nat → Int32) (r_pieces_lengths : Nat → Int32) (r_pieces_letters : Nat → Int32) (r_song_size : Int32) (r_song_fault : Int32) (r_song_letters : Nat → Int32) (r_fitting_pieceCount : Int32) (r_fitting_songFits : Int32) (r_fitting_allFit : Int32) (r_fitting_ordered : Int32) (r_fitting_pieceFits : Nat → Int32) (r_fitting_inOrder : Nat → Int32) : ∀ (f_stale : Int32) (f_names_size : Int32) (f_names_fault : Int32) (f_names_odds : Nat → Int32) (f_names_lengths : Nat → Int32) (f_names_letters : Nat → Int32) (f_names_alike : Nat → Int32) (f_names_oddsTogether : Nat → Int32) (f_pieces_size : Int32) (f_pieces_fault : Int32) (f_pieces_inside : Nat → Int32) (f_pieces_lengths : Nat → Int32) (f_pieces_letters : Nat → Int32) (f_song_size : Int32) (f_song_fault : Int32) (f_song_letters : Nat → Int32) (f_fitting_pieceCount : Int32) (f_fitting_songFits : Int32) (f_fitting_allFit : Int32) (f_fitting_ordered : Int32) (f_fitting_pieceFits : Nat → Int32) (f_fitting_inOrder : Nat → Int32), ND_chance_b22 F f_texts0_size f_texts0_bytes f_texts1_size f_texts1_bytes f_texts2_size f_texts2_bytes x1 x2 f_stale f_names_size f_names_fault f_names_odds f_names_lengths f_names_letters f_names_alike f_names_oddsTogether f_pieces_size f_pieces_fault f_pieces_inside f_pieces_lengths f_pieces_letters f_song_size f_song_fault f_song_letters f_fitting_pieceCount f_fitting_songFits f_fitting_allFit f_fitting_ordered f_fitting_pieceFits f_fitting_inOrder = some (r, r_stale, r_names_size, r_names_fault, r_names_odds, r_names_lengths, r_names_letters, r_names_alike, r_names_oddsTogether, r_pieces_size, r_pieces_fault, r_pieces_inside, r_pieces_lengths, r_pieces_letters, r_song_size, r_song_fault, r_song_letters, r_fitting_pieceCount, r_fitting_songFits, r_fitting_allFit, r_fitting_ordered, r_fitting_pieceFits, r_fitting_inOrder) → ∀ (H : Heap) (locs : List Loc), va_P D vwCl (w_ND_chance ct a_this a_texts a_names a_pieces a_song a_fitting a_deal a_guesses a_wise a_spy a_sheets a_texts0 a_texts1 a_texts2 a_texts0_bytes a_texts1_bytes a_texts2_bytes a_names_odds a_names_lengths a_names_letters a_names_alike a_names_oddsTogether a_pieces_inside a_pieces_lengths a_pieces_letters a_song_letters a_fitting_pieceFits a_fitting_inOrder f_stale f_finding f_texts0_size f_texts0_bytes f_texts1_size f_texts1_bytes f_texts2_size f_texts2_bytes f_names_size f_names_fault f_names_odds f_names_lengths f_names_letters f_names_alike f_names_oddsTogether f_pieces_size f_pieces_fault f_pieces_inside f_pieces_lengths f_pieces_letters f_song_size f_song_fault f_song_letters f_fitting_pieceCount f_fitting_songFits f_fitting_allFit f_fitting_ordered f_fitting_pieceFits f_fitting_inOrder) H → va_D A (w_ND_chance ct a_this a_texts a_names a_pieces a_song a_fitting a_deal a_guesses a_wise a_spy a_sheets a_texts0 a_texts1 a_texts2 a_texts0_bytes a_texts1_bytes a_texts2_bytes a_names_odds a_names_lengths a_names_letters a_names_alike a_names_oddsTogether a_pieces_inside a_pieces_lengths a_pieces_letters a_song_letters a_fitting_pieceFits a_fitting_inOrder f_stale f_finding f_texts0_size f_texts0_bytes f_texts1_size f_texts1_bytes f_texts2_size f_texts2_bytes f_names_size f_names_fault f_names_odds f_names_lengths f_names_letters f_names_alike f_names_oddsTogether f_pieces_size f_pieces_fault f_pieces_inside f_pieces_lengths f_pieces_letters f_song_size f_song_fault f_song_letters f_fitting_pieceCount f_fitting_songFits f_fitting_allFit f_fitting_ordered f_fitting_pieceFits f_fitting_inOrder) → va_S A s.heap H locs → ∀ ls : Array Slot, lv_has ls 5 [] → W p l e RM_ND_chance s m args below meth c H locs 0 0 (MQ below (QM D (some (.long r)) (w_ND_chance ct a_this a_texts a_names a_pieces a_song a_fitting a_deal a_guesses a_wise a_spy a_sheets a_texts0 a_texts1 a_texts2 a_texts0_bytes a_texts1_bytes a_texts2_bytes a_names_odds a_names_lengths a_names_letters a_names_alike a_names_oddsTogether a_pieces_inside a_pieces_lengths a_pieces_letters a_song_letters a_fitting_pieceFits a_fitting_inOrder r_stale f_finding f_texts0_size f_texts0_bytes f_texts1_size f_texts1_bytes f_texts2_size f_texts2_bytes r_names_size r_names_fault r_names_odds r_names_lengths r_names_letters r_names_alike r_names_oddsTogether r_pieces_size r_pieces_fault r_pieces_inside r_pieces_lengths r_pieces_letters r_song_size r_song_fault r_song_letters r_fitting_pieceCount r_fitting_songFits r_fitting_allFit r_fitting_ordered r_fitting_pieceFits r_fitting_inOrder) A) args s 0 0 A) (F0 m 22 ls []) := by
  obtain ⟨hx, hb, hr, hml, hown, hts, hlk, hK, hN⟩ := id C
  intro f_stale f_names_size f_names_fault f_names_odds f_names_lengths f_names_letters f_names_alike f_names_oddsTogether f_pieces_size f_pieces_fault f_pieces_inside f_pieces_lengths f_pieces_letters f_song_size f_song_fault f_song_letters f_fitting_pieceCount f_fitting_songFits f_fitting_allFit f_fitting_ordered f_fitting_pieceFits f_fitting_inOrder hf H locs hP hD hS ls hl
  unfold ND_chance_b22 at hf
  refine lv_bipush (v := (-2)) hx hb dX10_chance_22 (by decide) ?_
  obtain ⟨v24, hc24, hf⟩ := cb1_some hf
  refine kcRS (As := [.int (-2)]) (rest := []) (st1 := [.long v24]) C (c_ND_asLong l D ct (-2) v24 hc24) ⟨rfl, rfl⟩ yn_yX10_asLong tw_588 tw_587 ⟨Nat.le_of_ble_eq_true rfl, Nat.le_of_ble_eq_true rfl⟩ ⟨Nat.zero_le _, Nat.zero_le _⟩ hP [] rfl hl.1 rfl rfl (Nat.le_of_ble_eq_true rfl) dX10_chance_24 rfl ?_
  obtain ⟨e1, e2, e3, e4, e5, e6, e7, e8, e9, e10, e11, e12, e13, e14, e15, e16, e17, e18, e19, e20, e21, e22, e23⟩ := ti23 hf
  subst e1; subst e2; subst e3; subst e4; subst e5; subst e6; subst e7; subst e8; subst e9; subst e10; subst e11; subst e12; subst e13; subst e14; subst e15; subst e16; subst e17; subst e18; subst e19; subst e20; subst e21; subst e22; subst e23
  exact kretMl C hP hD hS dX10_chance_27
set_option maxHeartbeats 4000000 in
set_option maxRecDepth 100000 in
theorem c_ND_chance (l : Launch) (D : va_G) (ct : Nat → ClassId) (a_this a_texts a_names a_pieces a_song a_fitting a_deal a_guesses a_wise a_spy a_sheets a_texts0 a_texts1 a_texts2 a_texts0_bytes a_texts1_bytes a_texts2_bytes a_names_odds a_names_lengths a_names_letters a_names_alike a_names_oddsTogether a_pieces_inside a_pieces_lengths a_pieces_letters a_song_letters a_fitting_pieceFits a_fitting_inOrder : Nat) (f_finding : Int32) (F : Nat) (f_texts0_size : Int32) (f_texts0_bytes : Nat → Int32) (f_texts1_size : Int32) (f_texts1_bytes : Nat → Int32) (f_texts2_size : Int32) (f_texts2_bytes : Nat → Int32) (f_stale : Int32) (f_names_size : Int32) (f_names_fault : Int32) (f_names_odds : Nat → Int32) (f_names_lengths : Nat → Int32) (f_names_letters : Nat → Int32) (f_names_alike : Nat → Int32) (f_names_oddsTogether : Nat → Int32) (f_pieces_size : Int32) (f_pieces_fault : Int32) (f_pieces_inside : Nat → Int32) (f_pieces_lengths : Nat → Int32) (f_pieces_letters : Nat → Int32) (f_song_size : Int32) (f_song_fault : Int32) (f_song_letters : Nat → Int32) (f_fitting_pieceCount : Int32) (f_fitting_songFits : Int32) (f_fitting_allFit : Int32) (f_fitting_ordered : Int32) (f_fitting_pieceFits : Nat → Int32) (f_fitting_inOrder : Nat → Int32) (x1 : Int32) (x2 : Int32) (r : Int64) (r_stale : Int32) (r_names_size : Int32) (r_names_fault : Int32) (r_names_odds : Nat → Int32) (r_names_lengths : Nat → Int32) (r_names_letters : Nat → Int32) (r_names_alike : Nat → Int32) (r_names_oddsTogether : Nat → Int32) (r_pieces_size : Int32) (r_pieces_fault : Int32) (r_pieces_inside : Nat → Int32) (r_pieces_lengths : Nat → Int32) (r_pieces_letters : Nat → Int32) (r_song_size : Int32) (r_song_fault : Int32) (r_song_letters : Nat → Int32) (r_fitting_pieceCount : Int32) (r_fitting_songFits : Int32) (r_fitting_allFit : Int32) (r_fitting_ordered : Int32) (r_fitting_pieceFits : Nat → Int32) (r_fitting_inOrder : Nat → Int32) (sz : Nat) (hf : ND_chance F f_texts0_size f_texts0_bytes f_texts1_size f_texts1_bytes f_texts2_size f_texts2_bytes f_stale f_names_size f_names_fault f_names_odds f_names_lengths f_names_letters f_names_alike f_names_oddsTogether f_pieces_size f_pieces_fault f_pieces_inside f_pieces_lengths f_pieces_letters f_song_size f_song_fault f_song_letters f_fitting_pieceCount f_fitting_songFits f_fitting_allFit f_fitting_ordered f_fitting_pieceFits f_fitting_inOrder x1 x2 = some (r, r_stale, r_names_size, r_names_fault, r_names_odds, r_names_lengths, r_names_letters, r_names_alike, r_names_oddsTogether, r_pieces_size, r_pieces_fault, r_pieces_inside, r_pieces_lengths, r_pieces_letters, r_song_size, r_song_fault, r_song_letters, r_fitting_pieceCount, r_fitting_songFits, r_fitting_allFit, r_fitting_ordered, r_fitting_pieceFits, r_fitting_inOrder)) : Met l yX10_chance (WS yX10_chance cX10_chance 5 (some .long)) RM_ND_chance (va_Pc [.ref a_this, .int x1, .int x2] (PM D ct sz (w_ND_chance ct a_this a_texts a_names a_pieces a_song a_fitting a_deal a_guesses a_wise a_spy a_sheets a_texts0 a_texts1 a_texts2 a_texts0_bytes a_texts1_bytes a_texts2_bytes a_names_odds a_names_lengths a_names_letters a_names_alike a_names_oddsTogether a_pieces_inside a_pieces_lengths a_pieces_letters a_song_letters a_fitting_pieceFits a_fitting_inOrder f_stale f_finding f_texts0_size f_texts0_bytes f_texts1_size f_texts1_bytes f_texts2_size f_texts2_bytes f_names_size f_names_fault f_names_odds f_names_lengths f_names_letters f_names_alike f_names_oddsTogether f_pieces_size f_pieces_fault f_pieces_inside f_pieces_lengths f_pieces_letters f_song_size f_song_fault f_song_letters f_fitting_pieceCount f_fitting_songFits f_fitting_allFit f_fitting_ordered f_fitting_pieceFits f_fitting_inOrder))) (QM D (some (.long r)) (w_ND_chance ct a_this a_texts a_names a_pieces a_song a_fitting a_deal a_guesses a_wise a_spy a_sheets a_texts0 a_texts1 a_texts2 a_texts0_bytes a_texts1_bytes a_texts2_bytes a_names_odds a_names_lengths a_names_letters a_names_alike a_names_oddsTogether a_pieces_inside a_pieces_lengths a_pieces_letters a_song_letters a_fitting_pieceFits a_fitting_inOrder r_stale f_finding f_texts0_size f_texts0_bytes f_texts1_size f_texts1_bytes f_texts2_size f_texts2_bytes r_names_size r_names_fault r_names_odds r_names_lengths r_names_letters r_names_alike r_names_oddsTogether r_pieces_size r_pieces_fault r_pieces_inside r_pieces_lengths r_pieces_letters r_song_size r_song_fault r_song_letters r_fitting_pieceCount r_fitting_songFits r_fitting_allFit r_fitting_ordered r_fitting_pieceFits r_fitting_inOrder) (va_A (w_ND_chance ct a_this a_texts a_names a_pieces a_song a_fitting a_deal a_guesses a_wise a_spy a_sheets a_texts0 a_texts1 a_texts2 a_texts0_bytes a_texts1_bytes a_texts2_bytes a_names_odds a_names_lengths a_names_letters a_names_alike a_names_oddsTogether a_pieces_inside a_pieces_lengths a_pieces_letters a_song_letters a_fitting_pieceFits a_fitting_inOrder f_stale f_finding f_texts0_size f_texts0_bytes f_texts1_size f_texts1_bytes f_texts2_size f_texts2_bytes f_names_size f_names_fault f_names_odds f_names_lengths f_names_letters f_names_alike f_names_oddsTogether f_pieces_size f_pieces_fault f_pieces_inside f_pieces_lengths f_pieces_letters f_song_size f_song_fault f_song_letters f_fitting_pieceCount f_fitting_songFits f_fitting_allFit f_fitting_ordered f_fitting_pieceFits f_fitting_inOrder) sz)) 0 0 (va_A (w_ND_chance ct a_this a_texts a_names a_pieces a_song a_fitting a_deal a_guesses a_wise a_spy a_sheets a_texts0 a_texts1 a_texts2 a_texts0_bytes a_texts1_bytes a_texts2_bytes a_names_odds a_names_lengths a_names_letters a_names_alike a_names_oddsTogether a_pieces_inside a_pieces_lengths a_pieces_letters a_song_letters a_fitting_pieceFits a_fitting_inOrder f_stale f_finding f_texts0_size f_texts0_bytes f_texts1_size f_texts1_bytes f_texts2_size f_texts2_bytes f_names_size f_names_fault f_names_odds f_names_lengths f_names_letters f_names_alike f_names_oddsTogether f_pieces_size f_pieces_fault f_pieces_inside f_pieces_lengths f_pieces_letters f_song_size f_song_fault f_song_letters f_fitting_pieceCount f_fitting_songFits f_fitting_allFit f_fitting_ordered f_fitting_pieceFits f_fitting_inOrder) sz) := by
  refine kMetM yn_yX10_chance rfl (Nat.le_of_ble_eq_true rfl) ?_
  intro p e s m args below meth c A C hA hP hD ls hl
  have hl : lv_has ls 5 [(0, .ref a_this), (1, .int x1), (2, .int x2)] := hl
  have hS : va_S A s.heap s.heap [] := va_S.rf
  obtain ⟨hx, hb, hr, hml, hown, hts, hlk, hK, hN⟩ := id C
  unfold ND_chance at hf
  refine lv_aload_n hx hb dX10_chance_0 rfl (lv_at hl 0 rfl) ?_
  obtain ⟨f_stale_1, f_names_size_1, f_names_fault_1, f_names_odds_1, f_names_lengths_1, f_names_letters_1, f_names_alike_1, f_names_oddsTogether_1, f_pieces_size_1, f_pieces_fault_1, f_pieces_inside_1, f_pieces_lengths_1, f_pieces_letters_1, f_song_size_1, f_song_fault_1, f_song_letters_1, f_fitting_pieceCount_1, f_fitting_songFits_1, f_fitting_allFit_1, f_fitting_ordered_1, f_fitting_pieceFits_1, f_fitting_inOrder_1, hc1, hf⟩ := cb22_some hf
  refine kcMV (q0 := 0) (ci := 10) (As := []) (rest := []) (st1 := []) (wf := (w_ND_chance ct a_this a_texts a_names a_pieces a_song a_fitting a_deal a_guesses a_wise a_spy a_sheets a_texts0 a_texts1 a_texts2 a_texts0_bytes a_texts1_bytes a_texts2_bytes a_names_odds a_names_lengths a_names_letters a_names_alike a_names_oddsTogether a_pieces_inside a_pieces_lengths a_pieces_letters a_song_letters a_fitting_pieceFits a_fitting_inOrder f_stale_1 f_finding f_texts0_size f_texts0_bytes f_texts1_size f_texts1_bytes f_texts2_size f_texts2_bytes f_names_size_1 f_names_fault_1 f_names_odds_1 f_names_lengths_1 f_names_letters_1 f_names_alike_1 f_names_oddsTogether_1 f_pieces_size_1 f_pieces_fault_1 f_pieces_inside_1 f_pieces_lengths_1 f_pieces_letters_1 f_song_size_1 f_song_fault_1 f_song_letters_1 f_fitting_pieceCount_1 f_fitting_songFits_1 f_fitting_allFit_1 f_fitting_ordered_1 f_fitting_pieceFits_1 f_fitting_inOrder_1)) C (c_ND_refresh l D ct a_this a_texts a_names a_pieces a_song a_fitting a_deal a_guesses a_wise a_spy a_sheets a_texts0 a_texts1 a_texts2 a_texts0_bytes a_texts1_bytes a_texts2_bytes a_names_odds a_names_lengths a_names_letters a_names_alike a_names_oddsTogether a_pieces_inside a_pieces_lengths a_pieces_letters a_song_letters a_fitting_pieceFits a_fitting_inOrder f_finding F f_texts0_size f_texts0_bytes f_texts1_size f_texts1_bytes f_texts2_size f_texts2_bytes f_stale f_names_size f_names_fault f_names_odds f_names_lengths f_names_letters f_names_alike f_names_oddsTogether f_pieces_size f_pieces_fault f_pieces_inside f_pieces_lengths f_pieces_letters f_song_size f_song_fault f_song_letters f_fitting_pieceCount f_fitting_songFits f_fitting_allFit f_fitting_ordered f_fitting_pieceFits f_fitting_inOrder f_stale_1 f_names_size_1 f_names_fault_1 f_names_odds_1 f_names_lengths_1 f_names_letters_1 f_names_alike_1 f_names_oddsTogether_1 f_pieces_size_1 f_pieces_fault_1 f_pieces_inside_1 f_pieces_lengths_1 f_pieces_letters_1 f_song_size_1 f_song_fault_1 f_song_letters_1 f_fitting_pieceCount_1 f_fitting_songFits_1 f_fitting_allFit_1 f_fitting_ordered_1 f_fitting_pieceFits_1 f_fitting_inOrder_1 _ hc1) ⟨rfl, rfl⟩ yn_yX10_refresh tw_373 tw_1 tw_371 ⟨Nat.le_of_ble_eq_true rfl, Nat.le_of_ble_eq_true rfl⟩ ⟨Nat.zero_le _, Nat.zero_le _⟩ hP hD hS hA [0, 1, 2, 3, 4, 5, 6, 7, 8, 9, 10, 11, 12, 13, 14, 15, 16, 17, 18, 19, 20, 21, 22] [] [0, 1, 2, 3, 4, 5, 6, 7, 8, 9, 10, 11, 12, 13, 14, 15, 16, 17, 18, 19, 20, 21, 22] rfl rfl rfl rfl rfl (by decide) rfl rfl rfl rfl rfl rfl hl.1 rfl rfl (Nat.le_of_ble_eq_true rfl) dX10_chance_1 rfl (fun H locs hP hD hS => ?_)
  refine lv_aload_n hx hb dX10_chance_4 rfl (lv_at hl 0 rfl) ?_
  refine va_get (ci := 10) (v := .ref a_names) (C := RX10) (T := TX10) (N := 12) hx hb hts inX10 hown hK hP 0 rfl rfl 1 (by decide) (hts _ tw_284) (fun _ h9 => h9) rfl dX10_chance_5 ?_
  refine lv_iload_n hx hb dX10_chance_8 rfl (lv_at hl 1 rfl) ?_
  obtain ⟨v9, hc9, hf⟩ := cb1_some hf
  refine kcRV (q0 := 8) (ci := 3) (As := [.int x1]) (rest := []) (st1 := [.int v9]) C (c_Na_has l D ct a_names a_names_odds a_names_lengths a_names_letters a_names_alike a_names_oddsTogether f_names_fault_1 f_names_size_1 x1 v9 hc9) ⟨rfl, rfl⟩ yn_yX3_has tw_496 tw_497 tw_495 ⟨Nat.le_of_ble_eq_true rfl, Nat.le_of_ble_eq_true rfl⟩ ⟨Nat.zero_le _, Nat.zero_le _⟩ hP [8] rfl rfl rfl rfl hl.1 rfl rfl (Nat.le_of_ble_eq_true rfl) dX10_chance_9 rfl ?_
  refine lv_if_eq (tgt := 22) hx hb dX10_chance_12 (by decide) (fun hc => ?_) (fun hc => ?_)
  · have hf := kpos hc hf
    exact t_ND_chance_b22 C hA a_this a_texts a_names a_pieces a_song a_fitting a_deal a_guesses a_wise a_spy a_sheets a_texts0 a_texts1 a_texts2 a_texts0_bytes a_texts1_bytes a_texts2_bytes a_names_odds a_names_lengths a_names_letters a_names_alike a_names_oddsTogether a_pieces_inside a_pieces_lengths a_pieces_letters a_song_letters a_fitting_pieceFits a_fitting_inOrder f_finding F f_texts0_size f_texts0_bytes f_texts1_size f_texts1_bytes f_texts2_size f_texts2_bytes x1 x2 r r_stale r_names_size r_names_fault r_names_odds r_names_lengths r_names_letters r_names_alike r_names_oddsTogether r_pieces_size r_pieces_fault r_pieces_inside r_pieces_lengths r_pieces_letters r_song_size r_song_fault r_song_letters r_fitting_pieceCount r_fitting_songFits r_fitting_allFit r_fitting_ordered r_fitting_pieceFits r_fitting_inOrder f_stale_1 f_names_size_1 f_names_fault_1 f_names_odds_1 f_names_lengths_1 f_names_letters_1 f_names_alike_1 f_names_oddsTogether_1 f_pieces_size_1 f_pieces_fault_1 f_pieces_inside_1 f_pieces_lengths_1 f_pieces_letters_1 f_song_size_1 f_song_fault_1 f_song_letters_1 f_fitting_pieceCount_1 f_fitting_songFits_1 f_fitting_allFit_1 f_fitting_ordered_1 f_fitting_pieceFits_1 f_fitting_inOrder_1 hf _ _ hP hD hS _ (lv_sub hl [] rfl)
  · have hf := kneg hc hf
    refine lv_iload_n hx hb dX10_chance_15 rfl (lv_at hl 2 rfl) ?_
    obtain ⟨v16, hc16, hf⟩ := cb1_some hf
    refine kcRS (As := [.int x2]) (rest := []) (st1 := [.int v16]) C (c_ND_isZeroOrOne l D ct x2 v16 hc16) ⟨rfl, rfl⟩ yn_yX10_isZeroOrOne tw_585 tw_584 ⟨Nat.le_of_ble_eq_true rfl, Nat.le_of_ble_eq_true rfl⟩ ⟨Nat.zero_le _, Nat.zero_le _⟩ hP [] rfl hl.1 rfl rfl (Nat.le_of_ble_eq_true rfl) dX10_chance_16 rfl ?_
    refine lv_if_ne (tgt := 28) hx hb dX10_chance_19 (by decide) (fun hc => ?_) (fun hc => ?_)
    · have hf := kneg hc hf
      refine lv_aload_n hx hb dX10_chance_28 rfl (lv_at hl 0 rfl) ?_
      refine va_get (ci := 10) (v := .ref a_fitting) (C := RX10) (T := TX10) (N := 12) hx hb hts inX10 hown hK hP 0 rfl rfl 4 (by decide) (hts _ tw_287) (fun _ h9 => h9) rfl dX10_chance_29 ?_
      obtain ⟨v32, hc32, hf⟩ := cb1_some hf
      refine kcRV (q0 := 20) (ci := 1) (As := []) (rest := []) (st1 := [.int v32]) C (c_Fi_byAll l D ct a_fitting a_fitting_pieceFits a_fitting_inOrder f_fitting_pieceCount_1 f_fitting_songFits_1 f_fitting_ordered_1 f_fitting_allFit_1 v32 hc32) ⟨rfl, rfl⟩ yn_yX1_byAll tw_577 tw_578 tw_576 ⟨Nat.le_of_ble_eq_true rfl, Nat.le_of_ble_eq_true rfl⟩ ⟨Nat.zero_le _, Nat.zero_le _⟩ hP [20] rfl rfl rfl rfl hl.1 rfl rfl (Nat.le_of_ble_eq_true rfl) dX10_chance_32 rfl ?_
      refine lv_istore_n (lv' := [(3, .int v32), (0, .ref a_this), (1, .int x1), (2, .int x2)]) hx hb dX10_chance_35 rfl hl (by decide) rfl (fun ls hl => ?_)
      refine lv_iload_n hx hb dX10_chance_36 rfl (lv_at hl 0 rfl) ?_
      refine lv_if_ne (tgt := 46) hx hb dX10_chance_37 (by decide) (fun hc => ?_) (fun hc => ?_)
      · have hf := kneg hc hf
        refine lv_iload_n hx hb dX10_chance_46 rfl (lv_at hl 0 rfl) ?_
        refine lv_iconst (v := 1) hx hb dX10_chance_47 (by decide) ?_
        refine lv_iload_n hx hb dX10_chance_48 rfl (lv_at hl 2 rfl) ?_
        refine lv_ishl hx hb dX10_chance_49 ?_
        refine lv_iand hx hb dX10_chance_50 ?_
        refine lv_if_ne (tgt := 58) hx hb dX10_chance_51 (by decide) (fun hc => ?_) (fun hc => ?_)
        · have hf := kneg hc hf
          refine lv_aload_n hx hb dX10_chance_58 rfl (lv_at hl 1 rfl) ?_
          refine va_get (ci := 10) (v := .ref a_names) (C := RX10) (T := TX10) (N := 12) hx hb hts inX10 hown hK hP 0 rfl rfl 1 (by decide) (hts _ tw_284) (fun _ h9 => h9) rfl dX10_chance_59 ?_
          refine lv_iload_n hx hb dX10_chance_62 rfl (lv_at hl 2 rfl) ?_
          obtain ⟨v63, hc63, hf⟩ := cb1_some hf
          refine kcRV (q0 := 8) (ci := 3) (As := [.int x1]) (rest := []) (st1 := [.int v63]) C (c_Na_oddsOf l D ct a_names a_names_odds a_names_lengths a_names_letters a_names_alike a_names_oddsTogether f_names_fault_1 f_names_size_1 f_names_odds_1 x1 v63 hc63) ⟨rfl, rfl⟩ yn_yX3_oddsOf tw_476 tw_477 tw_500 ⟨Nat.le_of_ble_eq_true rfl, Nat.le_of_ble_eq_true rfl⟩ ⟨Nat.zero_le _, Nat.zero_le _⟩ hP [8, 9] rfl rfl rfl rfl hl.1 rfl rfl (Nat.le_of_ble_eq_true rfl) dX10_chance_63 rfl ?_
          exact t_ND_chance_b66 C hA a_this a_texts a_names a_pieces a_song a_fitting a_deal a_guesses a_wise a_spy a_sheets a_texts0 a_texts1 a_texts2 a_texts0_bytes a_texts1_bytes a_texts2_bytes a_names_odds a_names_lengths a_names_letters a_names_alike a_names_oddsTogether a_pieces_inside a_pieces_lengths a_pieces_letters a_song_letters a_fitting_pieceFits a_fitting_inOrder f_finding F f_texts0_size f_texts0_bytes f_texts1_size f_texts1_bytes f_texts2_size f_texts2_bytes x1 x2 r r_stale r_names_size r_names_fault r_names_odds r_names_lengths r_names_letters r_names_alike r_names_oddsTogether r_pieces_size r_pieces_fault r_pieces_inside r_pieces_lengths r_pieces_letters r_song_size r_song_fault r_song_letters r_fitting_pieceCount r_fitting_songFits r_fitting_allFit r_fitting_ordered r_fitting_pieceFits r_fitting_inOrder v32 v63 f_stale_1 f_names_size_1 f_names_fault_1 f_names_odds_1 f_names_lengths_1 f_names_letters_1 f_names_alike_1 f_names_oddsTogether_1 f_pieces_size_1 f_pieces_fault_1 f_pieces_inside_1 f_pieces_lengths_1 f_pieces_letters_1 f_song_size_1 f_song_fault_1 f_song_letters_1 f_fitting_pieceCount_1 f_fitting_songFits_1 f_fitting_allFit_1 f_fitting_ordered_1 f_fitting_pieceFits_1 f_fitting_inOrder_1 hf _ _ hP hD hS _ (lv_sub hl [1, 3, 0] rfl)
        · have hf := kpos hc hf
          refine lv_iconst (v := 0) hx hb dX10_chance_54 (by decide) ?_
          refine lv_goto (tgt := 66) hx hb dX10_chance_55 (by decide) ?_
          exact t_ND_chance_b66 C hA a_this a_texts a_names a_pieces a_song a_fitting a_deal a_guesses a_wise a_spy a_sheets a_texts0 a_texts1 a_texts2 a_texts0_bytes a_texts1_bytes a_texts2_bytes a_names_odds a_names_lengths a_names_letters a_names_alike a_names_oddsTogether a_pieces_inside a_pieces_lengths a_pieces_letters a_song_letters a_fitting_pieceFits a_fitting_inOrder f_finding F f_texts0_size f_texts0_bytes f_texts1_size f_texts1_bytes f_texts2_size f_texts2_bytes x1 x2 r r_stale r_names_size r_names_fault r_names_odds r_names_lengths r_names_letters r_names_alike r_names_oddsTogether r_pieces_size r_pieces_fault r_pieces_inside r_pieces_lengths r_pieces_letters r_song_size r_song_fault r_song_letters r_fitting_pieceCount r_fitting_songFits r_fitting_allFit r_fitting_ordered r_fitting_pieceFits r_fitting_inOrder v32 0 f_stale_1 f_names_size_1 f_names_fault_1 f_names_odds_1 f_names_lengths_1 f_names_letters_1 f_names_alike_1 f_names_oddsTogether_1 f_pieces_size_1 f_pieces_fault_1 f_pieces_inside_1 f_pieces_lengths_1 f_pieces_letters_1 f_song_size_1 f_song_fault_1 f_song_letters_1 f_fitting_pieceCount_1 f_fitting_songFits_1 f_fitting_allFit_1 f_fitting_ordered_1 f_fitting_pieceFits_1 f_fitting_inOrder_1 hf _ _ hP hD hS _ (lv_sub hl [1, 3, 0] rfl)
      · have hf := kpos hc hf
        refine lv_bipush (v := (-3)) hx hb dX10_chance_40 (by decide) ?_
        obtain ⟨v42, hc42, hf⟩ := cb1_some hf
        refine kcRS (As := [.int (-3)]) (rest := []) (st1 := [.long v42]) C (c_ND_asLong l D ct (-3) v42 hc42) ⟨rfl, rfl⟩ yn_yX10_asLong tw_588 tw_587 ⟨Nat.le_of_ble_eq_true rfl, Nat.le_of_ble_eq_true rfl⟩ ⟨Nat.zero_le _, Nat.zero_le _⟩ hP [] rfl hl.1 rfl rfl (Nat.le_of_ble_eq_true rfl) dX10_chance_42 rfl ?_
        obtain ⟨e1, e2, e3, e4, e5, e6, e7, e8, e9, e10, e11, e12, e13, e14, e15, e16, e17, e18, e19, e20, e21, e22, e23⟩ := ti23 hf
        subst e1; subst e2; subst e3; subst e4; subst e5; subst e6; subst e7; subst e8; subst e9; subst e10; subst e11; subst e12; subst e13; subst e14; subst e15; subst e16; subst e17; subst e18; subst e19; subst e20; subst e21; subst e22; subst e23
        exact kretMl C hP hD hS dX10_chance_45
    · have hf := kpos hc hf
      exact t_ND_chance_b22 C hA a_this a_texts a_names a_pieces a_song a_fitting a_deal a_guesses a_wise a_spy a_sheets a_texts0 a_texts1 a_texts2 a_texts0_bytes a_texts1_bytes a_texts2_bytes a_names_odds a_names_lengths a_names_letters a_names_alike a_names_oddsTogether a_pieces_inside a_pieces_lengths a_pieces_letters a_song_letters a_fitting_pieceFits a_fitting_inOrder f_finding F f_texts0_size f_texts0_bytes f_texts1_size f_texts1_bytes f_texts2_size f_texts2_bytes x1 x2 r r_stale r_names_size r_names_fault r_names_odds r_names_lengths r_names_letters r_names_alike r_names_oddsTogether r_pieces_size r_pieces_fault r_pieces_inside r_pieces_lengths r_pieces_letters r_song_size r_song_fault r_song_letters r_fitting_pieceCount r_fitting_songFits r_fitting_allFit r_fitting_ordered r_fitting_pieceFits r_fitting_inOrder f_stale_1 f_names_size_1 f_names_fault_1 f_names_odds_1 f_names_lengths_1 f_names_letters_1 f_names_alike_1 f_names_oddsTogether_1 f_pieces_size_1 f_pieces_fault_1 f_pieces_inside_1 f_pieces_lengths_1 f_pieces_letters_1 f_song_size_1 f_song_fault_1 f_song_letters_1 f_fitting_pieceCount_1 f_fitting_songFits_1 f_fitting_allFit_1 f_fitting_ordered_1 f_fitting_pieceFits_1 f_fitting_inOrder_1 hf _ _ hP hD hS _ (lv_sub hl [] rfl)
def RM_Pi_has : Room := { frames := 0, cells := 0, slots := 0, locals := 0 }
set_option maxHeartbeats 4000000 in
set_option maxRecDepth 100000 in
theorem c_Pi_has (l : Launch) (D : va_G) (ct : Nat → ClassId) (a_this a_inside a_lengths a_letters : Nat) (f_fault : Int32) (f_size : Int32) (x1 : Int32) (r : Int32) (hf : Pi_has f_size x1 = some r) : Met l yX4_has (WS yX4_has cX4_has 2 (some .boolean)) RM_Pi_has (va_Pc [.ref a_this, .int x1] (PR D ct (w_Pi_has ct a_this a_inside a_lengths a_letters f_size f_fault))) (QR (some (.int r))) 0 0 (fun _ => False) := by
  refine kMetR yn_yX4_has rfl (Nat.le_of_ble_eq_true rfl) ?_
  intro p e s m args below meth c C hP ls hl
  have hl : lv_has ls 2 [(0, .ref a_this), (1, .int x1)] := hl
  obtain ⟨hx, hb, hr, hml, hown, hts, hlk, hK, hN⟩ := id C
  unfold Pi_has at hf
  refine lv_iload_n hx hb dX4_has_0 rfl (lv_at hl 1 rfl) ?_
  refine lv_if_lt (tgt := 16) hx hb dX4_has_1 (by decide) (fun hc => ?_) (fun hc => ?_)
  · have hf := kpos hc hf
    refine lv_iconst (v := 0) hx hb dX4_has_16 (by decide) ?_
    have e1 := Option.some.inj hf
    subst e1
    exact kretRz C (by decide) dX4_has_17
  · have hf := kneg hc hf
    refine lv_iload_n hx hb dX4_has_4 rfl (lv_at hl 1 rfl) ?_
    refine lv_aload_n hx hb dX4_has_5 rfl (lv_at hl 0 rfl) ?_
    refine va_get (ci := 4) (v := .int f_size) (C := RX4) (T := TX4) (N := 5) hx hb hts inX4 hown hK hP 0 rfl rfl 3 (by decide) (hts _ tw_150) (fun _ h9 => h9) rfl dX4_has_6 ?_
    refine lv_icmp_ge (tgt := 16) hx hb dX4_has_9 (by decide) (fun hc => ?_) (fun hc => ?_)
    · have hf := kpos hc hf
      refine lv_iconst (v := 0) hx hb dX4_has_16 (by decide) ?_
      have e1 := Option.some.inj hf
      subst e1
      exact kretRz C (by decide) dX4_has_17
    · have hf := kneg hc hf
      refine lv_iconst (v := 1) hx hb dX4_has_12 (by decide) ?_
      refine lv_goto (tgt := 17) hx hb dX4_has_13 (by decide) ?_
      have e1 := Option.some.inj hf
      subst e1
      exact kretRz C (by decide) dX4_has_17
def RM_Fi_byPiece : Room := { frames := 0, cells := 0, slots := 0, locals := 0 }
set_option maxHeartbeats 4000000 in
set_option maxRecDepth 100000 in
theorem c_Fi_byPiece (l : Launch) (D : va_G) (ct : Nat → ClassId) (a_this a_pieceFits a_inOrder : Nat) (f_songFits : Int32) (f_allFit : Int32) (f_ordered : Int32) (f_pieceCount : Int32) (f_pieceFits : Nat → Int32) (x1 : Int32) (r : Int32) (hf : Fi_byPiece f_pieceCount f_pieceFits x1 = some r) : Met l yX1_byPiece (WS yX1_byPiece cX1_byPiece 2 (some .int)) RM_Fi_byPiece (va_Pc [.ref a_this, .int x1] (PR D ct (w_Fi_byPiece ct a_this a_pieceFits a_inOrder f_pieceCount f_songFits f_allFit f_ordered f_pieceFits))) (QR (some (.int r))) 0 0 (fun _ => False) := by
  refine kMetR yn_yX1_byPiece rfl (Nat.le_of_ble_eq_true rfl) ?_
  intro p e s m args below meth c C hP ls hl
  have hl : lv_has ls 2 [(0, .ref a_this), (1, .int x1)] := hl
  obtain ⟨hx, hb, hr, hml, hown, hts, hlk, hK, hN⟩ := id C
  unfold Fi_byPiece at hf
  refine lv_iload_n hx hb dX1_byPiece_0 rfl (lv_at hl 1 rfl) ?_
  refine lv_if_lt (tgt := 21) hx hb dX1_byPiece_1 (by decide) (fun hc => ?_) (fun hc => ?_)
  · have hf := kpos hc hf
    refine lv_iconst (v := 0) hx hb dX1_byPiece_21 (by decide) ?_
    have e1 := Option.some.inj hf
    subst e1
    exact kretR C dX1_byPiece_22
  · have hf := kneg hc hf
    refine lv_iload_n hx hb dX1_byPiece_4 rfl (lv_at hl 1 rfl) ?_
    refine lv_aload_n hx hb dX1_byPiece_5 rfl (lv_at hl 0 rfl) ?_
    refine va_get (ci := 1) (v := .int f_pieceCount) (C := RX1) (T := TX1) (N := 6) hx hb hts inX1 hown hK hP 0 rfl rfl 2 (by decide) (hts _ tw_188) (fun _ h9 => h9) rfl dX1_byPiece_6 ?_
    refine lv_icmp_ge (tgt := 21) hx hb dX1_byPiece_9 (by decide) (fun hc => ?_) (fun hc => ?_)
    · have hf := kpos hc hf
      refine lv_iconst (v := 0) hx hb dX1_byPiece_21 (by decide) ?_
      have e1 := Option.some.inj hf
      subst e1
      exact kretR C dX1_byPiece_22
    · have hf := kneg hc hf
      refine lv_aload_n hx hb dX1_byPiece_12 rfl (lv_at hl 0 rfl) ?_
      refine va_get (ci := 1) (v := .ref a_pieceFits) (C := RX1) (T := TX1) (N := 6) hx hb hts inX1 hown hK hP 0 rfl rfl 0 (by decide) (hts _ tw_186) (fun _ h9 => h9) rfl dX1_byPiece_13 ?_
      refine lv_iload_n hx hb dX1_byPiece_16 rfl (lv_at hl 1 rfl) ?_
      obtain ⟨hin, hf⟩ := rd_some hf
      generalize ev17 : f_pieceFits (Int32.toNatClampNeg x1) = v17 at hf
      refine kiald hx hb hK hP 1 0 rfl rfl hin ev17 dX1_byPiece_17 ?_
      refine lv_goto (tgt := 22) hx hb dX1_byPiece_18 (by decide) ?_
      have e1 := Option.some.inj hf
      subst e1
      exact kretR C dX1_byPiece_22
def RM_ND_heard : Room := { frames := 5, cells := 0, slots := 0, locals := 117 }
set_option maxHeartbeats 4000000 in
set_option maxRecDepth 100000 in
theorem c_ND_heard (l : Launch) (D : va_G) (ct : Nat → ClassId) (a_this a_texts a_names a_pieces a_song a_fitting a_deal a_guesses a_wise a_spy a_sheets a_texts0 a_texts1 a_texts2 a_texts0_bytes a_texts1_bytes a_texts2_bytes a_names_odds a_names_lengths a_names_letters a_names_alike a_names_oddsTogether a_pieces_inside a_pieces_lengths a_pieces_letters a_song_letters a_fitting_pieceFits a_fitting_inOrder : Nat) (f_finding : Int32) (F : Nat) (f_texts0_size : Int32) (f_texts0_bytes : Nat → Int32) (f_texts1_size : Int32) (f_texts1_bytes : Nat → Int32) (f_texts2_size : Int32) (f_texts2_bytes : Nat → Int32) (f_stale : Int32) (f_names_size : Int32) (f_names_fault : Int32) (f_names_odds : Nat → Int32) (f_names_lengths : Nat → Int32) (f_names_letters : Nat → Int32) (f_names_alike : Nat → Int32) (f_names_oddsTogether : Nat → Int32) (f_pieces_size : Int32) (f_pieces_fault : Int32) (f_pieces_inside : Nat → Int32) (f_pieces_lengths : Nat → Int32) (f_pieces_letters : Nat → Int32) (f_song_size : Int32) (f_song_fault : Int32) (f_song_letters : Nat → Int32) (f_fitting_pieceCount : Int32) (f_fitting_songFits : Int32) (f_fitting_allFit : Int32) (f_fitting_ordered : Int32) (f_fitting_pieceFits : Nat → Int32) (f_fitting_inOrder : Nat → Int32) (x1 : Int32) (r : Int32) (r_stale : Int32) (r_names_size : Int32) (r_names_fault : Int32) (r_names_odds : Nat → Int32) (r_names_lengths : Nat → Int32) (r_names_letters : Nat → Int32) (r_names_alike : Nat → Int32) (r_names_oddsTogether : Nat → Int32) (r_pieces_size : Int32) (r_pieces_fault : Int32) (r_pieces_inside : Nat → Int32) (r_pieces_lengths : Nat → Int32) (r_pieces_letters : Nat → Int32) (r_song_size : Int32) (r_song_fault : Int32) (r_song_letters : Nat → Int32) (r_fitting_pieceCount : Int32) (r_fitting_songFits : Int32) (r_fitting_allFit : Int32) (r_fitting_ordered : Int32) (r_fitting_pieceFits : Nat → Int32) (r_fitting_inOrder : Nat → Int32) (sz : Nat) (hf : ND_heard F f_texts0_size f_texts0_bytes f_texts1_size f_texts1_bytes f_texts2_size f_texts2_bytes f_stale f_names_size f_names_fault f_names_odds f_names_lengths f_names_letters f_names_alike f_names_oddsTogether f_pieces_size f_pieces_fault f_pieces_inside f_pieces_lengths f_pieces_letters f_song_size f_song_fault f_song_letters f_fitting_pieceCount f_fitting_songFits f_fitting_allFit f_fitting_ordered f_fitting_pieceFits f_fitting_inOrder x1 = some (r, r_stale, r_names_size, r_names_fault, r_names_odds, r_names_lengths, r_names_letters, r_names_alike, r_names_oddsTogether, r_pieces_size, r_pieces_fault, r_pieces_inside, r_pieces_lengths, r_pieces_letters, r_song_size, r_song_fault, r_song_letters, r_fitting_pieceCount, r_fitting_songFits, r_fitting_allFit, r_fitting_ordered, r_fitting_pieceFits, r_fitting_inOrder)) : Met l yX10_heard (WS yX10_heard cX10_heard 2 (some .int)) RM_ND_heard (va_Pc [.ref a_this, .int x1] (PM D ct sz (w_ND_heard ct a_this a_texts a_names a_pieces a_song a_fitting a_deal a_guesses a_wise a_spy a_sheets a_texts0 a_texts1 a_texts2 a_texts0_bytes a_texts1_bytes a_texts2_bytes a_names_odds a_names_lengths a_names_letters a_names_alike a_names_oddsTogether a_pieces_inside a_pieces_lengths a_pieces_letters a_song_letters a_fitting_pieceFits a_fitting_inOrder f_stale f_finding f_texts0_size f_texts0_bytes f_texts1_size f_texts1_bytes f_texts2_size f_texts2_bytes f_names_size f_names_fault f_names_odds f_names_lengths f_names_letters f_names_alike f_names_oddsTogether f_pieces_size f_pieces_fault f_pieces_inside f_pieces_lengths f_pieces_letters f_song_size f_song_fault f_song_letters f_fitting_pieceCount f_fitting_songFits f_fitting_allFit f_fitting_ordered f_fitting_pieceFits f_fitting_inOrder))) (QM D (some (.int r)) (w_ND_heard ct a_this a_texts a_names a_pieces a_song a_fitting a_deal a_guesses a_wise a_spy a_sheets a_texts0 a_texts1 a_texts2 a_texts0_bytes a_texts1_bytes a_texts2_bytes a_names_odds a_names_lengths a_names_letters a_names_alike a_names_oddsTogether a_pieces_inside a_pieces_lengths a_pieces_letters a_song_letters a_fitting_pieceFits a_fitting_inOrder r_stale f_finding f_texts0_size f_texts0_bytes f_texts1_size f_texts1_bytes f_texts2_size f_texts2_bytes r_names_size r_names_fault r_names_odds r_names_lengths r_names_letters r_names_alike r_names_oddsTogether r_pieces_size r_pieces_fault r_pieces_inside r_pieces_lengths r_pieces_letters r_song_size r_song_fault r_song_letters r_fitting_pieceCount r_fitting_songFits r_fitting_allFit r_fitting_ordered r_fitting_pieceFits r_fitting_inOrder) (va_A (w_ND_heard ct a_this a_texts a_names a_pieces a_song a_fitting a_deal a_guesses a_wise a_spy a_sheets a_texts0 a_texts1 a_texts2 a_texts0_bytes a_texts1_bytes a_texts2_bytes a_names_odds a_names_lengths a_names_letters a_names_alike a_names_oddsTogether a_pieces_inside a_pieces_lengths a_pieces_letters a_song_letters a_fitting_pieceFits a_fitting_inOrder f_stale f_finding f_texts0_size f_texts0_bytes f_texts1_size f_texts1_bytes f_texts2_size f_texts2_bytes f_names_size f_names_fault f_names_odds f_names_lengths f_names_letters f_names_alike f_names_oddsTogether f_pieces_size f_pieces_fault f_pieces_inside f_pieces_lengths f_pieces_letters f_song_size f_song_fault f_song_letters f_fitting_pieceCount f_fitting_songFits f_fitting_allFit f_fitting_ordered f_fitting_pieceFits f_fitting_inOrder) sz)) 0 0 (va_A (w_ND_heard ct a_this a_texts a_names a_pieces a_song a_fitting a_deal a_guesses a_wise a_spy a_sheets a_texts0 a_texts1 a_texts2 a_texts0_bytes a_texts1_bytes a_texts2_bytes a_names_odds a_names_lengths a_names_letters a_names_alike a_names_oddsTogether a_pieces_inside a_pieces_lengths a_pieces_letters a_song_letters a_fitting_pieceFits a_fitting_inOrder f_stale f_finding f_texts0_size f_texts0_bytes f_texts1_size f_texts1_bytes f_texts2_size f_texts2_bytes f_names_size f_names_fault f_names_odds f_names_lengths f_names_letters f_names_alike f_names_oddsTogether f_pieces_size f_pieces_fault f_pieces_inside f_pieces_lengths f_pieces_letters f_song_size f_song_fault f_song_letters f_fitting_pieceCount f_fitting_songFits f_fitting_allFit f_fitting_ordered f_fitting_pieceFits f_fitting_inOrder) sz) := by
  refine kMetM yn_yX10_heard rfl (Nat.le_of_ble_eq_true rfl) ?_
  intro p e s m args below meth c A C hA hP hD ls hl
  have hl : lv_has ls 2 [(0, .ref a_this), (1, .int x1)] := hl
  have hS : va_S A s.heap s.heap [] := va_S.rf
  obtain ⟨hx, hb, hr, hml, hown, hts, hlk, hK, hN⟩ := id C
  unfold ND_heard at hf
  refine lv_aload_n hx hb dX10_heard_0 rfl (lv_at hl 0 rfl) ?_
  obtain ⟨f_stale_1, f_names_size_1, f_names_fault_1, f_names_odds_1, f_names_lengths_1, f_names_letters_1, f_names_alike_1, f_names_oddsTogether_1, f_pieces_size_1, f_pieces_fault_1, f_pieces_inside_1, f_pieces_lengths_1, f_pieces_letters_1, f_song_size_1, f_song_fault_1, f_song_letters_1, f_fitting_pieceCount_1, f_fitting_songFits_1, f_fitting_allFit_1, f_fitting_ordered_1, f_fitting_pieceFits_1, f_fitting_inOrder_1, hc1, hf⟩ := cb22_some hf
  refine kcMV (q0 := 0) (ci := 10) (As := []) (rest := []) (st1 := []) (wf := (w_ND_heard ct a_this a_texts a_names a_pieces a_song a_fitting a_deal a_guesses a_wise a_spy a_sheets a_texts0 a_texts1 a_texts2 a_texts0_bytes a_texts1_bytes a_texts2_bytes a_names_odds a_names_lengths a_names_letters a_names_alike a_names_oddsTogether a_pieces_inside a_pieces_lengths a_pieces_letters a_song_letters a_fitting_pieceFits a_fitting_inOrder f_stale_1 f_finding f_texts0_size f_texts0_bytes f_texts1_size f_texts1_bytes f_texts2_size f_texts2_bytes f_names_size_1 f_names_fault_1 f_names_odds_1 f_names_lengths_1 f_names_letters_1 f_names_alike_1 f_names_oddsTogether_1 f_pieces_size_1 f_pieces_fault_1 f_pieces_inside_1 f_pieces_lengths_1 f_pieces_letters_1 f_song_size_1 f_song_fault_1 f_song_letters_1 f_fitting_pieceCount_1 f_fitting_songFits_1 f_fitting_allFit_1 f_fitting_ordered_1 f_fitting_pieceFits_1 f_fitting_inOrder_1)) C (c_ND_refresh l D ct a_this a_texts a_names a_pieces a_song a_fitting a_deal a_guesses a_wise a_spy a_sheets a_texts0 a_texts1 a_texts2 a_texts0_bytes a_texts1_bytes a_texts2_bytes a_names_odds a_names_lengths a_names_letters a_names_alike a_names_oddsTogether a_pieces_inside a_pieces_lengths a_pieces_letters a_song_letters a_fitting_pieceFits a_fitting_inOrder f_finding F f_texts0_size f_texts0_bytes f_texts1_size f_texts1_bytes f_texts2_size f_texts2_bytes f_stale f_names_size f_names_fault f_names_odds f_names_lengths f_names_letters f_names_alike f_names_oddsTogether f_pieces_size f_pieces_fault f_pieces_inside f_pieces_lengths f_pieces_letters f_song_size f_song_fault f_song_letters f_fitting_pieceCount f_fitting_songFits f_fitting_allFit f_fitting_ordered f_fitting_pieceFits f_fitting_inOrder f_stale_1 f_names_size_1 f_names_fault_1 f_names_odds_1 f_names_lengths_1 f_names_letters_1 f_names_alike_1 f_names_oddsTogether_1 f_pieces_size_1 f_pieces_fault_1 f_pieces_inside_1 f_pieces_lengths_1 f_pieces_letters_1 f_song_size_1 f_song_fault_1 f_song_letters_1 f_fitting_pieceCount_1 f_fitting_songFits_1 f_fitting_allFit_1 f_fitting_ordered_1 f_fitting_pieceFits_1 f_fitting_inOrder_1 _ hc1) ⟨rfl, rfl⟩ yn_yX10_refresh tw_373 tw_1 tw_371 ⟨Nat.le_of_ble_eq_true rfl, Nat.le_of_ble_eq_true rfl⟩ ⟨Nat.zero_le _, Nat.zero_le _⟩ hP hD hS hA [0, 1, 2, 3, 4, 5, 6, 7, 8, 9, 10, 11, 12, 13, 14, 15, 16, 17, 18, 19, 20, 21, 22] [] [0, 1, 2, 3, 4, 5, 6, 7, 8, 9, 10, 11, 12, 13, 14, 15, 16, 17, 18, 19, 20, 21, 22] rfl rfl rfl rfl rfl (by decide) rfl rfl rfl rfl rfl rfl hl.1 rfl rfl (Nat.le_of_ble_eq_true rfl) dX10_heard_1 rfl (fun H locs hP hD hS => ?_)
  refine lv_aload_n hx hb dX10_heard_4 rfl (lv_at hl 0 rfl) ?_
  refine va_get (ci := 10) (v := .ref a_pieces) (C := RX10) (T := TX10) (N := 12) hx hb hts inX10 hown hK hP 0 rfl rfl 2 (by decide) (hts _ tw_285) (fun _ h9 => h9) rfl dX10_heard_5 ?_
  refine lv_iload_n hx hb dX10_heard_8 rfl (lv_at hl 1 rfl) ?_
  obtain ⟨v9, hc9, hf⟩ := cb1_some hf
  refine kcRV (q0 := 14) (ci := 4) (As := [.int x1]) (rest := []) (st1 := [.int v9]) C (c_Pi_has l D ct a_pieces a_pieces_inside a_pieces_lengths a_pieces_letters f_pieces_fault_1 f_pieces_size_1 x1 v9 hc9) ⟨rfl, rfl⟩ yn_yX4_has tw_606 tw_607 tw_605 ⟨Nat.le_of_ble_eq_true rfl, Nat.le_of_ble_eq_true rfl⟩ ⟨Nat.zero_le _, Nat.zero_le _⟩ hP [14] rfl rfl rfl rfl hl.1 rfl rfl (Nat.le_of_ble_eq_true rfl) dX10_heard_9 rfl ?_
  refine lv_if_eq (tgt := 26) hx hb dX10_heard_12 (by decide) (fun hc => ?_) (fun hc => ?_)
  · have hf := kpos hc hf
    refine lv_bipush (v := (-2)) hx hb dX10_heard_26 (by decide) ?_
    obtain ⟨e1, e2, e3, e4, e5, e6, e7, e8, e9, e10, e11, e12, e13, e14, e15, e16, e17, e18, e19, e20, e21, e22, e23⟩ := ti23 hf
    subst e1; subst e2; subst e3; subst e4; subst e5; subst e6; subst e7; subst e8; subst e9; subst e10; subst e11; subst e12; subst e13; subst e14; subst e15; subst e16; subst e17; subst e18; subst e19; subst e20; subst e21; subst e22; subst e23
    exact kretM C hP hD hS dX10_heard_28
  · have hf := kneg hc hf
    refine lv_aload_n hx hb dX10_heard_15 rfl (lv_at hl 0 rfl) ?_
    refine va_get (ci := 10) (v := .ref a_fitting) (C := RX10) (T := TX10) (N := 12) hx hb hts inX10 hown hK hP 0 rfl rfl 4 (by decide) (hts _ tw_287) (fun _ h9 => h9) rfl dX10_heard_16 ?_
    refine lv_iload_n hx hb dX10_heard_19 rfl (lv_at hl 1 rfl) ?_
    obtain ⟨v20, hc20, hf⟩ := cb1_some hf
    refine kcRV (q0 := 20) (ci := 1) (As := [.int x1]) (rest := []) (st1 := [.int v20]) C (c_Fi_byPiece l D ct a_fitting a_fitting_pieceFits a_fitting_inOrder f_fitting_songFits_1 f_fitting_allFit_1 f_fitting_ordered_1 f_fitting_pieceCount_1 f_fitting_pieceFits_1 x1 v20 hc20) ⟨rfl, rfl⟩ yn_yX1_byPiece tw_610 tw_611 tw_609 ⟨Nat.le_of_ble_eq_true rfl, Nat.le_of_ble_eq_true rfl⟩ ⟨Nat.zero_le _, Nat.zero_le _⟩ hP [20, 21] rfl rfl rfl rfl hl.1 rfl rfl (Nat.le_of_ble_eq_true rfl) dX10_heard_20 rfl ?_
    refine lv_goto (tgt := 28) hx hb dX10_heard_23 (by decide) ?_
    obtain ⟨e1, e2, e3, e4, e5, e6, e7, e8, e9, e10, e11, e12, e13, e14, e15, e16, e17, e18, e19, e20, e21, e22, e23⟩ := ti23 hf
    subst e1; subst e2; subst e3; subst e4; subst e5; subst e6; subst e7; subst e8; subst e9; subst e10; subst e11; subst e12; subst e13; subst e14; subst e15; subst e16; subst e17; subst e18; subst e19; subst e20; subst e21; subst e22; subst e23
    exact kretM C hP hD hS dX10_heard_28
def RM_Na_all : Room := { frames := 0, cells := 0, slots := 0, locals := 0 }
set_option maxHeartbeats 4000000 in
set_option maxRecDepth 100000 in
theorem c_Na_all (l : Launch) (D : va_G) (ct : Nat → ClassId) (a_this a_odds a_lengths a_letters a_alike a_oddsTogether : Nat) (f_fault : Int32) (f_size : Int32) (r : Int32) (hf : Na_all f_size = some r) : Met l yX3_all (WS yX3_all cX3_all 1 (some .int)) RM_Na_all (va_Pc [.ref a_this] (PR D ct (w_Na_all ct a_this a_odds a_lengths a_letters a_alike a_oddsTogether f_size f_fault))) (QR (some (.int r))) 0 0 (fun _ => False) := by
  refine kMetR yn_yX3_all rfl (Nat.le_of_ble_eq_true rfl) ?_
  intro p e s m args below meth c C hP ls hl
  have hl : lv_has ls 1 [(0, .ref a_this)] := hl
  obtain ⟨hx, hb, hr, hml, hown, hts, hlk, hK, hN⟩ := id C
  unfold Na_all at hf
  refine lv_iconst (v := 1) hx hb dX3_all_0 (by decide) ?_
  refine lv_aload_n hx hb dX3_all_1 rfl (lv_at hl 0 rfl) ?_
  refine va_get (ci := 3) (v := .int f_size) (C := RX3) (T := TX3) (N := 7) hx hb hts inX3 hown hK hP 0 rfl rfl 5 (by decide) (hts _ tw_124) (fun _ h9 => h9) rfl dX3_all_2 ?_
  refine lv_ishl hx hb dX3_all_5 ?_
  refine lv_iconst (v := 1) hx hb dX3_all_6 (by decide) ?_
  refine lv_isub hx hb dX3_all_7 ?_
  have e1 := Option.some.inj hf
  subst e1
  exact kretR C dX3_all_8
def RM_Na_soundingAt : Room := { frames := 0, cells := 0, slots := 0, locals := 0 }
set_option maxHeartbeats 4000000 in
set_option maxRecDepth 100000 in
theorem c_Na_soundingAt (l : Launch) (D : va_G) (ct : Nat → ClassId) (a_this a_odds a_lengths a_letters a_alike a_oddsTogether : Nat) (f_size : Int32) (f_fault : Int32) (f_alike : Nat → Int32) (x1 : Int32) (x2 : Int32) (r : Int32) (hf : Na_soundingAt f_alike x1 x2 = some r) : Met l yX3_soundingAt (WS yX3_soundingAt cX3_soundingAt 3 (some .int)) RM_Na_soundingAt (va_Pc [.ref a_this, .int x1, .int x2] (PR D ct (w_Na_soundingAt ct a_this a_odds a_lengths a_letters a_alike a_oddsTogether f_size f_fault f_alike))) (QR (some (.int r))) 0 0 (fun _ => False) := by
  refine kMetR yn_yX3_soundingAt rfl (Nat.le_of_ble_eq_true rfl) ?_
  intro p e s m args below meth c C hP ls hl
  have hl : lv_has ls 3 [(0, .ref a_this), (1, .int x1), (2, .int x2)] := hl
  obtain ⟨hx, hb, hr, hml, hown, hts, hlk, hK, hN⟩ := id C
  unfold Na_soundingAt at hf
  refine lv_iload_n hx hb dX3_soundingAt_0 rfl (lv_at hl 1 rfl) ?_
  refine lv_if_lt (tgt := 21) hx hb dX3_soundingAt_1 (by decide) (fun hc => ?_) (fun hc => ?_)
  · have hf := kpos hc hf
    refine lv_iconst (v := 0) hx hb dX3_soundingAt_21 (by decide) ?_
    have e1 := Option.some.inj hf
    subst e1
    exact kretR C dX3_soundingAt_22
  · have hf := kneg hc hf
    refine lv_iload_n hx hb dX3_soundingAt_4 rfl (lv_at hl 1 rfl) ?_
    refine lv_bipush (v := 6) hx hb dX3_soundingAt_5 (by decide) ?_
    refine lv_icmp_ge (tgt := 21) hx hb dX3_soundingAt_7 (by decide) (fun hc => ?_) (fun hc => ?_)
    · have hf := kpos hc hf
      refine lv_iconst (v := 0) hx hb dX3_soundingAt_21 (by decide) ?_
      have e1 := Option.some.inj hf
      subst e1
      exact kretR C dX3_soundingAt_22
    · have hf := kneg hc hf
      refine lv_iload_n hx hb dX3_soundingAt_10 rfl (lv_at hl 2 rfl) ?_
      refine lv_iconst (v := (-1)) hx hb dX3_soundingAt_11 (by decide) ?_
      refine lv_icmp_lt (tgt := 21) hx hb dX3_soundingAt_12 (by decide) (fun hc => ?_) (fun hc => ?_)
      · have hf := kpos hc hf
        refine lv_iconst (v := 0) hx hb dX3_soundingAt_21 (by decide) ?_
        have e1 := Option.some.inj hf
        subst e1
        exact kretR C dX3_soundingAt_22
      · have hf := kneg hc hf
        refine lv_iload_n hx hb dX3_soundingAt_15 rfl (lv_at hl 2 rfl) ?_
        refine lv_bipush (v := 6) hx hb dX3_soundingAt_16 (by decide) ?_
        refine lv_icmp_lt (tgt := 23) hx hb dX3_soundingAt_18 (by decide) (fun hc => ?_) (fun hc => ?_)
        · have hf := kpos hc hf
          refine lv_aload_n hx hb dX3_soundingAt_23 rfl (lv_at hl 0 rfl) ?_
          refine va_get (ci := 3) (v := .ref a_alike) (C := RX3) (T := TX3) (N := 7) hx hb hts inX3 hown hK hP 0 rfl rfl 3 (by decide) (hts _ tw_122) (fun _ h9 => h9) rfl dX3_soundingAt_24 ?_
          refine lv_iload_n hx hb dX3_soundingAt_27 rfl (lv_at hl 1 rfl) ?_
          refine lv_bipush (v := 7) hx hb dX3_soundingAt_28 (by decide) ?_
          refine lv_imul hx hb dX3_soundingAt_30 ?_
          refine lv_iload_n hx hb dX3_soundingAt_31 rfl (lv_at hl 2 rfl) ?_
          refine lv_iadd hx hb dX3_soundingAt_32 ?_
          refine lv_iconst (v := 1) hx hb dX3_soundingAt_33 (by decide) ?_
          refine lv_iadd hx hb dX3_soundingAt_34 ?_
          obtain ⟨hin, hf⟩ := rd_some hf
          generalize ev35 : f_alike (Int32.toNatClampNeg (((x1 * 7) + x2) + 1)) = v35 at hf
          refine kiald hx hb hK hP 1 0 rfl rfl hin ev35 dX3_soundingAt_35 ?_
          have e1 := Option.some.inj hf
          subst e1
          exact kretR C dX3_soundingAt_36
        · have hf := kneg hc hf
          refine lv_iconst (v := 0) hx hb dX3_soundingAt_21 (by decide) ?_
          have e1 := Option.some.inj hf
          subst e1
          exact kretR C dX3_soundingAt_22
def RM_Na_asLongAs : Room := { frames := 1, cells := 0, slots := 0, locals := 21 }
set_option maxHeartbeats 4000000 in
set_option maxRecDepth 100000 in
theorem t_Na_asLongAs_b32 {p : Program} {l : Launch} {e : Env} {s : State} {m : MethodId} {args : Array Value} {below : List Frame} {meth : Method} {c : Code} {D : va_G} {ct : Nat → ClassId} (C : CX p s m args meth c RX3 cX3_asLongAs 4 (some .int) D ct) (a_this a_odds a_lengths a_letters a_alike a_oddsTogether : Nat) (f_fault : Int32) (F : Nat) (f_size : Int32) (f_lengths : Nat → Int32) (x1 : Int32) (r : Int32) (rec4 : Int32 → Int32 → Option Int32) (hr4 : ∀ (x2 : Int32) (x3 : Int32), rec4 x2 x3 = some r → va_P D vwCl (w_Na_asLongAs ct a_this a_odds a_lengths a_letters a_alike a_oddsTogether f_size f_fault f_lengths) s.heap → ∀ ls : Array Slot, lv_has ls 4 [(0, .ref a_this), (1, .int x1), (2, .int x2), (3, .int x3)] → W p l e RM_Na_asLongAs s m args below meth c s.heap [] 0 0 (MQ below (QR (some (.int r))) args s 0 0 (fun _ => False)) (F0 m 4 ls [])) : ∀ (x2 : Int32) (x3 : Int32), Na_asLongAs_b32 F f_size f_lengths x1 rec4 x2 x3 = some r → va_P D vwCl (w_Na_asLongAs ct a_this a_odds a_lengths a_letters a_alike a_oddsTogether f_size f_fault f_lengths) s.heap → ∀ ls : Array Slot, lv_has ls 4 [(0, .ref a_this), (1, .int x1), (2, .int x2), (3, .int x3)] → W p l e RM_Na_asLongAs s m args below meth c s.heap [] 0 0 (MQ below (QR (some (.int r))) args s 0 0 (fun _ => False)) (F0 m 32 ls []) := by
  obtain ⟨hx, hb, hr, hml, hown, hts, hlk, hK, hN⟩ := id C
  intro x2 x3 hf hP ls hl
  unfold Na_asLongAs_b32 at hf
  refine lv_iinc (v := x3 + 1) (lv' := [(3, .int (x3 + 1)), (0, .ref a_this), (1, .int x1), (2, .int x2)]) hx hb dX3_asLongAs_32 hl (k := 3) rfl rfl (by decide) rfl (fun ls hl => ?_)
  refine lv_goto (tgt := 4) hx hb dX3_asLongAs_35 (by decide) ?_
  exact hr4 x2 (x3 + 1) hf hP _ (lv_sub hl [1, 2, 3, 0] rfl)
set_option maxHeartbeats 4000000 in
set_option maxRecDepth 100000 in
theorem t_Na_asLongAs_b4 {p : Program} {l : Launch} {e : Env} {s : State} {m : MethodId} {args : Array Value} {below : List Frame} {meth : Method} {c : Code} {D : va_G} {ct : Nat → ClassId} (C : CX p s m args meth c RX3 cX3_asLongAs 4 (some .int) D ct) (a_this a_odds a_lengths a_letters a_alike a_oddsTogether : Nat) (f_fault : Int32) (F : Nat) (f_size : Int32) (f_lengths : Nat → Int32) (x1 : Int32) (r : Int32) (rec4 : Int32 → Int32 → Option Int32) (hr4 : ∀ (x2 : Int32) (x3 : Int32), rec4 x2 x3 = some r → va_P D vwCl (w_Na_asLongAs ct a_this a_odds a_lengths a_letters a_alike a_oddsTogether f_size f_fault f_lengths) s.heap → ∀ ls : Array Slot, lv_has ls 4 [(0, .ref a_this), (1, .int x1), (2, .int x2), (3, .int x3)] → W p l e RM_Na_asLongAs s m args below meth c s.heap [] 0 0 (MQ below (QR (some (.int r))) args s 0 0 (fun _ => False)) (F0 m 4 ls [])) : ∀ (x2 : Int32) (x3 : Int32), Na_asLongAs_b4 F f_size f_lengths x1 rec4 x2 x3 = some r → va_P D vwCl (w_Na_asLongAs ct a_this a_odds a_lengths a_letters a_alike a_oddsTogether f_size f_fault f_lengths) s.heap → ∀ ls : Array Slot, lv_has ls 4 [(0, .ref a_this), (1, .int x1), (2, .int x2), (3, .int x3)] → W p l e RM_Na_asLongAs s m args below meth c s.heap [] 0 0 (MQ below (QR (some (.int r))) args s 0 0 (fun _ => False)) (F0 m 4 ls []) := by
  obtain ⟨hx, hb, hr, hml, hown, hts, hlk, hK, hN⟩ := id C
  intro x2 x3 hf hP ls hl
  unfold Na_asLongAs_b4 at hf
  refine lv_iload_n hx hb dX3_asLongAs_4 rfl (lv_at hl 3 rfl) ?_
  refine lv_aload_n hx hb dX3_asLongAs_5 rfl (lv_at hl 0 rfl) ?_
  refine va_get (ci := 3) (v := .int f_size) (C := RX3) (T := TX3) (N := 7) hx hb hts inX3 hown hK hP 0 rfl rfl 5 (by decide) (hts _ tw_124) (fun _ h9 => h9) rfl dX3_asLongAs_6 ?_
  refine lv_icmp_ge (tgt := 38) hx hb dX3_asLongAs_9 (by decide) (fun hc => ?_) (fun hc => ?_)
  · have hf := kpos hc hf
    refine lv_iload_n hx hb dX3_asLongAs_38 rfl (lv_at hl 2 rfl) ?_
    have e1 := Option.some.inj hf
    subst e1
    exact kretR C dX3_asLongAs_39
  · have hf := kneg hc hf
    refine lv_aload_n hx hb dX3_asLongAs_12 rfl (lv_at hl 0 rfl) ?_
    refine va_get (ci := 3) (v := .ref a_lengths) (C := RX3) (T := TX3) (N := 7) hx hb hts inX3 hown hK hP 0 rfl rfl 1 (by decide) (hts _ tw_120) (fun _ h9 => h9) rfl dX3_asLongAs_13 ?_
    refine lv_iload_n hx hb dX3_asLongAs_16 rfl (lv_at hl 3 rfl) ?_
    obtain ⟨hin, hf⟩ := rd_some hf
    generalize ev17 : f_lengths (Int32.toNatClampNeg x3) = v17 at hf
    refine kiald hx hb hK hP 1 0 rfl rfl hin ev17 dX3_asLongAs_17 ?_
    refine lv_aload_n hx hb dX3_asLongAs_18 rfl (lv_at hl 0 rfl) ?_
    refine lv_iload_n hx hb dX3_asLongAs_19 rfl (lv_at hl 1 rfl) ?_
    obtain ⟨v20, hc20, hf⟩ := cb1_some hf
    refine kcRV (q0 := 0) (ci := 3) (As := [.int x1]) (rest := [.int v17]) (st1 := [.int v20, .int v17]) C (c_Na_lengthOf l D ct a_this a_odds a_lengths a_letters a_alike a_oddsTogether f_fault f_size f_lengths x1 v20 hc20) ⟨rfl, rfl⟩ yn_yX3_lengthOf tw_453 tw_454 tw_633 ⟨Nat.le_of_ble_eq_true rfl, Nat.le_of_ble_eq_true rfl⟩ ⟨Nat.zero_le _, Nat.zero_le _⟩ hP [0, 1] rfl rfl rfl rfl hl.1 rfl rfl (Nat.le_of_ble_eq_true rfl) dX3_asLongAs_20 rfl ?_
    refine lv_icmp_ne (tgt := 32) hx hb dX3_asLongAs_23 (by decide) (fun hc => ?_) (fun hc => ?_)
    · have hf := kneg hc hf
      exact t_Na_asLongAs_b32 C a_this a_odds a_lengths a_letters a_alike a_oddsTogether f_fault F f_size f_lengths x1 r rec4 hr4 x2 x3 hf hP _ (lv_sub hl [0, 1, 2, 3] rfl)
    · have hf := kpos hc hf
      refine lv_iload_n hx hb dX3_asLongAs_26 rfl (lv_at hl 2 rfl) ?_
      refine lv_iconst (v := 1) hx hb dX3_asLongAs_27 (by decide) ?_
      refine lv_iload_n hx hb dX3_asLongAs_28 rfl (lv_at hl 3 rfl) ?_
      refine lv_ishl hx hb dX3_asLongAs_29 ?_
      refine lv_ior hx hb dX3_asLongAs_30 ?_
      refine lv_istore_n (lv' := [(2, .int (x2 ||| ((1 : Int32) <<< (x3 &&& 31)))), (0, .ref a_this), (1, .int x1), (3, .int x3)]) hx hb dX3_asLongAs_31 rfl hl (by decide) rfl (fun ls hl => ?_)
      exact t_Na_asLongAs_b32 C a_this a_odds a_lengths a_letters a_alike a_oddsTogether f_fault F f_size f_lengths x1 r rec4 hr4 (x2 ||| ((1 : Int32) <<< (x3 &&& 31))) x3 hf hP _ (lv_sub hl [1, 2, 0, 3] rfl)
set_option maxHeartbeats 4000000 in
set_option maxRecDepth 100000 in
theorem t_Na_asLongAs_l4 {p : Program} {l : Launch} {e : Env} {s : State} {m : MethodId} {args : Array Value} {below : List Frame} {meth : Method} {c : Code} {D : va_G} {ct : Nat → ClassId} (C : CX p s m args meth c RX3 cX3_asLongAs 4 (some .int) D ct) (a_this a_odds a_lengths a_letters a_alike a_oddsTogether : Nat) (f_fault : Int32) (F : Nat) (f_size : Int32) (f_lengths : Nat → Int32) (x1 : Int32) (r : Int32) : ∀ (n : Nat) (x2 : Int32) (x3 : Int32), Na_asLongAs_l4 F f_size f_lengths x1 n x2 x3 = some r → va_P D vwCl (w_Na_asLongAs ct a_this a_odds a_lengths a_letters a_alike a_oddsTogether f_size f_fault f_lengths) s.heap → ∀ ls : Array Slot, lv_has ls 4 [(0, .ref a_this), (1, .int x1), (2, .int x2), (3, .int x3)] → W p l e RM_Na_asLongAs s m args below meth c s.heap [] 0 0 (MQ below (QR (some (.int r))) args s 0 0 (fun _ => False)) (F0 m 4 ls []) := by
  intro n
  induction n with
  | zero =>
    intro x2 x3 hf
    exact absurd hf (by simp [Na_asLongAs_l4])
  | succ n ih =>
    intro x2 x3 hf
    exact t_Na_asLongAs_b4 C a_this a_odds a_lengths a_letters a_alike a_oddsTogether f_fault F f_size f_lengths x1 r (Na_asLongAs_l4 F f_size f_lengths x1 n) ih x2 x3 hf
set_option maxHeartbeats 4000000 in
set_option maxRecDepth 100000 in
theorem c_Na_asLongAs (l : Launch) (D : va_G) (ct : Nat → ClassId) (a_this a_odds a_lengths a_letters a_alike a_oddsTogether : Nat) (f_fault : Int32) (F : Nat) (f_size : Int32) (f_lengths : Nat → Int32) (x1 : Int32) (r : Int32) (hf : Na_asLongAs F f_size f_lengths x1 = some r) : Met l yX3_asLongAs (WS yX3_asLongAs cX3_asLongAs 4 (some .int)) RM_Na_asLongAs (va_Pc [.ref a_this, .int x1] (PR D ct (w_Na_asLongAs ct a_this a_odds a_lengths a_letters a_alike a_oddsTogether f_size f_fault f_lengths))) (QR (some (.int r))) 0 0 (fun _ => False) := by
  refine kMetR yn_yX3_asLongAs rfl (Nat.le_of_ble_eq_true rfl) ?_
  intro p e s m args below meth c C hP ls hl
  have hl : lv_has ls 4 [(0, .ref a_this), (1, .int x1)] := hl
  obtain ⟨hx, hb, hr, hml, hown, hts, hlk, hK, hN⟩ := id C
  unfold Na_asLongAs at hf
  refine lv_iconst (v := 0) hx hb dX3_asLongAs_0 (by decide) ?_
  refine lv_istore_n (lv' := [(2, .int 0), (0, .ref a_this), (1, .int x1)]) hx hb dX3_asLongAs_1 rfl hl (by decide) rfl (fun ls hl => ?_)
  refine lv_iconst (v := 0) hx hb dX3_asLongAs_2 (by decide) ?_
  refine lv_istore_n (lv' := [(3, .int 0), (2, .int 0), (0, .ref a_this), (1, .int x1)]) hx hb dX3_asLongAs_3 rfl hl (by decide) rfl (fun ls hl => ?_)
  exact t_Na_asLongAs_l4 C a_this a_odds a_lengths a_letters a_alike a_oddsTogether f_fault F f_size f_lengths x1 r F 0 0 hf hP _ (lv_sub hl [2, 3, 1, 0] rfl)
def RM_Na_oneLetterFrom : Room := { frames := 2, cells := 0, slots := 0, locals := 44 }
set_option maxHeartbeats 4000000 in
set_option maxRecDepth 100000 in
theorem t_Na_oneLetterFrom_b54 {p : Program} {l : Launch} {e : Env} {s : State} {m : MethodId} {args : Array Value} {below : List Frame} {meth : Method} {c : Code} {D : va_G} {ct : Nat → ClassId} (C : CX p s m args meth c RX3 cX3_oneLetterFrom 6 (some .int) D ct) (a_this a_odds a_lengths a_letters a_alike a_oddsTogether : Nat) (f_fault : Int32) (F : Nat) (f_size : Int32) (f_lengths : Nat → Int32) (f_letters : Nat → Int32) (f_alike : Nat → Int32) (x1 : Int32) (r : Int32) : ∀ (x2 : Int32) (x3 : Int32), Na_oneLetterFrom_b54 F f_size f_lengths f_letters f_alike x1 x2 x3 = some r → va_P D vwCl (w_Na_oneLetterFrom ct a_this a_odds a_lengths a_letters a_alike a_oddsTogether f_size f_fault f_lengths f_letters f_alike) s.heap → ∀ ls : Array Slot, lv_has ls 6 [(0, .ref a_this), (1, .int x1), (2, .int x2), (3, .int x3)] → W p l e RM_Na_oneLetterFrom s m args below meth c s.heap [] 0 0 (MQ below (QR (some (.int r))) args s 0 0 (fun _ => False)) (F0 m 54 ls []) := by
  obtain ⟨hx, hb, hr, hml, hown, hts, hlk, hK, hN⟩ := id C
  intro x2 x3 hf hP ls hl
  unfold Na_oneLetterFrom_b54 at hf
  refine lv_iload_n hx hb dX3_oneLetterFrom_54 rfl (lv_at hl 2 rfl) ?_
  refine lv_iload_n hx hb dX3_oneLetterFrom_55 rfl (lv_at hl 3 rfl) ?_
  refine lv_iconst (v := (-1)) hx hb dX3_oneLetterFrom_56 (by decide) ?_
  refine lv_ixor hx hb dX3_oneLetterFrom_57 ?_
  refine lv_iand hx hb dX3_oneLetterFrom_58 ?_
  refine lv_aload_n hx hb dX3_oneLetterFrom_59 rfl (lv_at hl 0 rfl) ?_
  refine lv_iload_n hx hb dX3_oneLetterFrom_60 rfl (lv_at hl 1 rfl) ?_
  obtain ⟨v61, hc61, hf⟩ := cb1_some hf
  refine kcRV (q0 := 0) (ci := 3) (As := [.int x1]) (rest := [.int (x2 &&& (x3 ^^^ (-1)))]) (st1 := [.int v61, .int (x2 &&& (x3 ^^^ (-1)))]) C (c_Na_asLongAs l D ct a_this a_odds a_lengths a_letters a_alike a_oddsTogether f_fault F f_size f_lengths x1 v61 hc61) ⟨rfl, rfl⟩ yn_yX3_asLongAs tw_631 tw_11 tw_629 ⟨Nat.le_of_ble_eq_true rfl, Nat.le_of_ble_eq_true rfl⟩ ⟨Nat.zero_le _, Nat.zero_le _⟩ hP [0, 1] rfl rfl rfl rfl hl.1 rfl rfl (Nat.le_of_ble_eq_true rfl) dX3_oneLetterFrom_61 rfl ?_
  refine lv_iand hx hb dX3_oneLetterFrom_64 ?_
  have e1 := Option.some.inj hf
  subst e1
  exact kretR C dX3_oneLetterFrom_65
set_option maxHeartbeats 4000000 in
set_option maxRecDepth 100000 in
theorem t_Na_oneLetterFrom_b7 {p : Program} {l : Launch} {e : Env} {s : State} {m : MethodId} {args : Array Value} {below : List Frame} {meth : Method} {c : Code} {D : va_G} {ct : Nat → ClassId} (C : CX p s m args meth c RX3 cX3_oneLetterFrom 6 (some .int) D ct) (a_this a_odds a_lengths a_letters a_alike a_oddsTogether : Nat) (f_fault : Int32) (F : Nat) (f_size : Int32) (f_lengths : Nat → Int32) (f_letters : Nat → Int32) (f_alike : Nat → Int32) (x1 : Int32) (r : Int32) (rec7 : Int32 → Int32 → Int32 → Option Int32) (hr7 : ∀ (x2 : Int32) (x3 : Int32) (x4 : Int32), rec7 x2 x3 x4 = some r → va_P D vwCl (w_Na_oneLetterFrom ct a_this a_odds a_lengths a_letters a_alike a_oddsTogether f_size f_fault f_lengths f_letters f_alike) s.heap → ∀ ls : Array Slot, lv_has ls 6 [(0, .ref a_this), (1, .int x1), (2, .int x2), (3, .int x3), (4, .int x4)] → W p l e RM_Na_oneLetterFrom s m args below meth c s.heap [] 0 0 (MQ below (QR (some (.int r))) args s 0 0 (fun _ => False)) (F0 m 7 ls [])) : ∀ (x2 : Int32) (x3 : Int32) (x4 : Int32), Na_oneLetterFrom_b7 F f_size f_lengths f_letters f_alike x1 rec7 x2 x3 x4 = some r → va_P D vwCl (w_Na_oneLetterFrom ct a_this a_odds a_lengths a_letters a_alike a_oddsTogether f_size f_fault f_lengths f_letters f_alike) s.heap → ∀ ls : Array Slot, lv_has ls 6 [(0, .ref a_this), (1, .int x1), (2, .int x2), (3, .int x3), (4, .int x4)] → W p l e RM_Na_oneLetterFrom s m args below meth c s.heap [] 0 0 (MQ below (QR (some (.int r))) args s 0 0 (fun _ => False)) (F0 m 7 ls []) := by
  obtain ⟨hx, hb, hr, hml, hown, hts, hlk, hK, hN⟩ := id C
  intro x2 x3 x4 hf hP ls hl
  unfold Na_oneLetterFrom_b7 at hf
  refine lv_iload hx hb dX3_oneLetterFrom_7 (lv_at hl 4 rfl) ?_
  refine lv_bipush (v := 6) hx hb dX3_oneLetterFrom_9 (by decide) ?_
  refine lv_icmp_ge (tgt := 54) hx hb dX3_oneLetterFrom_11 (by decide) (fun hc => ?_) (fun hc => ?_)
  · have hf := kpos hc hf
    exact t_Na_oneLetterFrom_b54 C a_this a_odds a_lengths a_letters a_alike a_oddsTogether f_fault F f_size f_lengths f_letters f_alike x1 r x2 x3 hf hP _ (lv_sub hl [0, 1, 2, 3] rfl)
  · have hf := kneg hc hf
    refine lv_aload_n hx hb dX3_oneLetterFrom_14 rfl (lv_at hl 0 rfl) ?_
    obtain ⟨v15, hc15, hf⟩ := cb1_some hf
    refine kcRV (q0 := 0) (ci := 3) (As := []) (rest := []) (st1 := [.int v15]) C (c_Na_all l D ct a_this a_odds a_lengths a_letters a_alike a_oddsTogether f_fault f_size v15 hc15) ⟨rfl, rfl⟩ yn_yX3_all tw_622 tw_623 tw_621 ⟨Nat.le_of_ble_eq_true rfl, Nat.le_of_ble_eq_true rfl⟩ ⟨Nat.zero_le _, Nat.zero_le _⟩ hP [0] rfl rfl rfl rfl hl.1 rfl rfl (Nat.le_of_ble_eq_true rfl) dX3_oneLetterFrom_15 rfl ?_
    refine lv_aload_n hx hb dX3_oneLetterFrom_18 rfl (lv_at hl 0 rfl) ?_
    refine lv_iload hx hb dX3_oneLetterFrom_19 (lv_at hl 4 rfl) ?_
    refine lv_aload_n hx hb dX3_oneLetterFrom_21 rfl (lv_at hl 0 rfl) ?_
    refine lv_iload_n hx hb dX3_oneLetterFrom_22 rfl (lv_at hl 1 rfl) ?_
    refine lv_iload hx hb dX3_oneLetterFrom_23 (lv_at hl 4 rfl) ?_
    obtain ⟨v25, hc25, hf⟩ := cb1_some hf
    refine kcRV (q0 := 0) (ci := 3) (As := [.int x1, .int x4]) (rest := [.int x4, .ref a_this, .int v15]) (st1 := [.int v25, .int x4, .ref a_this, .int v15]) C (c_Na_letterAt l D ct a_this a_odds a_lengths a_letters a_alike a_oddsTogether f_fault f_size f_lengths f_letters x1 x4 v25 hc25) ⟨rfl, rfl⟩ yn_yX3_letterAt tw_403 tw_404 tw_402 ⟨Nat.le_of_ble_eq_true rfl, Nat.le_of_ble_eq_true rfl⟩ ⟨Nat.zero_le _, Nat.zero_le _⟩ hP [0, 1, 2] rfl rfl rfl rfl hl.1 rfl rfl (Nat.le_of_ble_eq_true rfl) dX3_oneLetterFrom_25 rfl ?_
    obtain ⟨v28, hc28, hf⟩ := cb1_some hf
    refine kcRV (q0 := 0) (ci := 3) (As := [.int x4, .int v25]) (rest := [.int v15]) (st1 := [.int v28, .int v15]) C (c_Na_soundingAt l D ct a_this a_odds a_lengths a_letters a_alike a_oddsTogether f_size f_fault f_alike x4 v25 v28 hc28) ⟨rfl, rfl⟩ yn_yX3_soundingAt tw_626 tw_627 tw_625 ⟨Nat.le_of_ble_eq_true rfl, Nat.le_of_ble_eq_true rfl⟩ ⟨Nat.zero_le _, Nat.zero_le _⟩ hP [0, 3] rfl rfl rfl rfl hl.1 rfl rfl (Nat.le_of_ble_eq_true rfl) dX3_oneLetterFrom_28 rfl ?_
    refine lv_iconst (v := (-1)) hx hb dX3_oneLetterFrom_31 (by decide) ?_
    refine lv_ixor hx hb dX3_oneLetterFrom_32 ?_
    refine lv_iand hx hb dX3_oneLetterFrom_33 ?_
    refine lv_istore (lv' := [(5, .int (v15 &&& (v28 ^^^ (-1)))), (0, .ref a_this), (1, .int x1), (2, .int x2), (3, .int x3), (4, .int x4)]) hx hb dX3_oneLetterFrom_34 hl (by decide) rfl (fun ls hl => ?_)
    refine lv_iload_n hx hb dX3_oneLetterFrom_36 rfl (lv_at hl 4 rfl) ?_
    refine lv_iload_n hx hb dX3_oneLetterFrom_37 rfl (lv_at hl 3 rfl) ?_
    refine lv_iload hx hb dX3_oneLetterFrom_38 (lv_at hl 0 rfl) ?_
    refine lv_iand hx hb dX3_oneLetterFrom_40 ?_
    refine lv_ior hx hb dX3_oneLetterFrom_41 ?_
    refine lv_istore_n (lv' := [(3, .int (x3 ||| (x2 &&& (v15 &&& (v28 ^^^ (-1)))))), (5, .int (v15 &&& (v28 ^^^ (-1)))), (0, .ref a_this), (1, .int x1), (2, .int x2), (4, .int x4)]) hx hb dX3_oneLetterFrom_42 rfl hl (by decide) rfl (fun ls hl => ?_)
    refine lv_iload_n hx hb dX3_oneLetterFrom_43 rfl (lv_at hl 4 rfl) ?_
    refine lv_iload hx hb dX3_oneLetterFrom_44 (lv_at hl 1 rfl) ?_
    refine lv_ior hx hb dX3_oneLetterFrom_46 ?_
    refine lv_istore_n (lv' := [(2, .int (x2 ||| (v15 &&& (v28 ^^^ (-1))))), (3, .int (x3 ||| (x2 &&& (v15 &&& (v28 ^^^ (-1)))))), (5, .int (v15 &&& (v28 ^^^ (-1)))), (0, .ref a_this), (1, .int x1), (4, .int x4)]) hx hb dX3_oneLetterFrom_47 rfl hl (by decide) rfl (fun ls hl => ?_)
    refine lv_iinc (v := x4 + 1) (lv' := [(4, .int (x4 + 1)), (2, .int (x2 ||| (v15 &&& (v28 ^^^ (-1))))), (3, .int (x3 ||| (x2 &&& (v15 &&& (v28 ^^^ (-1)))))), (5, .int (v15 &&& (v28 ^^^ (-1)))), (0, .ref a_this), (1, .int x1)]) hx hb dX3_oneLetterFrom_48 hl (k := 5) rfl rfl (by decide) rfl (fun ls hl => ?_)
    refine lv_goto (tgt := 7) hx hb dX3_oneLetterFrom_51 (by decide) ?_
    exact hr7 (x2 ||| (v15 &&& (v28 ^^^ (-1)))) (x3 ||| (x2 &&& (v15 &&& (v28 ^^^ (-1))))) (x4 + 1) hf hP _ (lv_sub hl [4, 5, 1, 2, 0] rfl)
set_option maxHeartbeats 4000000 in
set_option maxRecDepth 100000 in
theorem t_Na_oneLetterFrom_l7 {p : Program} {l : Launch} {e : Env} {s : State} {m : MethodId} {args : Array Value} {below : List Frame} {meth : Method} {c : Code} {D : va_G} {ct : Nat → ClassId} (C : CX p s m args meth c RX3 cX3_oneLetterFrom 6 (some .int) D ct) (a_this a_odds a_lengths a_letters a_alike a_oddsTogether : Nat) (f_fault : Int32) (F : Nat) (f_size : Int32) (f_lengths : Nat → Int32) (f_letters : Nat → Int32) (f_alike : Nat → Int32) (x1 : Int32) (r : Int32) : ∀ (n : Nat) (x2 : Int32) (x3 : Int32) (x4 : Int32), Na_oneLetterFrom_l7 F f_size f_lengths f_letters f_alike x1 n x2 x3 x4 = some r → va_P D vwCl (w_Na_oneLetterFrom ct a_this a_odds a_lengths a_letters a_alike a_oddsTogether f_size f_fault f_lengths f_letters f_alike) s.heap → ∀ ls : Array Slot, lv_has ls 6 [(0, .ref a_this), (1, .int x1), (2, .int x2), (3, .int x3), (4, .int x4)] → W p l e RM_Na_oneLetterFrom s m args below meth c s.heap [] 0 0 (MQ below (QR (some (.int r))) args s 0 0 (fun _ => False)) (F0 m 7 ls []) := by
  intro n
  induction n with
  | zero =>
    intro x2 x3 x4 hf
    exact absurd hf (by simp [Na_oneLetterFrom_l7])
  | succ n ih =>
    intro x2 x3 x4 hf
    exact t_Na_oneLetterFrom_b7 C a_this a_odds a_lengths a_letters a_alike a_oddsTogether f_fault F f_size f_lengths f_letters f_alike x1 r (Na_oneLetterFrom_l7 F f_size f_lengths f_letters f_alike x1 n) ih x2 x3 x4 hf
set_option maxHeartbeats 4000000 in
set_option maxRecDepth 100000 in
theorem c_Na_oneLetterFrom (l : Launch) (D : va_G) (ct : Nat → ClassId) (a_this a_odds a_lengths a_letters a_alike a_oddsTogether : Nat) (f_fault : Int32) (F : Nat) (f_size : Int32) (f_lengths : Nat → Int32) (f_letters : Nat → Int32) (f_alike : Nat → Int32) (x1 : Int32) (r : Int32) (hf : Na_oneLetterFrom F f_size f_lengths f_letters f_alike x1 = some r) : Met l yX3_oneLetterFrom (WS yX3_oneLetterFrom cX3_oneLetterFrom 6 (some .int)) RM_Na_oneLetterFrom (va_Pc [.ref a_this, .int x1] (PR D ct (w_Na_oneLetterFrom ct a_this a_odds a_lengths a_letters a_alike a_oddsTogether f_size f_fault f_lengths f_letters f_alike))) (QR (some (.int r))) 0 0 (fun _ => False) := by
  refine kMetR yn_yX3_oneLetterFrom rfl (Nat.le_of_ble_eq_true rfl) ?_
  intro p e s m args below meth c C hP ls hl
  have hl : lv_has ls 6 [(0, .ref a_this), (1, .int x1)] := hl
  obtain ⟨hx, hb, hr, hml, hown, hts, hlk, hK, hN⟩ := id C
  unfold Na_oneLetterFrom at hf
  refine lv_iconst (v := 0) hx hb dX3_oneLetterFrom_0 (by decide) ?_
  refine lv_istore_n (lv' := [(2, .int 0), (0, .ref a_this), (1, .int x1)]) hx hb dX3_oneLetterFrom_1 rfl hl (by decide) rfl (fun ls hl => ?_)
  refine lv_iconst (v := 0) hx hb dX3_oneLetterFrom_2 (by decide) ?_
  refine lv_istore_n (lv' := [(3, .int 0), (2, .int 0), (0, .ref a_this), (1, .int x1)]) hx hb dX3_oneLetterFrom_3 rfl hl (by decide) rfl (fun ls hl => ?_)
  refine lv_iconst (v := 0) hx hb dX3_oneLetterFrom_4 (by decide) ?_
  refine lv_istore (lv' := [(4, .int 0), (3, .int 0), (2, .int 0), (0, .ref a_this), (1, .int x1)]) hx hb dX3_oneLetterFrom_5 hl (by decide) rfl (fun ls hl => ?_)
  exact t_Na_oneLetterFrom_l7 C a_this a_odds a_lengths a_letters a_alike a_oddsTogether f_fault F f_size f_lengths f_letters f_alike x1 r F 0 0 0 hf hP _ (lv_sub hl [3, 4, 2, 1, 0] rfl)
def RM_ND_off : Room := { frames := 5, cells := 0, slots := 0, locals := 117 }
set_option maxHeartbeats 4000000 in
set_option maxRecDepth 100000 in
theorem c_ND_off (l : Launch) (D : va_G) (ct : Nat → ClassId) (a_this a_texts a_names a_pieces a_song a_fitting a_deal a_guesses a_wise a_spy a_sheets a_texts0 a_texts1 a_texts2 a_texts0_bytes a_texts1_bytes a_texts2_bytes a_names_odds a_names_lengths a_names_letters a_names_alike a_names_oddsTogether a_pieces_inside a_pieces_lengths a_pieces_letters a_song_letters a_fitting_pieceFits a_fitting_inOrder : Nat) (f_finding : Int32) (F : Nat) (f_texts0_size : Int32) (f_texts0_bytes : Nat → Int32) (f_texts1_size : Int32) (f_texts1_bytes : Nat → Int32) (f_texts2_size : Int32) (f_texts2_bytes : Nat → Int32) (f_stale : Int32) (f_names_size : Int32) (f_names_fault : Int32) (f_names_odds : Nat → Int32) (f_names_lengths : Nat → Int32) (f_names_letters : Nat → Int32) (f_names_alike : Nat → Int32) (f_names_oddsTogether : Nat → Int32) (f_pieces_size : Int32) (f_pieces_fault : Int32) (f_pieces_inside : Nat → Int32) (f_pieces_lengths : Nat → Int32) (f_pieces_letters : Nat → Int32) (f_song_size : Int32) (f_song_fault : Int32) (f_song_letters : Nat → Int32) (f_fitting_pieceCount : Int32) (f_fitting_songFits : Int32) (f_fitting_allFit : Int32) (f_fitting_ordered : Int32) (f_fitting_pieceFits : Nat → Int32) (f_fitting_inOrder : Nat → Int32) (x1 : Int32) (r : Int32) (r_stale : Int32) (r_names_size : Int32) (r_names_fault : Int32) (r_names_odds : Nat → Int32) (r_names_lengths : Nat → Int32) (r_names_letters : Nat → Int32) (r_names_alike : Nat → Int32) (r_names_oddsTogether : Nat → Int32) (r_pieces_size : Int32) (r_pieces_fault : Int32) (r_pieces_inside : Nat → Int32) (r_pieces_lengths : Nat → Int32) (r_pieces_letters : Nat → Int32) (r_song_size : Int32) (r_song_fault : Int32) (r_song_letters : Nat → Int32) (r_fitting_pieceCount : Int32) (r_fitting_songFits : Int32) (r_fitting_allFit : Int32) (r_fitting_ordered : Int32) (r_fitting_pieceFits : Nat → Int32) (r_fitting_inOrder : Nat → Int32) (sz : Nat) (hf : ND_off F f_texts0_size f_texts0_bytes f_texts1_size f_texts1_bytes f_texts2_size f_texts2_bytes f_stale f_names_size f_names_fault f_names_odds f_names_lengths f_names_letters f_names_alike f_names_oddsTogether f_pieces_size f_pieces_fault f_pieces_inside f_pieces_lengths f_pieces_letters f_song_size f_song_fault f_song_letters f_fitting_pieceCount f_fitting_songFits f_fitting_allFit f_fitting_ordered f_fitting_pieceFits f_fitting_inOrder x1 = some (r, r_stale, r_names_size, r_names_fault, r_names_odds, r_names_lengths, r_names_letters, r_names_alike, r_names_oddsTogether, r_pieces_size, r_pieces_fault, r_pieces_inside, r_pieces_lengths, r_pieces_letters, r_song_size, r_song_fault, r_song_letters, r_fitting_pieceCount, r_fitting_songFits, r_fitting_allFit, r_fitting_ordered, r_fitting_pieceFits, r_fitting_inOrder)) : Met l yX10_off (WS yX10_off cX10_off 2 (some .int)) RM_ND_off (va_Pc [.ref a_this, .int x1] (PM D ct sz (w_ND_off ct a_this a_texts a_names a_pieces a_song a_fitting a_deal a_guesses a_wise a_spy a_sheets a_texts0 a_texts1 a_texts2 a_texts0_bytes a_texts1_bytes a_texts2_bytes a_names_odds a_names_lengths a_names_letters a_names_alike a_names_oddsTogether a_pieces_inside a_pieces_lengths a_pieces_letters a_song_letters a_fitting_pieceFits a_fitting_inOrder f_stale f_finding f_texts0_size f_texts0_bytes f_texts1_size f_texts1_bytes f_texts2_size f_texts2_bytes f_names_size f_names_fault f_names_odds f_names_lengths f_names_letters f_names_alike f_names_oddsTogether f_pieces_size f_pieces_fault f_pieces_inside f_pieces_lengths f_pieces_letters f_song_size f_song_fault f_song_letters f_fitting_pieceCount f_fitting_songFits f_fitting_allFit f_fitting_ordered f_fitting_pieceFits f_fitting_inOrder))) (QM D (some (.int r)) (w_ND_off ct a_this a_texts a_names a_pieces a_song a_fitting a_deal a_guesses a_wise a_spy a_sheets a_texts0 a_texts1 a_texts2 a_texts0_bytes a_texts1_bytes a_texts2_bytes a_names_odds a_names_lengths a_names_letters a_names_alike a_names_oddsTogether a_pieces_inside a_pieces_lengths a_pieces_letters a_song_letters a_fitting_pieceFits a_fitting_inOrder r_stale f_finding f_texts0_size f_texts0_bytes f_texts1_size f_texts1_bytes f_texts2_size f_texts2_bytes r_names_size r_names_fault r_names_odds r_names_lengths r_names_letters r_names_alike r_names_oddsTogether r_pieces_size r_pieces_fault r_pieces_inside r_pieces_lengths r_pieces_letters r_song_size r_song_fault r_song_letters r_fitting_pieceCount r_fitting_songFits r_fitting_allFit r_fitting_ordered r_fitting_pieceFits r_fitting_inOrder) (va_A (w_ND_off ct a_this a_texts a_names a_pieces a_song a_fitting a_deal a_guesses a_wise a_spy a_sheets a_texts0 a_texts1 a_texts2 a_texts0_bytes a_texts1_bytes a_texts2_bytes a_names_odds a_names_lengths a_names_letters a_names_alike a_names_oddsTogether a_pieces_inside a_pieces_lengths a_pieces_letters a_song_letters a_fitting_pieceFits a_fitting_inOrder f_stale f_finding f_texts0_size f_texts0_bytes f_texts1_size f_texts1_bytes f_texts2_size f_texts2_bytes f_names_size f_names_fault f_names_odds f_names_lengths f_names_letters f_names_alike f_names_oddsTogether f_pieces_size f_pieces_fault f_pieces_inside f_pieces_lengths f_pieces_letters f_song_size f_song_fault f_song_letters f_fitting_pieceCount f_fitting_songFits f_fitting_allFit f_fitting_ordered f_fitting_pieceFits f_fitting_inOrder) sz)) 0 0 (va_A (w_ND_off ct a_this a_texts a_names a_pieces a_song a_fitting a_deal a_guesses a_wise a_spy a_sheets a_texts0 a_texts1 a_texts2 a_texts0_bytes a_texts1_bytes a_texts2_bytes a_names_odds a_names_lengths a_names_letters a_names_alike a_names_oddsTogether a_pieces_inside a_pieces_lengths a_pieces_letters a_song_letters a_fitting_pieceFits a_fitting_inOrder f_stale f_finding f_texts0_size f_texts0_bytes f_texts1_size f_texts1_bytes f_texts2_size f_texts2_bytes f_names_size f_names_fault f_names_odds f_names_lengths f_names_letters f_names_alike f_names_oddsTogether f_pieces_size f_pieces_fault f_pieces_inside f_pieces_lengths f_pieces_letters f_song_size f_song_fault f_song_letters f_fitting_pieceCount f_fitting_songFits f_fitting_allFit f_fitting_ordered f_fitting_pieceFits f_fitting_inOrder) sz) := by
  refine kMetM yn_yX10_off rfl (Nat.le_of_ble_eq_true rfl) ?_
  intro p e s m args below meth c A C hA hP hD ls hl
  have hl : lv_has ls 2 [(0, .ref a_this), (1, .int x1)] := hl
  have hS : va_S A s.heap s.heap [] := va_S.rf
  obtain ⟨hx, hb, hr, hml, hown, hts, hlk, hK, hN⟩ := id C
  unfold ND_off at hf
  refine lv_aload_n hx hb dX10_off_0 rfl (lv_at hl 0 rfl) ?_
  obtain ⟨f_stale_1, f_names_size_1, f_names_fault_1, f_names_odds_1, f_names_lengths_1, f_names_letters_1, f_names_alike_1, f_names_oddsTogether_1, f_pieces_size_1, f_pieces_fault_1, f_pieces_inside_1, f_pieces_lengths_1, f_pieces_letters_1, f_song_size_1, f_song_fault_1, f_song_letters_1, f_fitting_pieceCount_1, f_fitting_songFits_1, f_fitting_allFit_1, f_fitting_ordered_1, f_fitting_pieceFits_1, f_fitting_inOrder_1, hc1, hf⟩ := cb22_some hf
  refine kcMV (q0 := 0) (ci := 10) (As := []) (rest := []) (st1 := []) (wf := (w_ND_off ct a_this a_texts a_names a_pieces a_song a_fitting a_deal a_guesses a_wise a_spy a_sheets a_texts0 a_texts1 a_texts2 a_texts0_bytes a_texts1_bytes a_texts2_bytes a_names_odds a_names_lengths a_names_letters a_names_alike a_names_oddsTogether a_pieces_inside a_pieces_lengths a_pieces_letters a_song_letters a_fitting_pieceFits a_fitting_inOrder f_stale_1 f_finding f_texts0_size f_texts0_bytes f_texts1_size f_texts1_bytes f_texts2_size f_texts2_bytes f_names_size_1 f_names_fault_1 f_names_odds_1 f_names_lengths_1 f_names_letters_1 f_names_alike_1 f_names_oddsTogether_1 f_pieces_size_1 f_pieces_fault_1 f_pieces_inside_1 f_pieces_lengths_1 f_pieces_letters_1 f_song_size_1 f_song_fault_1 f_song_letters_1 f_fitting_pieceCount_1 f_fitting_songFits_1 f_fitting_allFit_1 f_fitting_ordered_1 f_fitting_pieceFits_1 f_fitting_inOrder_1)) C (c_ND_refresh l D ct a_this a_texts a_names a_pieces a_song a_fitting a_deal a_guesses a_wise a_spy a_sheets a_texts0 a_texts1 a_texts2 a_texts0_bytes a_texts1_bytes a_texts2_bytes a_names_odds a_names_lengths a_names_letters a_names_alike a_names_oddsTogether a_pieces_inside a_pieces_lengths a_pieces_letters a_song_letters a_fitting_pieceFits a_fitting_inOrder f_finding F f_texts0_size f_texts0_bytes f_texts1_size f_texts1_bytes f_texts2_size f_texts2_bytes f_stale f_names_size f_names_fault f_names_odds f_names_lengths f_names_letters f_names_alike f_names_oddsTogether f_pieces_size f_pieces_fault f_pieces_inside f_pieces_lengths f_pieces_letters f_song_size f_song_fault f_song_letters f_fitting_pieceCount f_fitting_songFits f_fitting_allFit f_fitting_ordered f_fitting_pieceFits f_fitting_inOrder f_stale_1 f_names_size_1 f_names_fault_1 f_names_odds_1 f_names_lengths_1 f_names_letters_1 f_names_alike_1 f_names_oddsTogether_1 f_pieces_size_1 f_pieces_fault_1 f_pieces_inside_1 f_pieces_lengths_1 f_pieces_letters_1 f_song_size_1 f_song_fault_1 f_song_letters_1 f_fitting_pieceCount_1 f_fitting_songFits_1 f_fitting_allFit_1 f_fitting_ordered_1 f_fitting_pieceFits_1 f_fitting_inOrder_1 _ hc1) ⟨rfl, rfl⟩ yn_yX10_refresh tw_373 tw_1 tw_371 ⟨Nat.le_of_ble_eq_true rfl, Nat.le_of_ble_eq_true rfl⟩ ⟨Nat.zero_le _, Nat.zero_le _⟩ hP hD hS hA [0, 1, 2, 3, 4, 5, 6, 7, 8, 9, 10, 11, 12, 13, 14, 15, 16, 17, 18, 19, 20, 21, 22] [] [0, 1, 2, 3, 4, 5, 6, 7, 8, 9, 10, 11, 12, 13, 14, 15, 16, 17, 18, 19, 20, 21, 22] rfl rfl rfl rfl rfl (by decide) rfl rfl rfl rfl rfl rfl hl.1 rfl rfl (Nat.le_of_ble_eq_true rfl) dX10_off_1 rfl (fun H locs hP hD hS => ?_)
  refine lv_aload_n hx hb dX10_off_4 rfl (lv_at hl 0 rfl) ?_
  refine va_get (ci := 10) (v := .ref a_names) (C := RX10) (T := TX10) (N := 12) hx hb hts inX10 hown hK hP 0 rfl rfl 1 (by decide) (hts _ tw_284) (fun _ h9 => h9) rfl dX10_off_5 ?_
  refine lv_iload_n hx hb dX10_off_8 rfl (lv_at hl 1 rfl) ?_
  obtain ⟨v9, hc9, hf⟩ := cb1_some hf
  refine kcRV (q0 := 8) (ci := 3) (As := [.int x1]) (rest := []) (st1 := [.int v9]) C (c_Na_has l D ct a_names a_names_odds a_names_lengths a_names_letters a_names_alike a_names_oddsTogether f_names_fault_1 f_names_size_1 x1 v9 hc9) ⟨rfl, rfl⟩ yn_yX3_has tw_496 tw_497 tw_495 ⟨Nat.le_of_ble_eq_true rfl, Nat.le_of_ble_eq_true rfl⟩ ⟨Nat.zero_le _, Nat.zero_le _⟩ hP [8] rfl rfl rfl rfl hl.1 rfl rfl (Nat.le_of_ble_eq_true rfl) dX10_off_9 rfl ?_
  refine lv_if_eq (tgt := 26) hx hb dX10_off_12 (by decide) (fun hc => ?_) (fun hc => ?_)
  · have hf := kpos hc hf
    refine lv_bipush (v := (-2)) hx hb dX10_off_26 (by decide) ?_
    obtain ⟨e1, e2, e3, e4, e5, e6, e7, e8, e9, e10, e11, e12, e13, e14, e15, e16, e17, e18, e19, e20, e21, e22, e23⟩ := ti23 hf
    subst e1; subst e2; subst e3; subst e4; subst e5; subst e6; subst e7; subst e8; subst e9; subst e10; subst e11; subst e12; subst e13; subst e14; subst e15; subst e16; subst e17; subst e18; subst e19; subst e20; subst e21; subst e22; subst e23
    exact kretM C hP hD hS dX10_off_28
  · have hf := kneg hc hf
    refine lv_aload_n hx hb dX10_off_15 rfl (lv_at hl 0 rfl) ?_
    refine va_get (ci := 10) (v := .ref a_names) (C := RX10) (T := TX10) (N := 12) hx hb hts inX10 hown hK hP 0 rfl rfl 1 (by decide) (hts _ tw_284) (fun _ h9 => h9) rfl dX10_off_16 ?_
    refine lv_iload_n hx hb dX10_off_19 rfl (lv_at hl 1 rfl) ?_
    obtain ⟨v20, hc20, hf⟩ := cb1_some hf
    refine kcRV (q0 := 8) (ci := 3) (As := [.int x1]) (rest := []) (st1 := [.int v20]) C (c_Na_oneLetterFrom l D ct a_names a_names_odds a_names_lengths a_names_letters a_names_alike a_names_oddsTogether f_names_fault_1 F f_names_size_1 f_names_lengths_1 f_names_letters_1 f_names_alike_1 x1 v20 hc20) ⟨rfl, rfl⟩ yn_yX3_oneLetterFrom tw_618 tw_619 tw_617 ⟨Nat.le_of_ble_eq_true rfl, Nat.le_of_ble_eq_true rfl⟩ ⟨Nat.zero_le _, Nat.zero_le _⟩ hP [8, 10, 11, 12] rfl rfl rfl rfl hl.1 rfl rfl (Nat.le_of_ble_eq_true rfl) dX10_off_20 rfl ?_
    refine lv_goto (tgt := 28) hx hb dX10_off_23 (by decide) ?_
    obtain ⟨e1, e2, e3, e4, e5, e6, e7, e8, e9, e10, e11, e12, e13, e14, e15, e16, e17, e18, e19, e20, e21, e22, e23⟩ := ti23 hf
    subst e1; subst e2; subst e3; subst e4; subst e5; subst e6; subst e7; subst e8; subst e9; subst e10; subst e11; subst e12; subst e13; subst e14; subst e15; subst e16; subst e17; subst e18; subst e19; subst e20; subst e21; subst e22; subst e23
    exact kretM C hP hD hS dX10_off_28
def RM_De_turns : Room := { frames := 0, cells := 0, slots := 0, locals := 0 }
set_option maxHeartbeats 4000000 in
set_option maxRecDepth 100000 in
theorem c_De_turns (l : Launch) (D : va_G) (ct : Nat → ClassId) (a_this a_terms : Nat) (f_terms : Nat → Int32) (r : Int32) (hf : De_turns f_terms = some r) : Met l yX0_turns (WS yX0_turns cX0_turns 1 (some .int)) RM_De_turns (va_Pc [.ref a_this] (PR D ct (w_De_turns ct a_this a_terms f_terms))) (QR (some (.int r))) 0 0 (fun _ => False) := by
  refine kMetR yn_yX0_turns rfl (Nat.le_of_ble_eq_true rfl) ?_
  intro p e s m args below meth c C hP ls hl
  have hl : lv_has ls 1 [(0, .ref a_this)] := hl
  obtain ⟨hx, hb, hr, hml, hown, hts, hlk, hK, hN⟩ := id C
  unfold De_turns at hf
  refine lv_aload_n hx hb dX0_turns_0 rfl (lv_at hl 0 rfl) ?_
  refine va_get (ci := 0) (v := .ref a_terms) (C := RX0) (T := TX0) (N := 1) hx hb hts inX0 hown hK hP 0 rfl rfl 0 (by decide) (hts _ tw_211) (fun _ h9 => h9) rfl dX0_turns_1 ?_
  refine lv_iconst (v := 2) hx hb dX0_turns_4 (by decide) ?_
  obtain ⟨hin, hf⟩ := rd_some hf
  generalize ev5 : f_terms (Int32.toNatClampNeg 2) = v5 at hf
  refine kiald hx hb hK hP 1 0 rfl rfl hin ev5 dX0_turns_5 ?_
  refine lv_aload_n hx hb dX0_turns_6 rfl (lv_at hl 0 rfl) ?_
  refine va_get (ci := 0) (v := .ref a_terms) (C := RX0) (T := TX0) (N := 1) hx hb hts inX0 hown hK hP 0 rfl rfl 0 (by decide) (hts _ tw_211) (fun _ h9 => h9) rfl dX0_turns_7 ?_
  refine lv_iconst (v := 4) hx hb dX0_turns_10 (by decide) ?_
  obtain ⟨hin, hf⟩ := rd_some hf
  generalize ev11 : f_terms (Int32.toNatClampNeg 4) = v11 at hf
  refine kiald hx hb hK hP 1 0 rfl rfl hin ev11 dX0_turns_11 ?_
  refine lv_imul hx hb dX0_turns_12 ?_
  have e1 := Option.some.inj hf
  subst e1
  exact kretR C dX0_turns_13
def RM_Gu_firstTurnOf : Room := { frames := 1, cells := 0, slots := 0, locals := 21 }
set_option maxHeartbeats 4000000 in
set_option maxRecDepth 100000 in
theorem t_Gu_firstTurnOf_b12 {p : Program} {l : Launch} {e : Env} {s : State} {m : MethodId} {args : Array Value} {below : List Frame} {meth : Method} {c : Code} {D : va_G} {ct : Nat → ClassId} (C : CX p s m args meth c RX2 cX2_firstTurnOf 5 (some .int) D ct) (a_this a_list : Nat) (F : Nat) (f_size : Int32) (f_list : Nat → Int32) (x1 : Int32) (x2 : Int32) (r : Int32) (rec12 : Int32 → Int32 → Option Int32) (hr12 : ∀ (x3 : Int32) (x4 : Int32), rec12 x3 x4 = some r → va_P D vwCl (w_Gu_firstTurnOf ct a_this a_list f_size f_list) s.heap → ∀ ls : Array Slot, lv_has ls 5 [(0, .ref a_this), (1, .int x1), (3, .int x3), (4, .int x4)] → W p l e RM_Gu_firstTurnOf s m args below meth c s.heap [] 0 0 (MQ below (QR (some (.int r))) args s 0 0 (fun _ => False)) (F0 m 12 ls [])) : ∀ (x3 : Int32) (x4 : Int32), Gu_firstTurnOf_b12 F f_size f_list x1 x2 rec12 x3 x4 = some r → va_P D vwCl (w_Gu_firstTurnOf ct a_this a_list f_size f_list) s.heap → ∀ ls : Array Slot, lv_has ls 5 [(0, .ref a_this), (1, .int x1), (3, .int x3), (4, .int x4)] → W p l e RM_Gu_firstTurnOf s m args below meth c s.heap [] 0 0 (MQ below (QR (some (.int r))) args s 0 0 (fun _ => False)) (F0 m 12 ls []) := by
  obtain ⟨hx, hb, hr, hml, hown, hts, hlk, hK, hN⟩ := id C
  intro x3 x4 hf hP ls hl
  unfold Gu_firstTurnOf_b12 at hf
  refine lv_iload hx hb dX2_firstTurnOf_12 (lv_at hl 3 rfl) ?_
  refine lv_iload_n hx hb dX2_firstTurnOf_14 rfl (lv_at hl 2 rfl) ?_
  refine lv_icmp_ge (tgt := 38) hx hb dX2_firstTurnOf_15 (by decide) (fun hc => ?_) (fun hc => ?_)
  · have hf := kpos hc hf
    refine lv_iconst (v := (-1)) hx hb dX2_firstTurnOf_38 (by decide) ?_
    have e1 := Option.some.inj hf
    subst e1
    exact kretR C dX2_firstTurnOf_39
  · have hf := kneg hc hf
    refine lv_aload_n hx hb dX2_firstTurnOf_18 rfl (lv_at hl 0 rfl) ?_
    refine va_get (ci := 2) (v := .ref a_list) (C := RX2) (T := TX2) (N := 2) hx hb hts inX2 hown hK hP 0 rfl rfl 0 (by decide) (hts _ tw_221) (fun _ h9 => h9) rfl dX2_firstTurnOf_19 ?_
    refine lv_iload hx hb dX2_firstTurnOf_22 (lv_at hl 3 rfl) ?_
    obtain ⟨hin, hf⟩ := rd_some hf
    generalize ev24 : f_list (Int32.toNatClampNeg x4) = v24 at hf
    refine kiald hx hb hK hP 1 0 rfl rfl hin ev24 dX2_firstTurnOf_24 ?_
    refine lv_iload_n hx hb dX2_firstTurnOf_25 rfl (lv_at hl 1 rfl) ?_
    refine lv_icmp_ne (tgt := 32) hx hb dX2_firstTurnOf_26 (by decide) (fun hc => ?_) (fun hc => ?_)
    · have hf := kneg hc hf
      refine lv_iinc (v := x4 + 1) (lv' := [(4, .int (x4 + 1)), (0, .ref a_this), (1, .int x1), (3, .int x3)]) hx hb dX2_firstTurnOf_32 hl (k := 3) rfl rfl (by decide) rfl (fun ls hl => ?_)
      refine lv_goto (tgt := 12) hx hb dX2_firstTurnOf_35 (by decide) ?_
      exact hr12 x3 (x4 + 1) hf hP _ (lv_sub hl [1, 2, 3, 0] rfl)
    · have hf := kpos hc hf
      refine lv_iload hx hb dX2_firstTurnOf_29 (lv_at hl 3 rfl) ?_
      have e1 := Option.some.inj hf
      subst e1
      exact kretR C dX2_firstTurnOf_31
set_option maxHeartbeats 4000000 in
set_option maxRecDepth 100000 in
theorem t_Gu_firstTurnOf_l12 {p : Program} {l : Launch} {e : Env} {s : State} {m : MethodId} {args : Array Value} {below : List Frame} {meth : Method} {c : Code} {D : va_G} {ct : Nat → ClassId} (C : CX p s m args meth c RX2 cX2_firstTurnOf 5 (some .int) D ct) (a_this a_list : Nat) (F : Nat) (f_size : Int32) (f_list : Nat → Int32) (x1 : Int32) (x2 : Int32) (r : Int32) : ∀ (n : Nat) (x3 : Int32) (x4 : Int32), Gu_firstTurnOf_l12 F f_size f_list x1 x2 n x3 x4 = some r → va_P D vwCl (w_Gu_firstTurnOf ct a_this a_list f_size f_list) s.heap → ∀ ls : Array Slot, lv_has ls 5 [(0, .ref a_this), (1, .int x1), (3, .int x3), (4, .int x4)] → W p l e RM_Gu_firstTurnOf s m args below meth c s.heap [] 0 0 (MQ below (QR (some (.int r))) args s 0 0 (fun _ => False)) (F0 m 12 ls []) := by
  intro n
  induction n with
  | zero =>
    intro x3 x4 hf
    exact absurd hf (by simp [Gu_firstTurnOf_l12])
  | succ n ih =>
    intro x3 x4 hf
    exact t_Gu_firstTurnOf_b12 C a_this a_list F f_size f_list x1 x2 r (Gu_firstTurnOf_l12 F f_size f_list x1 x2 n) ih x3 x4 hf
set_option maxHeartbeats 4000000 in
set_option maxRecDepth 100000 in
theorem c_Gu_firstTurnOf (l : Launch) (D : va_G) (ct : Nat → ClassId) (a_this a_list : Nat) (F : Nat) (f_size : Int32) (f_list : Nat → Int32) (x1 : Int32) (x2 : Int32) (r : Int32) (hf : Gu_firstTurnOf F f_size f_list x1 x2 = some r) : Met l yX2_firstTurnOf (WS yX2_firstTurnOf cX2_firstTurnOf 5 (some .int)) RM_Gu_firstTurnOf (va_Pc [.ref a_this, .int x1, .int x2] (PR D ct (w_Gu_firstTurnOf ct a_this a_list f_size f_list))) (QR (some (.int r))) 0 0 (fun _ => False) := by
  refine kMetR yn_yX2_firstTurnOf rfl (Nat.le_of_ble_eq_true rfl) ?_
  intro p e s m args below meth c C hP ls hl
  have hl : lv_has ls 5 [(0, .ref a_this), (1, .int x1), (2, .int x2)] := hl
  obtain ⟨hx, hb, hr, hml, hown, hts, hlk, hK, hN⟩ := id C
  unfold Gu_firstTurnOf at hf
  refine lv_aload_n hx hb dX2_firstTurnOf_0 rfl (lv_at hl 0 rfl) ?_
  refine va_get (ci := 2) (v := .int f_size) (C := RX2) (T := TX2) (N := 2) hx hb hts inX2 hown hK hP 0 rfl rfl 1 (by decide) (hts _ tw_222) (fun _ h9 => h9) rfl dX2_firstTurnOf_1 ?_
  refine lv_iload_n hx hb dX2_firstTurnOf_4 rfl (lv_at hl 2 rfl) ?_
  refine kmmin hx hb (hml.trans hl.1.symm) hown (hts _ tw_646) (hts _ tw_431) (hts _ tw_73) (hts _ tw_432) (Nat.le_of_ble_eq_true rfl) (Nat.le_of_ble_eq_true rfl) (Nat.zero_le _) (Nat.zero_le _) dX2_firstTurnOf_5 ?_
  refine lv_istore_n (lv' := [(3, .int (mnI f_size x2)), (0, .ref a_this), (1, .int x1), (2, .int x2)]) hx hb dX2_firstTurnOf_8 rfl hl (by decide) rfl (fun ls hl => ?_)
  refine lv_iconst (v := 0) hx hb dX2_firstTurnOf_9 (by decide) ?_
  refine lv_istore (lv' := [(4, .int 0), (3, .int (mnI f_size x2)), (0, .ref a_this), (1, .int x1), (2, .int x2)]) hx hb dX2_firstTurnOf_10 hl (by decide) rfl (fun ls hl => ?_)
  exact t_Gu_firstTurnOf_l12 C a_this a_list F f_size f_list x1 x2 r F (mnI f_size x2) 0 hf hP _ (lv_sub hl [2, 3, 1, 0] rfl)
def RM_De_nightOf : Room := { frames := 0, cells := 0, slots := 0, locals := 0 }
set_option maxHeartbeats 4000000 in
set_option maxRecDepth 100000 in
theorem c_De_nightOf (l : Launch) (D : va_G) (ct : Nat → ClassId) (a_this a_terms : Nat) (f_terms : Nat → Int32) (x1 : Int32) (r : Int32) (hf : De_nightOf f_terms x1 = some r) : Met l yX0_nightOf (WS yX0_nightOf cX0_nightOf 2 (some .int)) RM_De_nightOf (va_Pc [.ref a_this, .int x1] (PR D ct (w_De_nightOf ct a_this a_terms f_terms))) (QR (some (.int r))) 0 0 (fun _ => False) := by
  refine kMetR yn_yX0_nightOf rfl (Nat.le_of_ble_eq_true rfl) ?_
  intro p e s m args below meth c C hP ls hl
  have hl : lv_has ls 2 [(0, .ref a_this), (1, .int x1)] := hl
  obtain ⟨hx, hb, hr, hml, hown, hts, hlk, hK, hN⟩ := id C
  unfold De_nightOf at hf
  refine lv_aload_n hx hb dX0_nightOf_0 rfl (lv_at hl 0 rfl) ?_
  refine va_get (ci := 0) (v := .ref a_terms) (C := RX0) (T := TX0) (N := 1) hx hb hts inX0 hown hK hP 0 rfl rfl 0 (by decide) (hts _ tw_211) (fun _ h9 => h9) rfl dX0_nightOf_1 ?_
  refine lv_iconst (v := 4) hx hb dX0_nightOf_4 (by decide) ?_
  obtain ⟨hin, hf⟩ := rd_some hf
  generalize ev5 : f_terms (Int32.toNatClampNeg 4) = v5 at hf
  refine kiald hx hb hK hP 1 0 rfl rfl hin ev5 dX0_nightOf_5 ?_
  refine lv_iconst (v := 1) hx hb dX0_nightOf_6 (by decide) ?_
  refine lv_icmp_ge (tgt := 14) hx hb dX0_nightOf_7 (by decide) (fun hc => ?_) (fun hc => ?_)
  · have hf := kpos hc hf
    refine lv_iload_n hx hb dX0_nightOf_14 rfl (lv_at hl 1 rfl) ?_
    refine lv_aload_n hx hb dX0_nightOf_15 rfl (lv_at hl 0 rfl) ?_
    refine va_get (ci := 0) (v := .ref a_terms) (C := RX0) (T := TX0) (N := 1) hx hb hts inX0 hown hK hP 0 rfl rfl 0 (by decide) (hts _ tw_211) (fun _ h9 => h9) rfl dX0_nightOf_16 ?_
    refine lv_iconst (v := 4) hx hb dX0_nightOf_19 (by decide) ?_
    obtain ⟨hin, hf⟩ := rd_some hf
    generalize ev20 : f_terms (Int32.toNatClampNeg 4) = v20 at hf
    refine kiald hx hb hK hP 1 0 rfl rfl hin ev20 dX0_nightOf_20 ?_
    obtain ⟨hne, hf⟩ := gd_some hf
    refine lv_idiv hx hb dX0_nightOf_21 hne ?_
    have e1 := Option.some.inj hf
    subst e1
    exact kretR C dX0_nightOf_22
  · have hf := kneg hc hf
    refine lv_iload_n hx hb dX0_nightOf_10 rfl (lv_at hl 1 rfl) ?_
    refine lv_goto (tgt := 22) hx hb dX0_nightOf_11 (by decide) ?_
    have e1 := Option.some.inj hf
    subst e1
    exact kretR C dX0_nightOf_22
def RM_De_promised : Room := { frames := 0, cells := 0, slots := 0, locals := 0 }
set_option maxHeartbeats 4000000 in
set_option maxRecDepth 100000 in
theorem c_De_promised (l : Launch) (D : va_G) (ct : Nat → ClassId) (a_this a_terms : Nat) (f_terms : Nat → Int32) (x1 : Int32) (r : Int32) (hf : De_promised f_terms x1 = some r) : Met l yX0_promised (WS yX0_promised cX0_promised 2 (some .int)) RM_De_promised (va_Pc [.ref a_this, .int x1] (PR D ct (w_De_promised ct a_this a_terms f_terms))) (QR (some (.int r))) 0 0 (fun _ => False) := by
  refine kMetR yn_yX0_promised rfl (Nat.le_of_ble_eq_true rfl) ?_
  intro p e s m args below meth c C hP ls hl
  have hl : lv_has ls 2 [(0, .ref a_this), (1, .int x1)] := hl
  obtain ⟨hx, hb, hr, hml, hown, hts, hlk, hK, hN⟩ := id C
  unfold De_promised at hf
  refine lv_aload_n hx hb dX0_promised_0 rfl (lv_at hl 0 rfl) ?_
  refine va_get (ci := 0) (v := .ref a_terms) (C := RX0) (T := TX0) (N := 1) hx hb hts inX0 hown hK hP 0 rfl rfl 0 (by decide) (hts _ tw_211) (fun _ h9 => h9) rfl dX0_promised_1 ?_
  refine lv_iconst (v := 0) hx hb dX0_promised_4 (by decide) ?_
  obtain ⟨hin, hf⟩ := rd_some hf
  generalize ev5 : f_terms (Int32.toNatClampNeg 0) = v5 at hf
  refine kiald hx hb hK hP 1 0 rfl rfl hin ev5 dX0_promised_5 ?_
  refine lv_iload_n hx hb dX0_promised_6 rfl (lv_at hl 1 rfl) ?_
  refine lv_ishl hx hb dX0_promised_7 ?_
  have e1 := Option.some.inj hf
  subst e1
  exact kretR C dX0_promised_8
def RM_De_paidUnnamed : Room := { frames := 1, cells := 0, slots := 0, locals := 21 }
set_option maxHeartbeats 4000000 in
set_option maxRecDepth 100000 in
theorem c_De_paidUnnamed (l : Launch) (D : va_G) (ct : Nat → ClassId) (a_this a_terms : Nat) (f_terms : Nat → Int32) (r : Int32) (hf : De_paidUnnamed f_terms = some r) : Met l yX0_paidUnnamed (WS yX0_paidUnnamed cX0_paidUnnamed 1 (some .int)) RM_De_paidUnnamed (va_Pc [.ref a_this] (PR D ct (w_De_paidUnnamed ct a_this a_terms f_terms))) (QR (some (.int r))) 0 0 (fun _ => False) := by
  refine kMetR yn_yX0_paidUnnamed rfl (Nat.le_of_ble_eq_true rfl) ?_
  intro p e s m args below meth c C hP ls hl
  have hl : lv_has ls 1 [(0, .ref a_this)] := hl
  obtain ⟨hx, hb, hr, hml, hown, hts, hlk, hK, hN⟩ := id C
  unfold De_paidUnnamed at hf
  refine lv_aload_n hx hb dX0_paidUnnamed_0 rfl (lv_at hl 0 rfl) ?_
  refine lv_aload_n hx hb dX0_paidUnnamed_1 rfl (lv_at hl 0 rfl) ?_
  refine va_get (ci := 0) (v := .ref a_terms) (C := RX0) (T := TX0) (N := 1) hx hb hts inX0 hown hK hP 0 rfl rfl 0 (by decide) (hts _ tw_211) (fun _ h9 => h9) rfl dX0_paidUnnamed_2 ?_
  refine lv_iconst (v := 2) hx hb dX0_paidUnnamed_5 (by decide) ?_
  obtain ⟨hin, hf⟩ := rd_some hf
  generalize ev6 : f_terms (Int32.toNatClampNeg 2) = v6 at hf
  refine kiald hx hb hK hP 1 0 rfl rfl hin ev6 dX0_paidUnnamed_6 ?_
  obtain ⟨v7, hc7, hf⟩ := cb1_some hf
  refine kcRV (q0 := 0) (ci := 0) (As := [.int v6]) (rest := []) (st1 := [.int v7]) C (c_De_promised l D ct a_this a_terms f_terms v6 v7 hc7) ⟨rfl, rfl⟩ yn_yX0_promised tw_657 tw_658 tw_656 ⟨Nat.le_of_ble_eq_true rfl, Nat.le_of_ble_eq_true rfl⟩ ⟨Nat.zero_le _, Nat.zero_le _⟩ hP [0, 1] rfl rfl rfl rfl hl.1 rfl rfl (Nat.le_of_ble_eq_true rfl) dX0_paidUnnamed_7 rfl ?_
  refine lv_aload_n hx hb dX0_paidUnnamed_10 rfl (lv_at hl 0 rfl) ?_
  refine va_get (ci := 0) (v := .ref a_terms) (C := RX0) (T := TX0) (N := 1) hx hb hts inX0 hown hK hP 0 rfl rfl 0 (by decide) (hts _ tw_211) (fun _ h9 => h9) rfl dX0_paidUnnamed_11 ?_
  refine lv_iconst (v := 3) hx hb dX0_paidUnnamed_14 (by decide) ?_
  obtain ⟨hin, hf⟩ := rd_some hf
  generalize ev15 : f_terms (Int32.toNatClampNeg 3) = v15 at hf
  refine kiald hx hb hK hP 1 0 rfl rfl hin ev15 dX0_paidUnnamed_15 ?_
  refine lv_iadd hx hb dX0_paidUnnamed_16 ?_
  have e1 := Option.some.inj hf
  subst e1
  exact kretR C dX0_paidUnnamed_17
def RM_De_paidAt : Room := { frames := 2, cells := 0, slots := 0, locals := 41 }
set_option maxHeartbeats 4000000 in
set_option maxRecDepth 100000 in
theorem t_De_paidAt_b31 {p : Program} {l : Launch} {e : Env} {s : State} {m : MethodId} {args : Array Value} {below : List Frame} {meth : Method} {c : Code} {D : va_G} {ct : Nat → ClassId} (C : CX p s m args meth c RX0 cX0_paidAt 3 (some .int) D ct) (a_this a_terms : Nat) (f_terms : Nat → Int32) (x1 : Int32) (x2 : Int32) (r : Int32) : De_paidAt_b31 f_terms x1 x2 = some r → va_P D vwCl (w_De_paidAt ct a_this a_terms f_terms) s.heap → ∀ ls : Array Slot, lv_has ls 3 [(0, .ref a_this), (2, .int x2)] → W p l e RM_De_paidAt s m args below meth c s.heap [] 0 0 (MQ below (QR (some (.int r))) args s 0 0 (fun _ => False)) (F0 m 31 ls []) := by
  obtain ⟨hx, hb, hr, hml, hown, hts, hlk, hK, hN⟩ := id C
  intro hf hP ls hl
  unfold De_paidAt_b31 at hf
  refine lv_aload_n hx hb dX0_paidAt_31 rfl (lv_at hl 0 rfl) ?_
  obtain ⟨v32, hc32, hf⟩ := cb1_some hf
  refine kcRV (q0 := 0) (ci := 0) (As := []) (rest := []) (st1 := [.int v32]) C (c_De_paidUnnamed l D ct a_this a_terms f_terms v32 hc32) ⟨rfl, rfl⟩ yn_yX0_paidUnnamed tw_661 tw_662 tw_660 ⟨Nat.le_of_ble_eq_true rfl, Nat.le_of_ble_eq_true rfl⟩ ⟨Nat.zero_le _, Nat.zero_le _⟩ hP [0, 1] rfl rfl rfl rfl hl.1 rfl rfl (Nat.le_of_ble_eq_true rfl) dX0_paidAt_32 rfl ?_
  refine lv_aload_n hx hb dX0_paidAt_35 rfl (lv_at hl 0 rfl) ?_
  refine va_get (ci := 0) (v := .ref a_terms) (C := RX0) (T := TX0) (N := 1) hx hb hts inX0 hown hK hP 0 rfl rfl 0 (by decide) (hts _ tw_211) (fun _ h9 => h9) rfl dX0_paidAt_36 ?_
  refine lv_iconst (v := 1) hx hb dX0_paidAt_39 (by decide) ?_
  obtain ⟨hin, hf⟩ := rd_some hf
  generalize ev40 : f_terms (Int32.toNatClampNeg 1) = v40 at hf
  refine kiald hx hb hK hP 1 0 rfl rfl hin ev40 dX0_paidAt_40 ?_
  refine lv_iload_n hx hb dX0_paidAt_41 rfl (lv_at hl 1 rfl) ?_
  refine lv_aload_n hx hb dX0_paidAt_42 rfl (lv_at hl 0 rfl) ?_
  obtain ⟨v43, hc43, hf⟩ := cb1_some hf
  refine kcRV (q0 := 0) (ci := 0) (As := []) (rest := [.int x2, .int v40, .int v32]) (st1 := [.int v43, .int x2, .int v40, .int v32]) C (c_De_turns l D ct a_this a_terms f_terms v43 hc43) ⟨rfl, rfl⟩ yn_yX0_turns tw_639 tw_640 tw_651 ⟨Nat.le_of_ble_eq_true rfl, Nat.le_of_ble_eq_true rfl⟩ ⟨Nat.zero_le _, Nat.zero_le _⟩ hP [0, 1] rfl rfl rfl rfl hl.1 rfl rfl (Nat.le_of_ble_eq_true rfl) dX0_paidAt_43 rfl ?_
  refine kmmin hx hb (hml.trans hl.1.symm) hown (hts _ tw_664) (hts _ tw_431) (hts _ tw_73) (hts _ tw_432) (Nat.le_of_ble_eq_true rfl) (Nat.le_of_ble_eq_true rfl) (Nat.zero_le _) (Nat.zero_le _) dX0_paidAt_46 ?_
  refine lv_imul hx hb dX0_paidAt_49 ?_
  refine lv_iadd hx hb dX0_paidAt_50 ?_
  have e1 := Option.some.inj hf
  subst e1
  exact kretR C dX0_paidAt_51
set_option maxHeartbeats 4000000 in
set_option maxRecDepth 100000 in
theorem c_De_paidAt (l : Launch) (D : va_G) (ct : Nat → ClassId) (a_this a_terms : Nat) (f_terms : Nat → Int32) (x1 : Int32) (x2 : Int32) (r : Int32) (hf : De_paidAt f_terms x1 x2 = some r) : Met l yX0_paidAt (WS yX0_paidAt cX0_paidAt 3 (some .int)) RM_De_paidAt (va_Pc [.ref a_this, .int x1, .int x2] (PR D ct (w_De_paidAt ct a_this a_terms f_terms))) (QR (some (.int r))) 0 0 (fun _ => False) := by
  refine kMetR yn_yX0_paidAt rfl (Nat.le_of_ble_eq_true rfl) ?_
  intro p e s m args below meth c C hP ls hl
  have hl : lv_has ls 3 [(0, .ref a_this), (1, .int x1), (2, .int x2)] := hl
  obtain ⟨hx, hb, hr, hml, hown, hts, hlk, hK, hN⟩ := id C
  unfold De_paidAt at hf
  refine lv_iload_n hx hb dX0_paidAt_0 rfl (lv_at hl 1 rfl) ?_
  refine lv_if_lt (tgt := 31) hx hb dX0_paidAt_1 (by decide) (fun hc => ?_) (fun hc => ?_)
  · have hf := kpos hc hf
    exact t_De_paidAt_b31 C a_this a_terms f_terms x1 x2 r hf hP _ (lv_sub hl [0, 2] rfl)
  · have hf := kneg hc hf
    refine lv_iload_n hx hb dX0_paidAt_4 rfl (lv_at hl 1 rfl) ?_
    refine lv_aload_n hx hb dX0_paidAt_5 rfl (lv_at hl 0 rfl) ?_
    obtain ⟨v6, hc6, hf⟩ := cb1_some hf
    refine kcRV (q0 := 0) (ci := 0) (As := []) (rest := [.int x1]) (st1 := [.int v6, .int x1]) C (c_De_turns l D ct a_this a_terms f_terms v6 hc6) ⟨rfl, rfl⟩ yn_yX0_turns tw_639 tw_640 tw_651 ⟨Nat.le_of_ble_eq_true rfl, Nat.le_of_ble_eq_true rfl⟩ ⟨Nat.zero_le _, Nat.zero_le _⟩ hP [0, 1] rfl rfl rfl rfl hl.1 rfl rfl (Nat.le_of_ble_eq_true rfl) dX0_paidAt_6 rfl ?_
    refine lv_icmp_ge (tgt := 31) hx hb dX0_paidAt_9 (by decide) (fun hc => ?_) (fun hc => ?_)
    · have hf := kpos hc hf
      exact t_De_paidAt_b31 C a_this a_terms f_terms x1 x2 r hf hP _ (lv_sub hl [0, 2] rfl)
    · have hf := kneg hc hf
      refine lv_aload_n hx hb dX0_paidAt_12 rfl (lv_at hl 0 rfl) ?_
      refine lv_aload_n hx hb dX0_paidAt_13 rfl (lv_at hl 0 rfl) ?_
      refine lv_iload_n hx hb dX0_paidAt_14 rfl (lv_at hl 1 rfl) ?_
      obtain ⟨v15, hc15, hf⟩ := cb1_some hf
      refine kcRV (q0 := 0) (ci := 0) (As := [.int x1]) (rest := [.ref a_this]) (st1 := [.int v15, .ref a_this]) C (c_De_nightOf l D ct a_this a_terms f_terms x1 v15 hc15) ⟨rfl, rfl⟩ yn_yX0_nightOf tw_653 tw_654 tw_652 ⟨Nat.le_of_ble_eq_true rfl, Nat.le_of_ble_eq_true rfl⟩ ⟨Nat.zero_le _, Nat.zero_le _⟩ hP [0, 1] rfl rfl rfl rfl hl.1 rfl rfl (Nat.le_of_ble_eq_true rfl) dX0_paidAt_15 rfl ?_
      obtain ⟨v18, hc18, hf⟩ := cb1_some hf
      refine kcRV (q0 := 0) (ci := 0) (As := [.int v15]) (rest := []) (st1 := [.int v18]) C (c_De_promised l D ct a_this a_terms f_terms v15 v18 hc18) ⟨rfl, rfl⟩ yn_yX0_promised tw_657 tw_658 tw_656 ⟨Nat.le_of_ble_eq_true rfl, Nat.le_of_ble_eq_true rfl⟩ ⟨Nat.zero_le _, Nat.zero_le _⟩ hP [0, 1] rfl rfl rfl rfl hl.1 rfl rfl (Nat.le_of_ble_eq_true rfl) dX0_paidAt_18 rfl ?_
      refine lv_aload_n hx hb dX0_paidAt_21 rfl (lv_at hl 0 rfl) ?_
      refine va_get (ci := 0) (v := .ref a_terms) (C := RX0) (T := TX0) (N := 1) hx hb hts inX0 hown hK hP 0 rfl rfl 0 (by decide) (hts _ tw_211) (fun _ h9 => h9) rfl dX0_paidAt_22 ?_
      refine lv_iconst (v := 1) hx hb dX0_paidAt_25 (by decide) ?_
      obtain ⟨hin, hf⟩ := rd_some hf
      generalize ev26 : f_terms (Int32.toNatClampNeg 1) = v26 at hf
      refine kiald hx hb hK hP 1 0 rfl rfl hin ev26 dX0_paidAt_26 ?_
      refine lv_iload_n hx hb dX0_paidAt_27 rfl (lv_at hl 1 rfl) ?_
      refine lv_imul hx hb dX0_paidAt_28 ?_
      refine lv_iadd hx hb dX0_paidAt_29 ?_
      have e1 := Option.some.inj hf
      subst e1
      exact kretR C dX0_paidAt_30
def RM_ND_named : Room := { frames := 5, cells := 0, slots := 0, locals := 117 }
set_option maxHeartbeats 4000000 in
set_option maxRecDepth 100000 in
theorem c_ND_named (l : Launch) (D : va_G) (ct : Nat → ClassId) (a_this a_texts a_names a_pieces a_song a_fitting a_deal a_guesses a_wise a_spy a_sheets a_texts0 a_texts1 a_texts2 a_texts0_bytes a_texts1_bytes a_texts2_bytes a_names_odds a_names_lengths a_names_letters a_names_alike a_names_oddsTogether a_pieces_inside a_pieces_lengths a_pieces_letters a_song_letters a_fitting_pieceFits a_fitting_inOrder a_deal_terms a_guesses_list : Nat) (f_finding : Int32) (F : Nat) (f_texts0_size : Int32) (f_texts0_bytes : Nat → Int32) (f_texts1_size : Int32) (f_texts1_bytes : Nat → Int32) (f_texts2_size : Int32) (f_texts2_bytes : Nat → Int32) (f_deal_terms : Nat → Int32) (f_guesses_size : Int32) (f_guesses_list : Nat → Int32) (f_stale : Int32) (f_names_size : Int32) (f_names_fault : Int32) (f_names_odds : Nat → Int32) (f_names_lengths : Nat → Int32) (f_names_letters : Nat → Int32) (f_names_alike : Nat → Int32) (f_names_oddsTogether : Nat → Int32) (f_pieces_size : Int32) (f_pieces_fault : Int32) (f_pieces_inside : Nat → Int32) (f_pieces_lengths : Nat → Int32) (f_pieces_letters : Nat → Int32) (f_song_size : Int32) (f_song_fault : Int32) (f_song_letters : Nat → Int32) (f_fitting_pieceCount : Int32) (f_fitting_songFits : Int32) (f_fitting_allFit : Int32) (f_fitting_ordered : Int32) (f_fitting_pieceFits : Nat → Int32) (f_fitting_inOrder : Nat → Int32) (x1 : Int32) (x2 : Int32) (r : Int32) (r_stale : Int32) (r_names_size : Int32) (r_names_fault : Int32) (r_names_odds : Nat → Int32) (r_names_lengths : Nat → Int32) (r_names_letters : Nat → Int32) (r_names_alike : Nat → Int32) (r_names_oddsTogether : Nat → Int32) (r_pieces_size : Int32) (r_pieces_fault : Int32) (r_pieces_inside : Nat → Int32) (r_pieces_lengths : Nat → Int32) (r_pieces_letters : Nat → Int32) (r_song_size : Int32) (r_song_fault : Int32) (r_song_letters : Nat → Int32) (r_fitting_pieceCount : Int32) (r_fitting_songFits : Int32) (r_fitting_allFit : Int32) (r_fitting_ordered : Int32) (r_fitting_pieceFits : Nat → Int32) (r_fitting_inOrder : Nat → Int32) (sz : Nat) (hf : ND_named F f_texts0_size f_texts0_bytes f_texts1_size f_texts1_bytes f_texts2_size f_texts2_bytes f_deal_terms f_guesses_size f_guesses_list f_stale f_names_size f_names_fault f_names_odds f_names_lengths f_names_letters f_names_alike f_names_oddsTogether f_pieces_size f_pieces_fault f_pieces_inside f_pieces_lengths f_pieces_letters f_song_size f_song_fault f_song_letters f_fitting_pieceCount f_fitting_songFits f_fitting_allFit f_fitting_ordered f_fitting_pieceFits f_fitting_inOrder x1 x2 = some (r, r_stale, r_names_size, r_names_fault, r_names_odds, r_names_lengths, r_names_letters, r_names_alike, r_names_oddsTogether, r_pieces_size, r_pieces_fault, r_pieces_inside, r_pieces_lengths, r_pieces_letters, r_song_size, r_song_fault, r_song_letters, r_fitting_pieceCount, r_fitting_songFits, r_fitting_allFit, r_fitting_ordered, r_fitting_pieceFits, r_fitting_inOrder)) : Met l yX10_named (WS yX10_named cX10_named 4 (some .int)) RM_ND_named (va_Pc [.ref a_this, .int x1, .int x2] (PM D ct sz (w_ND_named ct a_this a_texts a_names a_pieces a_song a_fitting a_deal a_guesses a_wise a_spy a_sheets a_texts0 a_texts1 a_texts2 a_texts0_bytes a_texts1_bytes a_texts2_bytes a_names_odds a_names_lengths a_names_letters a_names_alike a_names_oddsTogether a_pieces_inside a_pieces_lengths a_pieces_letters a_song_letters a_fitting_pieceFits a_fitting_inOrder a_deal_terms a_guesses_list f_stale f_finding f_texts0_size f_texts0_bytes f_texts1_size f_texts1_bytes f_texts2_size f_texts2_bytes f_names_size f_names_fault f_names_odds f_names_lengths f_names_letters f_names_alike f_names_oddsTogether f_pieces_size f_pieces_fault f_pieces_inside f_pieces_lengths f_pieces_letters f_song_size f_song_fault f_song_letters f_fitting_pieceCount f_fitting_songFits f_fitting_allFit f_fitting_ordered f_fitting_pieceFits f_fitting_inOrder f_deal_terms f_guesses_size f_guesses_list))) (QM D (some (.int r)) (w_ND_named ct a_this a_texts a_names a_pieces a_song a_fitting a_deal a_guesses a_wise a_spy a_sheets a_texts0 a_texts1 a_texts2 a_texts0_bytes a_texts1_bytes a_texts2_bytes a_names_odds a_names_lengths a_names_letters a_names_alike a_names_oddsTogether a_pieces_inside a_pieces_lengths a_pieces_letters a_song_letters a_fitting_pieceFits a_fitting_inOrder a_deal_terms a_guesses_list r_stale f_finding f_texts0_size f_texts0_bytes f_texts1_size f_texts1_bytes f_texts2_size f_texts2_bytes r_names_size r_names_fault r_names_odds r_names_lengths r_names_letters r_names_alike r_names_oddsTogether r_pieces_size r_pieces_fault r_pieces_inside r_pieces_lengths r_pieces_letters r_song_size r_song_fault r_song_letters r_fitting_pieceCount r_fitting_songFits r_fitting_allFit r_fitting_ordered r_fitting_pieceFits r_fitting_inOrder f_deal_terms f_guesses_size f_guesses_list) (va_A (w_ND_named ct a_this a_texts a_names a_pieces a_song a_fitting a_deal a_guesses a_wise a_spy a_sheets a_texts0 a_texts1 a_texts2 a_texts0_bytes a_texts1_bytes a_texts2_bytes a_names_odds a_names_lengths a_names_letters a_names_alike a_names_oddsTogether a_pieces_inside a_pieces_lengths a_pieces_letters a_song_letters a_fitting_pieceFits a_fitting_inOrder a_deal_terms a_guesses_list f_stale f_finding f_texts0_size f_texts0_bytes f_texts1_size f_texts1_bytes f_texts2_size f_texts2_bytes f_names_size f_names_fault f_names_odds f_names_lengths f_names_letters f_names_alike f_names_oddsTogether f_pieces_size f_pieces_fault f_pieces_inside f_pieces_lengths f_pieces_letters f_song_size f_song_fault f_song_letters f_fitting_pieceCount f_fitting_songFits f_fitting_allFit f_fitting_ordered f_fitting_pieceFits f_fitting_inOrder f_deal_terms f_guesses_size f_guesses_list) sz)) 0 0 (va_A (w_ND_named ct a_this a_texts a_names a_pieces a_song a_fitting a_deal a_guesses a_wise a_spy a_sheets a_texts0 a_texts1 a_texts2 a_texts0_bytes a_texts1_bytes a_texts2_bytes a_names_odds a_names_lengths a_names_letters a_names_alike a_names_oddsTogether a_pieces_inside a_pieces_lengths a_pieces_letters a_song_letters a_fitting_pieceFits a_fitting_inOrder a_deal_terms a_guesses_list f_stale f_finding f_texts0_size f_texts0_bytes f_texts1_size f_texts1_bytes f_texts2_size f_texts2_bytes f_names_size f_names_fault f_names_odds f_names_lengths f_names_letters f_names_alike f_names_oddsTogether f_pieces_size f_pieces_fault f_pieces_inside f_pieces_lengths f_pieces_letters f_song_size f_song_fault f_song_letters f_fitting_pieceCount f_fitting_songFits f_fitting_allFit f_fitting_ordered f_fitting_pieceFits f_fitting_inOrder f_deal_terms f_guesses_size f_guesses_list) sz) := by
  refine kMetM yn_yX10_named rfl (Nat.le_of_ble_eq_true rfl) ?_
  intro p e s m args below meth c A C hA hP hD ls hl
  have hl : lv_has ls 4 [(0, .ref a_this), (1, .int x1), (2, .int x2)] := hl
  have hS : va_S A s.heap s.heap [] := va_S.rf
  obtain ⟨hx, hb, hr, hml, hown, hts, hlk, hK, hN⟩ := id C
  unfold ND_named at hf
  refine lv_aload_n hx hb dX10_named_0 rfl (lv_at hl 0 rfl) ?_
  obtain ⟨f_stale_1, f_names_size_1, f_names_fault_1, f_names_odds_1, f_names_lengths_1, f_names_letters_1, f_names_alike_1, f_names_oddsTogether_1, f_pieces_size_1, f_pieces_fault_1, f_pieces_inside_1, f_pieces_lengths_1, f_pieces_letters_1, f_song_size_1, f_song_fault_1, f_song_letters_1, f_fitting_pieceCount_1, f_fitting_songFits_1, f_fitting_allFit_1, f_fitting_ordered_1, f_fitting_pieceFits_1, f_fitting_inOrder_1, hc1, hf⟩ := cb22_some hf
  refine kcMV (q0 := 0) (ci := 10) (As := []) (rest := []) (st1 := []) (wf := (w_ND_named ct a_this a_texts a_names a_pieces a_song a_fitting a_deal a_guesses a_wise a_spy a_sheets a_texts0 a_texts1 a_texts2 a_texts0_bytes a_texts1_bytes a_texts2_bytes a_names_odds a_names_lengths a_names_letters a_names_alike a_names_oddsTogether a_pieces_inside a_pieces_lengths a_pieces_letters a_song_letters a_fitting_pieceFits a_fitting_inOrder a_deal_terms a_guesses_list f_stale_1 f_finding f_texts0_size f_texts0_bytes f_texts1_size f_texts1_bytes f_texts2_size f_texts2_bytes f_names_size_1 f_names_fault_1 f_names_odds_1 f_names_lengths_1 f_names_letters_1 f_names_alike_1 f_names_oddsTogether_1 f_pieces_size_1 f_pieces_fault_1 f_pieces_inside_1 f_pieces_lengths_1 f_pieces_letters_1 f_song_size_1 f_song_fault_1 f_song_letters_1 f_fitting_pieceCount_1 f_fitting_songFits_1 f_fitting_allFit_1 f_fitting_ordered_1 f_fitting_pieceFits_1 f_fitting_inOrder_1 f_deal_terms f_guesses_size f_guesses_list)) C (c_ND_refresh l D ct a_this a_texts a_names a_pieces a_song a_fitting a_deal a_guesses a_wise a_spy a_sheets a_texts0 a_texts1 a_texts2 a_texts0_bytes a_texts1_bytes a_texts2_bytes a_names_odds a_names_lengths a_names_letters a_names_alike a_names_oddsTogether a_pieces_inside a_pieces_lengths a_pieces_letters a_song_letters a_fitting_pieceFits a_fitting_inOrder f_finding F f_texts0_size f_texts0_bytes f_texts1_size f_texts1_bytes f_texts2_size f_texts2_bytes f_stale f_names_size f_names_fault f_names_odds f_names_lengths f_names_letters f_names_alike f_names_oddsTogether f_pieces_size f_pieces_fault f_pieces_inside f_pieces_lengths f_pieces_letters f_song_size f_song_fault f_song_letters f_fitting_pieceCount f_fitting_songFits f_fitting_allFit f_fitting_ordered f_fitting_pieceFits f_fitting_inOrder f_stale_1 f_names_size_1 f_names_fault_1 f_names_odds_1 f_names_lengths_1 f_names_letters_1 f_names_alike_1 f_names_oddsTogether_1 f_pieces_size_1 f_pieces_fault_1 f_pieces_inside_1 f_pieces_lengths_1 f_pieces_letters_1 f_song_size_1 f_song_fault_1 f_song_letters_1 f_fitting_pieceCount_1 f_fitting_songFits_1 f_fitting_allFit_1 f_fitting_ordered_1 f_fitting_pieceFits_1 f_fitting_inOrder_1 _ hc1) ⟨rfl, rfl⟩ yn_yX10_refresh tw_373 tw_1 tw_371 ⟨Nat.le_of_ble_eq_true rfl, Nat.le_of_ble_eq_true rfl⟩ ⟨Nat.zero_le _, Nat.zero_le _⟩ hP hD hS hA [0, 1, 2, 3, 4, 5, 6, 7, 8, 9, 10, 11, 12, 13, 14, 15, 16, 17, 18, 19, 20, 21, 22] [23, 24, 25, 26] [4, 5, 6, 7, 8, 9, 10, 11, 12, 13, 14, 15, 16, 17, 18, 19, 20, 21, 22, 23, 24, 25, 26, 0, 1, 2, 3] rfl rfl rfl rfl rfl (by decide) rfl rfl rfl rfl rfl rfl hl.1 rfl rfl (Nat.le_of_ble_eq_true rfl) dX10_named_1 rfl (fun H locs hP hD hS => ?_)
  refine lv_aload_n hx hb dX10_named_4 rfl (lv_at hl 0 rfl) ?_
  refine va_get (ci := 10) (v := .ref a_names) (C := RX10) (T := TX10) (N := 12) hx hb hts inX10 hown hK hP 0 rfl rfl 1 (by decide) (hts _ tw_284) (fun _ h9 => h9) rfl dX10_named_5 ?_
  refine lv_iload_n hx hb dX10_named_8 rfl (lv_at hl 1 rfl) ?_
  obtain ⟨v9, hc9, hf⟩ := cb1_some hf
  refine kcRV (q0 := 8) (ci := 3) (As := [.int x1]) (rest := []) (st1 := [.int v9]) C (c_Na_has l D ct a_names a_names_odds a_names_lengths a_names_letters a_names_alike a_names_oddsTogether f_names_fault_1 f_names_size_1 x1 v9 hc9) ⟨rfl, rfl⟩ yn_yX3_has tw_496 tw_497 tw_495 ⟨Nat.le_of_ble_eq_true rfl, Nat.le_of_ble_eq_true rfl⟩ ⟨Nat.zero_le _, Nat.zero_le _⟩ hP [8] rfl rfl rfl rfl hl.1 rfl rfl (Nat.le_of_ble_eq_true rfl) dX10_named_9 rfl ?_
  refine lv_if_eq (tgt := 22) hx hb dX10_named_12 (by decide) (fun hc => ?_) (fun hc => ?_)
  · have hf := kpos hc hf
    refine lv_bipush (v := (-2)) hx hb dX10_named_22 (by decide) ?_
    obtain ⟨e1, e2, e3, e4, e5, e6, e7, e8, e9, e10, e11, e12, e13, e14, e15, e16, e17, e18, e19, e20, e21, e22, e23⟩ := ti23 hf
    subst e1; subst e2; subst e3; subst e4; subst e5; subst e6; subst e7; subst e8; subst e9; subst e10; subst e11; subst e12; subst e13; subst e14; subst e15; subst e16; subst e17; subst e18; subst e19; subst e20; subst e21; subst e22; subst e23
    exact kretM C hP hD hS dX10_named_24
  · have hf := kneg hc hf
    refine lv_iload_n hx hb dX10_named_15 rfl (lv_at hl 2 rfl) ?_
    obtain ⟨v16, hc16, hf⟩ := cb1_some hf
    refine kcRS (As := [.int x2]) (rest := []) (st1 := [.int v16]) C (c_ND_isZeroOrOne l D ct x2 v16 hc16) ⟨rfl, rfl⟩ yn_yX10_isZeroOrOne tw_585 tw_584 ⟨Nat.le_of_ble_eq_true rfl, Nat.le_of_ble_eq_true rfl⟩ ⟨Nat.zero_le _, Nat.zero_le _⟩ hP [] rfl hl.1 rfl rfl (Nat.le_of_ble_eq_true rfl) dX10_named_16 rfl ?_
    refine lv_if_ne (tgt := 25) hx hb dX10_named_19 (by decide) (fun hc => ?_) (fun hc => ?_)
    · have hf := kneg hc hf
      refine lv_aload_n hx hb dX10_named_25 rfl (lv_at hl 0 rfl) ?_
      refine va_get (ci := 10) (v := .ref a_guesses) (C := RX10) (T := TX10) (N := 12) hx hb hts inX10 hown hK hP 0 rfl rfl 6 (by decide) (hts _ tw_289) (fun _ h9 => h9) rfl dX10_named_26 ?_
      refine lv_iload_n hx hb dX10_named_29 rfl (lv_at hl 1 rfl) ?_
      refine lv_aload_n hx hb dX10_named_30 rfl (lv_at hl 0 rfl) ?_
      refine va_get (ci := 10) (v := .ref a_deal) (C := RX10) (T := TX10) (N := 12) hx hb hts inX10 hown hK hP 0 rfl rfl 5 (by decide) (hts _ tw_288) (fun _ h9 => h9) rfl dX10_named_31 ?_
      obtain ⟨v34, hc34, hf⟩ := cb1_some hf
      refine kcRV (q0 := 23) (ci := 0) (As := []) (rest := [.int x1, .ref a_guesses]) (st1 := [.int v34, .int x1, .ref a_guesses]) C (c_De_turns l D ct a_deal a_deal_terms f_deal_terms v34 hc34) ⟨rfl, rfl⟩ yn_yX0_turns tw_639 tw_640 tw_638 ⟨Nat.le_of_ble_eq_true rfl, Nat.le_of_ble_eq_true rfl⟩ ⟨Nat.zero_le _, Nat.zero_le _⟩ hP [23, 24] rfl rfl rfl rfl hl.1 rfl rfl (Nat.le_of_ble_eq_true rfl) dX10_named_34 rfl ?_
      obtain ⟨v37, hc37, hf⟩ := cb1_some hf
      refine kcRV (q0 := 25) (ci := 2) (As := [.int x1, .int v34]) (rest := []) (st1 := [.int v37]) C (c_Gu_firstTurnOf l D ct a_guesses a_guesses_list F f_guesses_size f_guesses_list x1 v34 v37 hc37) ⟨rfl, rfl⟩ yn_yX2_firstTurnOf tw_643 tw_644 tw_642 ⟨Nat.le_of_ble_eq_true rfl, Nat.le_of_ble_eq_true rfl⟩ ⟨Nat.zero_le _, Nat.zero_le _⟩ hP [25, 26] rfl rfl rfl rfl hl.1 rfl rfl (Nat.le_of_ble_eq_true rfl) dX10_named_37 rfl ?_
      refine lv_istore_n (lv' := [(3, .int v37), (0, .ref a_this), (1, .int x1), (2, .int x2)]) hx hb dX10_named_40 rfl hl (by decide) rfl (fun ls hl => ?_)
      refine lv_iload_n hx hb dX10_named_41 rfl (lv_at hl 3 rfl) ?_
      refine lv_iconst (v := 1) hx hb dX10_named_42 (by decide) ?_
      refine lv_icmp_ne (tgt := 62) hx hb dX10_named_43 (by decide) (fun hc => ?_) (fun hc => ?_)
      · have hf := kneg hc hf
        refine lv_iload_n hx hb dX10_named_62 rfl (lv_at hl 0 rfl) ?_
        refine lv_iconst (v := (-1)) hx hb dX10_named_63 (by decide) ?_
        refine lv_icmp_ne (tgt := 71) hx hb dX10_named_64 (by decide) (fun hc => ?_) (fun hc => ?_)
        · have hf := kneg hc hf
          refine lv_aload_n hx hb dX10_named_71 rfl (lv_at hl 1 rfl) ?_
          refine va_get (ci := 10) (v := .ref a_deal) (C := RX10) (T := TX10) (N := 12) hx hb hts inX10 hown hK hP 0 rfl rfl 5 (by decide) (hts _ tw_288) (fun _ h9 => h9) rfl dX10_named_72 ?_
          refine lv_iload_n hx hb dX10_named_75 rfl (lv_at hl 0 rfl) ?_
          obtain ⟨v76, hc76, hf⟩ := cb1_some hf
          refine kcRV (q0 := 23) (ci := 0) (As := [.int v37]) (rest := []) (st1 := [.int v76]) C (c_De_nightOf l D ct a_deal a_deal_terms f_deal_terms v37 v76 hc76) ⟨rfl, rfl⟩ yn_yX0_nightOf tw_653 tw_654 tw_665 ⟨Nat.le_of_ble_eq_true rfl, Nat.le_of_ble_eq_true rfl⟩ ⟨Nat.zero_le _, Nat.zero_le _⟩ hP [23, 24] rfl rfl rfl rfl hl.1 rfl rfl (Nat.le_of_ble_eq_true rfl) dX10_named_76 rfl ?_
          obtain ⟨e1, e2, e3, e4, e5, e6, e7, e8, e9, e10, e11, e12, e13, e14, e15, e16, e17, e18, e19, e20, e21, e22, e23⟩ := ti23 hf
          subst e1; subst e2; subst e3; subst e4; subst e5; subst e6; subst e7; subst e8; subst e9; subst e10; subst e11; subst e12; subst e13; subst e14; subst e15; subst e16; subst e17; subst e18; subst e19; subst e20; subst e21; subst e22; subst e23
          exact kretM C hP hD hS dX10_named_79
        · have hf := kpos hc hf
          refine lv_iconst (v := (-1)) hx hb dX10_named_67 (by decide) ?_
          refine lv_goto (tgt := 79) hx hb dX10_named_68 (by decide) ?_
          obtain ⟨e1, e2, e3, e4, e5, e6, e7, e8, e9, e10, e11, e12, e13, e14, e15, e16, e17, e18, e19, e20, e21, e22, e23⟩ := ti23 hf
          subst e1; subst e2; subst e3; subst e4; subst e5; subst e6; subst e7; subst e8; subst e9; subst e10; subst e11; subst e12; subst e13; subst e14; subst e15; subst e16; subst e17; subst e18; subst e19; subst e20; subst e21; subst e22; subst e23
          exact kretM C hP hD hS dX10_named_79
      · have hf := kpos hc hf
        refine lv_aload_n hx hb dX10_named_46 rfl (lv_at hl 1 rfl) ?_
        refine va_get (ci := 10) (v := .ref a_deal) (C := RX10) (T := TX10) (N := 12) hx hb hts inX10 hown hK hP 0 rfl rfl 5 (by decide) (hts _ tw_288) (fun _ h9 => h9) rfl dX10_named_47 ?_
        refine lv_iload_n hx hb dX10_named_50 rfl (lv_at hl 0 rfl) ?_
        refine lv_aload_n hx hb dX10_named_51 rfl (lv_at hl 1 rfl) ?_
        refine va_get (ci := 10) (v := .ref a_guesses) (C := RX10) (T := TX10) (N := 12) hx hb hts inX10 hown hK hP 0 rfl rfl 6 (by decide) (hts _ tw_289) (fun _ h9 => h9) rfl dX10_named_52 ?_
        obtain ⟨v55, hc55, hf⟩ := cb1_some hf
        refine kcRV (q0 := 25) (ci := 2) (As := []) (rest := [.int v37, .ref a_deal]) (st1 := [.int v55, .int v37, .ref a_deal]) C (c_Gu_size l D ct a_guesses a_guesses_list f_guesses_size v55 hc55) ⟨rfl, rfl⟩ yn_yX2_size tw_534 tw_535 tw_533 ⟨Nat.le_of_ble_eq_true rfl, Nat.le_of_ble_eq_true rfl⟩ ⟨Nat.zero_le _, Nat.zero_le _⟩ hP [25] rfl rfl rfl rfl hl.1 rfl rfl (Nat.le_of_ble_eq_true rfl) dX10_named_55 rfl ?_
        obtain ⟨v58, hc58, hf⟩ := cb1_some hf
        refine kcRV (q0 := 23) (ci := 0) (As := [.int v37, .int v55]) (rest := []) (st1 := [.int v58]) C (c_De_paidAt l D ct a_deal a_deal_terms f_deal_terms v37 v55 v58 hc58) ⟨rfl, rfl⟩ yn_yX0_paidAt tw_648 tw_649 tw_647 ⟨Nat.le_of_ble_eq_true rfl, Nat.le_of_ble_eq_true rfl⟩ ⟨Nat.zero_le _, Nat.zero_le _⟩ hP [23, 24] rfl rfl rfl rfl hl.1 rfl rfl (Nat.le_of_ble_eq_true rfl) dX10_named_58 rfl ?_
        obtain ⟨e1, e2, e3, e4, e5, e6, e7, e8, e9, e10, e11, e12, e13, e14, e15, e16, e17, e18, e19, e20, e21, e22, e23⟩ := ti23 hf
        subst e1; subst e2; subst e3; subst e4; subst e5; subst e6; subst e7; subst e8; subst e9; subst e10; subst e11; subst e12; subst e13; subst e14; subst e15; subst e16; subst e17; subst e18; subst e19; subst e20; subst e21; subst e22; subst e23
        exact kretM C hP hD hS dX10_named_61
    · have hf := kpos hc hf
      refine lv_bipush (v := (-2)) hx hb dX10_named_22 (by decide) ?_
      obtain ⟨e1, e2, e3, e4, e5, e6, e7, e8, e9, e10, e11, e12, e13, e14, e15, e16, e17, e18, e19, e20, e21, e22, e23⟩ := ti23 hf
      subst e1; subst e2; subst e3; subst e4; subst e5; subst e6; subst e7; subst e8; subst e9; subst e10; subst e11; subst e12; subst e13; subst e14; subst e15; subst e16; subst e17; subst e18; subst e19; subst e20; subst e21; subst e22; subst e23
      exact kretM C hP hD hS dX10_named_24
def RM_Fi_inRow : Room := { frames := 0, cells := 0, slots := 0, locals := 0 }
set_option maxHeartbeats 4000000 in
set_option maxRecDepth 100000 in
theorem c_Fi_inRow (l : Launch) (D : va_G) (ct : Nat → ClassId) (a_this a_pieceFits a_inOrder : Nat) (f_pieceCount : Int32) (f_songFits : Int32) (f_allFit : Int32) (f_ordered : Int32) (f_inOrder : Nat → Int32) (x1 : Int32) (r : Int32) (hf : Fi_inRow f_ordered f_inOrder x1 = some r) : Met l yX1_inRow (WS yX1_inRow cX1_inRow 2 (some .int)) RM_Fi_inRow (va_Pc [.ref a_this, .int x1] (PR D ct (w_Fi_inRow ct a_this a_pieceFits a_inOrder f_pieceCount f_songFits f_allFit f_ordered f_inOrder))) (QR (some (.int r))) 0 0 (fun _ => False) := by
  refine kMetR yn_yX1_inRow rfl (Nat.le_of_ble_eq_true rfl) ?_
  intro p e s m args below meth c C hP ls hl
  have hl : lv_has ls 2 [(0, .ref a_this), (1, .int x1)] := hl
  obtain ⟨hx, hb, hr, hml, hown, hts, hlk, hK, hN⟩ := id C
  unfold Fi_inRow at hf
  refine lv_iload_n hx hb dX1_inRow_0 rfl (lv_at hl 1 rfl) ?_
  refine lv_if_lt (tgt := 21) hx hb dX1_inRow_1 (by decide) (fun hc => ?_) (fun hc => ?_)
  · have hf := kpos hc hf
    refine lv_iconst (v := (-1)) hx hb dX1_inRow_21 (by decide) ?_
    have e1 := Option.some.inj hf
    subst e1
    exact kretR C dX1_inRow_22
  · have hf := kneg hc hf
    refine lv_iload_n hx hb dX1_inRow_4 rfl (lv_at hl 1 rfl) ?_
    refine lv_aload_n hx hb dX1_inRow_5 rfl (lv_at hl 0 rfl) ?_
    refine va_get (ci := 1) (v := .int f_ordered) (C := RX1) (T := TX1) (N := 6) hx hb hts inX1 hown hK hP 0 rfl rfl 5 (by decide) (hts _ tw_191) (fun _ h9 => h9) rfl dX1_inRow_6 ?_
    refine lv_icmp_ge (tgt := 21) hx hb dX1_inRow_9 (by decide) (fun hc => ?_) (fun hc => ?_)
    · have hf := kpos hc hf
      refine lv_iconst (v := (-1)) hx hb dX1_inRow_21 (by decide) ?_
      have e1 := Option.some.inj hf
      subst e1
      exact kretR C dX1_inRow_22
    · have hf := kneg hc hf
      refine lv_aload_n hx hb dX1_inRow_12 rfl (lv_at hl 0 rfl) ?_
      refine va_get (ci := 1) (v := .ref a_inOrder) (C := RX1) (T := TX1) (N := 6) hx hb hts inX1 hown hK hP 0 rfl rfl 1 (by decide) (hts _ tw_187) (fun _ h9 => h9) rfl dX1_inRow_13 ?_
      refine lv_iload_n hx hb dX1_inRow_16 rfl (lv_at hl 1 rfl) ?_
      obtain ⟨hin, hf⟩ := rd_some hf
      generalize ev17 : f_inOrder (Int32.toNatClampNeg x1) = v17 at hf
      refine kiald hx hb hK hP 1 0 rfl rfl hin ev17 dX1_inRow_17 ?_
      refine lv_goto (tgt := 22) hx hb dX1_inRow_18 (by decide) ?_
      have e1 := Option.some.inj hf
      subst e1
      exact kretR C dX1_inRow_22
def RM_ND_row : Room := { frames := 5, cells := 0, slots := 0, locals := 117 }
set_option maxHeartbeats 4000000 in
set_option maxRecDepth 100000 in
theorem c_ND_row (l : Launch) (D : va_G) (ct : Nat → ClassId) (a_this a_texts a_names a_pieces a_song a_fitting a_deal a_guesses a_wise a_spy a_sheets a_texts0 a_texts1 a_texts2 a_texts0_bytes a_texts1_bytes a_texts2_bytes a_names_odds a_names_lengths a_names_letters a_names_alike a_names_oddsTogether a_pieces_inside a_pieces_lengths a_pieces_letters a_song_letters a_fitting_pieceFits a_fitting_inOrder : Nat) (f_finding : Int32) (F : Nat) (f_texts0_size : Int32) (f_texts0_bytes : Nat → Int32) (f_texts1_size : Int32) (f_texts1_bytes : Nat → Int32) (f_texts2_size : Int32) (f_texts2_bytes : Nat → Int32) (f_stale : Int32) (f_names_size : Int32) (f_names_fault : Int32) (f_names_odds : Nat → Int32) (f_names_lengths : Nat → Int32) (f_names_letters : Nat → Int32) (f_names_alike : Nat → Int32) (f_names_oddsTogether : Nat → Int32) (f_pieces_size : Int32) (f_pieces_fault : Int32) (f_pieces_inside : Nat → Int32) (f_pieces_lengths : Nat → Int32) (f_pieces_letters : Nat → Int32) (f_song_size : Int32) (f_song_fault : Int32) (f_song_letters : Nat → Int32) (f_fitting_pieceCount : Int32) (f_fitting_songFits : Int32) (f_fitting_allFit : Int32) (f_fitting_ordered : Int32) (f_fitting_pieceFits : Nat → Int32) (f_fitting_inOrder : Nat → Int32) (x1 : Int32) (r : Int32) (r_stale : Int32) (r_names_size : Int32) (r_names_fault : Int32) (r_names_odds : Nat → Int32) (r_names_lengths : Nat → Int32) (r_names_letters : Nat → Int32) (r_names_alike : Nat → Int32) (r_names_oddsTogether : Nat → Int32) (r_pieces_size : Int32) (r_pieces_fault : Int32) (r_pieces_inside : Nat → Int32) (r_pieces_lengths : Nat → Int32) (r_pieces_letters : Nat → Int32) (r_song_size : Int32) (r_song_fault : Int32) (r_song_letters : Nat → Int32) (r_fitting_pieceCount : Int32) (r_fitting_songFits : Int32) (r_fitting_allFit : Int32) (r_fitting_ordered : Int32) (r_fitting_pieceFits : Nat → Int32) (r_fitting_inOrder : Nat → Int32) (sz : Nat) (hf : ND_row F f_texts0_size f_texts0_bytes f_texts1_size f_texts1_bytes f_texts2_size f_texts2_bytes f_stale f_names_size f_names_fault f_names_odds f_names_lengths f_names_letters f_names_alike f_names_oddsTogether f_pieces_size f_pieces_fault f_pieces_inside f_pieces_lengths f_pieces_letters f_song_size f_song_fault f_song_letters f_fitting_pieceCount f_fitting_songFits f_fitting_allFit f_fitting_ordered f_fitting_pieceFits f_fitting_inOrder x1 = some (r, r_stale, r_names_size, r_names_fault, r_names_odds, r_names_lengths, r_names_letters, r_names_alike, r_names_oddsTogether, r_pieces_size, r_pieces_fault, r_pieces_inside, r_pieces_lengths, r_pieces_letters, r_song_size, r_song_fault, r_song_letters, r_fitting_pieceCount, r_fitting_songFits, r_fitting_allFit, r_fitting_ordered, r_fitting_pieceFits, r_fitting_inOrder)) : Met l yX10_row (WS yX10_row cX10_row 2 (some .int)) RM_ND_row (va_Pc [.ref a_this, .int x1] (PM D ct sz (w_ND_row ct a_this a_texts a_names a_pieces a_song a_fitting a_deal a_guesses a_wise a_spy a_sheets a_texts0 a_texts1 a_texts2 a_texts0_bytes a_texts1_bytes a_texts2_bytes a_names_odds a_names_lengths a_names_letters a_names_alike a_names_oddsTogether a_pieces_inside a_pieces_lengths a_pieces_letters a_song_letters a_fitting_pieceFits a_fitting_inOrder f_stale f_finding f_texts0_size f_texts0_bytes f_texts1_size f_texts1_bytes f_texts2_size f_texts2_bytes f_names_size f_names_fault f_names_odds f_names_lengths f_names_letters f_names_alike f_names_oddsTogether f_pieces_size f_pieces_fault f_pieces_inside f_pieces_lengths f_pieces_letters f_song_size f_song_fault f_song_letters f_fitting_pieceCount f_fitting_songFits f_fitting_allFit f_fitting_ordered f_fitting_pieceFits f_fitting_inOrder))) (QM D (some (.int r)) (w_ND_row ct a_this a_texts a_names a_pieces a_song a_fitting a_deal a_guesses a_wise a_spy a_sheets a_texts0 a_texts1 a_texts2 a_texts0_bytes a_texts1_bytes a_texts2_bytes a_names_odds a_names_lengths a_names_letters a_names_alike a_names_oddsTogether a_pieces_inside a_pieces_lengths a_pieces_letters a_song_letters a_fitting_pieceFits a_fitting_inOrder r_stale f_finding f_texts0_size f_texts0_bytes f_texts1_size f_texts1_bytes f_texts2_size f_texts2_bytes r_names_size r_names_fault r_names_odds r_names_lengths r_names_letters r_names_alike r_names_oddsTogether r_pieces_size r_pieces_fault r_pieces_inside r_pieces_lengths r_pieces_letters r_song_size r_song_fault r_song_letters r_fitting_pieceCount r_fitting_songFits r_fitting_allFit r_fitting_ordered r_fitting_pieceFits r_fitting_inOrder) (va_A (w_ND_row ct a_this a_texts a_names a_pieces a_song a_fitting a_deal a_guesses a_wise a_spy a_sheets a_texts0 a_texts1 a_texts2 a_texts0_bytes a_texts1_bytes a_texts2_bytes a_names_odds a_names_lengths a_names_letters a_names_alike a_names_oddsTogether a_pieces_inside a_pieces_lengths a_pieces_letters a_song_letters a_fitting_pieceFits a_fitting_inOrder f_stale f_finding f_texts0_size f_texts0_bytes f_texts1_size f_texts1_bytes f_texts2_size f_texts2_bytes f_names_size f_names_fault f_names_odds f_names_lengths f_names_letters f_names_alike f_names_oddsTogether f_pieces_size f_pieces_fault f_pieces_inside f_pieces_lengths f_pieces_letters f_song_size f_song_fault f_song_letters f_fitting_pieceCount f_fitting_songFits f_fitting_allFit f_fitting_ordered f_fitting_pieceFits f_fitting_inOrder) sz)) 0 0 (va_A (w_ND_row ct a_this a_texts a_names a_pieces a_song a_fitting a_deal a_guesses a_wise a_spy a_sheets a_texts0 a_texts1 a_texts2 a_texts0_bytes a_texts1_bytes a_texts2_bytes a_names_odds a_names_lengths a_names_letters a_names_alike a_names_oddsTogether a_pieces_inside a_pieces_lengths a_pieces_letters a_song_letters a_fitting_pieceFits a_fitting_inOrder f_stale f_finding f_texts0_size f_texts0_bytes f_texts1_size f_texts1_bytes f_texts2_size f_texts2_bytes f_names_size f_names_fault f_names_odds f_names_lengths f_names_letters f_names_alike f_names_oddsTogether f_pieces_size f_pieces_fault f_pieces_inside f_pieces_lengths f_pieces_letters f_song_size f_song_fault f_song_letters f_fitting_pieceCount f_fitting_songFits f_fitting_allFit f_fitting_ordered f_fitting_pieceFits f_fitting_inOrder) sz) := by
  refine kMetM yn_yX10_row rfl (Nat.le_of_ble_eq_true rfl) ?_
  intro p e s m args below meth c A C hA hP hD ls hl
  have hl : lv_has ls 2 [(0, .ref a_this), (1, .int x1)] := hl
  have hS : va_S A s.heap s.heap [] := va_S.rf
  obtain ⟨hx, hb, hr, hml, hown, hts, hlk, hK, hN⟩ := id C
  unfold ND_row at hf
  refine lv_iload_n hx hb dX10_row_0 rfl (lv_at hl 1 rfl) ?_
  refine lv_if_lt (tgt := 10) hx hb dX10_row_1 (by decide) (fun hc => ?_) (fun hc => ?_)
  · have hf := kpos hc hf
    refine lv_bipush (v := (-2)) hx hb dX10_row_10 (by decide) ?_
    obtain ⟨e1, e2, e3, e4, e5, e6, e7, e8, e9, e10, e11, e12, e13, e14, e15, e16, e17, e18, e19, e20, e21, e22, e23⟩ := ti23 hf
    subst e1; subst e2; subst e3; subst e4; subst e5; subst e6; subst e7; subst e8; subst e9; subst e10; subst e11; subst e12; subst e13; subst e14; subst e15; subst e16; subst e17; subst e18; subst e19; subst e20; subst e21; subst e22; subst e23
    exact kretM C hP hD hS dX10_row_12
  · have hf := kneg hc hf
    refine lv_iload_n hx hb dX10_row_4 rfl (lv_at hl 1 rfl) ?_
    refine lv_bipush (v := 10) hx hb dX10_row_5 (by decide) ?_
    refine lv_icmp_lt (tgt := 13) hx hb dX10_row_7 (by decide) (fun hc => ?_) (fun hc => ?_)
    · have hf := kpos hc hf
      refine lv_aload_n hx hb dX10_row_13 rfl (lv_at hl 0 rfl) ?_
      obtain ⟨f_stale_14, f_names_size_14, f_names_fault_14, f_names_odds_14, f_names_lengths_14, f_names_letters_14, f_names_alike_14, f_names_oddsTogether_14, f_pieces_size_14, f_pieces_fault_14, f_pieces_inside_14, f_pieces_lengths_14, f_pieces_letters_14, f_song_size_14, f_song_fault_14, f_song_letters_14, f_fitting_pieceCount_14, f_fitting_songFits_14, f_fitting_allFit_14, f_fitting_ordered_14, f_fitting_pieceFits_14, f_fitting_inOrder_14, hc14, hf⟩ := cb22_some hf
      refine kcMV (q0 := 0) (ci := 10) (As := []) (rest := []) (st1 := []) (wf := (w_ND_row ct a_this a_texts a_names a_pieces a_song a_fitting a_deal a_guesses a_wise a_spy a_sheets a_texts0 a_texts1 a_texts2 a_texts0_bytes a_texts1_bytes a_texts2_bytes a_names_odds a_names_lengths a_names_letters a_names_alike a_names_oddsTogether a_pieces_inside a_pieces_lengths a_pieces_letters a_song_letters a_fitting_pieceFits a_fitting_inOrder f_stale_14 f_finding f_texts0_size f_texts0_bytes f_texts1_size f_texts1_bytes f_texts2_size f_texts2_bytes f_names_size_14 f_names_fault_14 f_names_odds_14 f_names_lengths_14 f_names_letters_14 f_names_alike_14 f_names_oddsTogether_14 f_pieces_size_14 f_pieces_fault_14 f_pieces_inside_14 f_pieces_lengths_14 f_pieces_letters_14 f_song_size_14 f_song_fault_14 f_song_letters_14 f_fitting_pieceCount_14 f_fitting_songFits_14 f_fitting_allFit_14 f_fitting_ordered_14 f_fitting_pieceFits_14 f_fitting_inOrder_14)) C (c_ND_refresh l D ct a_this a_texts a_names a_pieces a_song a_fitting a_deal a_guesses a_wise a_spy a_sheets a_texts0 a_texts1 a_texts2 a_texts0_bytes a_texts1_bytes a_texts2_bytes a_names_odds a_names_lengths a_names_letters a_names_alike a_names_oddsTogether a_pieces_inside a_pieces_lengths a_pieces_letters a_song_letters a_fitting_pieceFits a_fitting_inOrder f_finding F f_texts0_size f_texts0_bytes f_texts1_size f_texts1_bytes f_texts2_size f_texts2_bytes f_stale f_names_size f_names_fault f_names_odds f_names_lengths f_names_letters f_names_alike f_names_oddsTogether f_pieces_size f_pieces_fault f_pieces_inside f_pieces_lengths f_pieces_letters f_song_size f_song_fault f_song_letters f_fitting_pieceCount f_fitting_songFits f_fitting_allFit f_fitting_ordered f_fitting_pieceFits f_fitting_inOrder f_stale_14 f_names_size_14 f_names_fault_14 f_names_odds_14 f_names_lengths_14 f_names_letters_14 f_names_alike_14 f_names_oddsTogether_14 f_pieces_size_14 f_pieces_fault_14 f_pieces_inside_14 f_pieces_lengths_14 f_pieces_letters_14 f_song_size_14 f_song_fault_14 f_song_letters_14 f_fitting_pieceCount_14 f_fitting_songFits_14 f_fitting_allFit_14 f_fitting_ordered_14 f_fitting_pieceFits_14 f_fitting_inOrder_14 _ hc14) ⟨rfl, rfl⟩ yn_yX10_refresh tw_373 tw_1 tw_371 ⟨Nat.le_of_ble_eq_true rfl, Nat.le_of_ble_eq_true rfl⟩ ⟨Nat.zero_le _, Nat.zero_le _⟩ hP hD hS hA [0, 1, 2, 3, 4, 5, 6, 7, 8, 9, 10, 11, 12, 13, 14, 15, 16, 17, 18, 19, 20, 21, 22] [] [0, 1, 2, 3, 4, 5, 6, 7, 8, 9, 10, 11, 12, 13, 14, 15, 16, 17, 18, 19, 20, 21, 22] rfl rfl rfl rfl rfl (by decide) rfl rfl rfl rfl rfl rfl hl.1 rfl rfl (Nat.le_of_ble_eq_true rfl) dX10_row_14 rfl (fun H locs hP hD hS => ?_)
      refine lv_aload_n hx hb dX10_row_17 rfl (lv_at hl 0 rfl) ?_
      refine va_get (ci := 10) (v := .ref a_fitting) (C := RX10) (T := TX10) (N := 12) hx hb hts inX10 hown hK hP 0 rfl rfl 4 (by decide) (hts _ tw_287) (fun _ h9 => h9) rfl dX10_row_18 ?_
      refine lv_iload_n hx hb dX10_row_21 rfl (lv_at hl 1 rfl) ?_
      obtain ⟨v22, hc22, hf⟩ := cb1_some hf
      refine kcRV (q0 := 20) (ci := 1) (As := [.int x1]) (rest := []) (st1 := [.int v22]) C (c_Fi_inRow l D ct a_fitting a_fitting_pieceFits a_fitting_inOrder f_fitting_pieceCount_14 f_fitting_songFits_14 f_fitting_allFit_14 f_fitting_ordered_14 f_fitting_inOrder_14 x1 v22 hc22) ⟨rfl, rfl⟩ yn_yX1_inRow tw_671 tw_672 tw_670 ⟨Nat.le_of_ble_eq_true rfl, Nat.le_of_ble_eq_true rfl⟩ ⟨Nat.zero_le _, Nat.zero_le _⟩ hP [20, 22] rfl rfl rfl rfl hl.1 rfl rfl (Nat.le_of_ble_eq_true rfl) dX10_row_22 rfl ?_
      obtain ⟨e1, e2, e3, e4, e5, e6, e7, e8, e9, e10, e11, e12, e13, e14, e15, e16, e17, e18, e19, e20, e21, e22, e23⟩ := ti23 hf
      subst e1; subst e2; subst e3; subst e4; subst e5; subst e6; subst e7; subst e8; subst e9; subst e10; subst e11; subst e12; subst e13; subst e14; subst e15; subst e16; subst e17; subst e18; subst e19; subst e20; subst e21; subst e22; subst e23
      exact kretM C hP hD hS dX10_row_25
    · have hf := kneg hc hf
      refine lv_bipush (v := (-2)) hx hb dX10_row_10 (by decide) ?_
      obtain ⟨e1, e2, e3, e4, e5, e6, e7, e8, e9, e10, e11, e12, e13, e14, e15, e16, e17, e18, e19, e20, e21, e22, e23⟩ := ti23 hf
      subst e1; subst e2; subst e3; subst e4; subst e5; subst e6; subst e7; subst e8; subst e9; subst e10; subst e11; subst e12; subst e13; subst e14; subst e15; subst e16; subst e17; subst e18; subst e19; subst e20; subst e21; subst e22; subst e23
      exact kretM C hP hD hS dX10_row_12
def RM_Fi_rowSize : Room := { frames := 0, cells := 0, slots := 0, locals := 0 }
set_option maxHeartbeats 4000000 in
set_option maxRecDepth 100000 in
theorem c_Fi_rowSize (l : Launch) (D : va_G) (ct : Nat → ClassId) (a_this a_pieceFits a_inOrder : Nat) (f_pieceCount : Int32) (f_songFits : Int32) (f_allFit : Int32) (f_ordered : Int32) (r : Int32) (hf : Fi_rowSize f_ordered = some r) : Met l yX1_rowSize (WS yX1_rowSize cX1_rowSize 1 (some .int)) RM_Fi_rowSize (va_Pc [.ref a_this] (PR D ct (w_Fi_rowSize ct a_this a_pieceFits a_inOrder f_pieceCount f_songFits f_allFit f_ordered))) (QR (some (.int r))) 0 0 (fun _ => False) := by
  refine kMetR yn_yX1_rowSize rfl (Nat.le_of_ble_eq_true rfl) ?_
  intro p e s m args below meth c C hP ls hl
  have hl : lv_has ls 1 [(0, .ref a_this)] := hl
  obtain ⟨hx, hb, hr, hml, hown, hts, hlk, hK, hN⟩ := id C
  unfold Fi_rowSize at hf
  refine lv_aload_n hx hb dX1_rowSize_0 rfl (lv_at hl 0 rfl) ?_
  refine va_get (ci := 1) (v := .int f_ordered) (C := RX1) (T := TX1) (N := 6) hx hb hts inX1 hown hK hP 0 rfl rfl 5 (by decide) (hts _ tw_191) (fun _ h9 => h9) rfl dX1_rowSize_1 ?_
  have e1 := Option.some.inj hf
  subst e1
  exact kretR C dX1_rowSize_4
def RM_ND_mean : Room := { frames := 5, cells := 0, slots := 0, locals := 117 }
set_option maxHeartbeats 4000000 in
set_option maxRecDepth 100000 in
theorem t_ND_mean_b82 {p : Program} {l : Launch} {e : Env} {s : State} {m : MethodId} {args : Array Value} {below : List Frame} {meth : Method} {c : Code} {D : va_G} {ct : Nat → ClassId} (C : CX p s m args meth c RX10 cX10_mean 5 (some .long) D ct) {A : Nat → Prop} (hA : ∀ q : Nat, s.heap.size ≤ q → A q) (a_this a_texts a_names a_pieces a_song a_fitting a_deal a_guesses a_wise a_spy a_sheets a_texts0 a_texts1 a_texts2 a_texts0_bytes a_texts1_bytes a_texts2_bytes a_names_odds a_names_lengths a_names_letters a_names_alike a_names_oddsTogether a_pieces_inside a_pieces_lengths a_pieces_letters a_song_letters a_fitting_pieceFits a_fitting_inOrder a_deal_terms : Nat) (f_finding : Int32) (F : Nat) (f_texts0_size : Int32) (f_texts0_bytes : Nat → Int32) (f_texts1_size : Int32) (f_texts1_bytes : Nat → Int32) (f_texts2_size : Int32) (f_texts2_bytes : Nat → Int32) (f_deal_terms : Nat → Int32) (x1 : Int32) (r : Int64) (r_stale : Int32) (r_names_size : Int32) (r_names_fault : Int32) (r_names_odds : Nat → Int32) (r_names_lengths : Nat → Int32) (r_names_letters : Nat → Int32) (r_names_alike : Nat → Int32) (r_names_oddsTogether : Nat → Int32) (r_pieces_size : Int32) (r_pieces_fault : Int32) (r_pieces_inside : Nat → Int32) (r_pieces_lengths : Nat → Int32) (r_pieces_letters : Nat → Int32) (r_song_size : Int32) (r_song_fault : Int32) (r_song_letters : Nat → Int32) (r_fitting_pieceCount : Int32) (r_fitting_songFits : Int32) (r_fitting_allFit : Int32) (r_fitting_ordered : Int32) (r_fitting_pieceFits : Nat → Int32) (r_fitting_inOrder : Nat → Int32) : ∀ (x3 : Int32) (f_stale : Int32) (f_names_size : Int32) (f_names_fault : Int32) (f_names_odds : Nat → Int32) (f_names_lengths : Nat → Int32) (f_names_letters : Nat → Int32) (f_names_alike : Nat → Int32) (f_names_oddsTogether : Nat → Int32) (f_pieces_size : Int32) (f_pieces_fault : Int32) (f_pieces_inside : Nat → Int32) (f_pieces_lengths : Nat → Int32) (f_pieces_letters : Nat → Int32) (f_song_size : Int32) (f_song_fault : Int32) (f_song_letters : Nat → Int32) (f_fitting_pieceCount : Int32) (f_fitting_songFits : Int32) (f_fitting_allFit : Int32) (f_fitting_ordered : Int32) (f_fitting_pieceFits : Nat → Int32) (f_fitting_inOrder : Nat → Int32), ND_mean_b82 F f_texts0_size f_texts0_bytes f_texts1_size f_texts1_bytes f_texts2_size f_texts2_bytes f_deal_terms x1 x3 f_stale f_names_size f_names_fault f_names_odds f_names_lengths f_names_letters f_names_alike f_names_oddsTogether f_pieces_size f_pieces_fault f_pieces_inside f_pieces_lengths f_pieces_letters f_song_size f_song_fault f_song_letters f_fitting_pieceCount f_fitting_songFits f_fitting_allFit f_fitting_ordered f_fitting_pieceFits f_fitting_inOrder = some (r, r_stale, r_names_size, r_names_fault, r_names_odds, r_names_lengths, r_names_letters, r_names_alike, r_names_oddsTogether, r_pieces_size, r_pieces_fault, r_pieces_inside, r_pieces_lengths, r_pieces_letters, r_song_size, r_song_fault, r_song_letters, r_fitting_pieceCount, r_fitting_songFits, r_fitting_allFit, r_fitting_ordered, r_fitting_pieceFits, r_fitting_inOrder) → ∀ (H : Heap) (locs : List Loc), va_P D vwCl (w_ND_mean ct a_this a_texts a_names a_pieces a_song a_fitting a_deal a_guesses a_wise a_spy a_sheets a_texts0 a_texts1 a_texts2 a_texts0_bytes a_texts1_bytes a_texts2_bytes a_names_odds a_names_lengths a_names_letters a_names_alike a_names_oddsTogether a_pieces_inside a_pieces_lengths a_pieces_letters a_song_letters a_fitting_pieceFits a_fitting_inOrder a_deal_terms f_stale f_finding f_texts0_size f_texts0_bytes f_texts1_size f_texts1_bytes f_texts2_size f_texts2_bytes f_names_size f_names_fault f_names_odds f_names_lengths f_names_letters f_names_alike f_names_oddsTogether f_pieces_size f_pieces_fault f_pieces_inside f_pieces_lengths f_pieces_letters f_song_size f_song_fault f_song_letters f_fitting_pieceCount f_fitting_songFits f_fitting_allFit f_fitting_ordered f_fitting_pieceFits f_fitting_inOrder f_deal_terms) H → va_D A (w_ND_mean ct a_this a_texts a_names a_pieces a_song a_fitting a_deal a_guesses a_wise a_spy a_sheets a_texts0 a_texts1 a_texts2 a_texts0_bytes a_texts1_bytes a_texts2_bytes a_names_odds a_names_lengths a_names_letters a_names_alike a_names_oddsTogether a_pieces_inside a_pieces_lengths a_pieces_letters a_song_letters a_fitting_pieceFits a_fitting_inOrder a_deal_terms f_stale f_finding f_texts0_size f_texts0_bytes f_texts1_size f_texts1_bytes f_texts2_size f_texts2_bytes f_names_size f_names_fault f_names_odds f_names_lengths f_names_letters f_names_alike f_names_oddsTogether f_pieces_size f_pieces_fault f_pieces_inside f_pieces_lengths f_pieces_letters f_song_size f_song_fault f_song_letters f_fitting_pieceCount f_fitting_songFits f_fitting_allFit f_fitting_ordered f_fitting_pieceFits f_fitting_inOrder f_deal_terms) → va_S A s.heap H locs → ∀ ls : Array Slot, lv_has ls 5 [(0, .ref a_this), (1, .int x1), (3, .int x3)] → W p l e RM_ND_mean s m args below meth c H locs 0 0 (MQ below (QM D (some (.long r)) (w_ND_mean ct a_this a_texts a_names a_pieces a_song a_fitting a_deal a_guesses a_wise a_spy a_sheets a_texts0 a_texts1 a_texts2 a_texts0_bytes a_texts1_bytes a_texts2_bytes a_names_odds a_names_lengths a_names_letters a_names_alike a_names_oddsTogether a_pieces_inside a_pieces_lengths a_pieces_letters a_song_letters a_fitting_pieceFits a_fitting_inOrder a_deal_terms r_stale f_finding f_texts0_size f_texts0_bytes f_texts1_size f_texts1_bytes f_texts2_size f_texts2_bytes r_names_size r_names_fault r_names_odds r_names_lengths r_names_letters r_names_alike r_names_oddsTogether r_pieces_size r_pieces_fault r_pieces_inside r_pieces_lengths r_pieces_letters r_song_size r_song_fault r_song_letters r_fitting_pieceCount r_fitting_songFits r_fitting_allFit r_fitting_ordered r_fitting_pieceFits r_fitting_inOrder f_deal_terms) A) args s 0 0 A) (F0 m 82 ls []) := by
  obtain ⟨hx, hb, hr, hml, hown, hts, hlk, hK, hN⟩ := id C
  intro x3 f_stale f_names_size f_names_fault f_names_odds f_names_lengths f_names_letters f_names_alike f_names_oddsTogether f_pieces_size f_pieces_fault f_pieces_inside f_pieces_lengths f_pieces_letters f_song_size f_song_fault f_song_letters f_fitting_pieceCount f_fitting_songFits f_fitting_allFit f_fitting_ordered f_fitting_pieceFits f_fitting_inOrder hf H locs hP hD hS ls hl
  unfold ND_mean_b82 at hf
  refine lv_iload_n hx hb dX10_mean_82 rfl (lv_at hl 2 rfl) ?_
  refine lv_aload_n hx hb dX10_mean_83 rfl (lv_at hl 0 rfl) ?_
  refine va_get (ci := 10) (v := .ref a_names) (C := RX10) (T := TX10) (N := 12) hx hb hts inX10 hown hK hP 0 rfl rfl 1 (by decide) (hts _ tw_284) (fun _ h9 => h9) rfl dX10_mean_84 ?_
  refine lv_aload_n hx hb dX10_mean_87 rfl (lv_at hl 0 rfl) ?_
  refine va_get (ci := 10) (v := .ref a_fitting) (C := RX10) (T := TX10) (N := 12) hx hb hts inX10 hown hK hP 0 rfl rfl 4 (by decide) (hts _ tw_287) (fun _ h9 => h9) rfl dX10_mean_88 ?_
  obtain ⟨v91, hc91, hf⟩ := cb1_some hf
  refine kcRV (q0 := 20) (ci := 1) (As := []) (rest := [.ref a_names, .int x3]) (st1 := [.int v91, .ref a_names, .int x3]) C (c_Fi_byAll l D ct a_fitting a_fitting_pieceFits a_fitting_inOrder f_fitting_pieceCount f_fitting_songFits f_fitting_ordered f_fitting_allFit v91 hc91) ⟨rfl, rfl⟩ yn_yX1_byAll tw_577 tw_578 tw_576 ⟨Nat.le_of_ble_eq_true rfl, Nat.le_of_ble_eq_true rfl⟩ ⟨Nat.zero_le _, Nat.zero_le _⟩ hP [20] rfl rfl rfl rfl hl.1 rfl rfl (Nat.le_of_ble_eq_true rfl) dX10_mean_91 rfl ?_
  obtain ⟨v94, hc94, hf⟩ := cb1_some hf
  refine kcRV (q0 := 8) (ci := 3) (As := [.int v91]) (rest := [.int x3]) (st1 := [.int v94, .int x3]) C (c_Na_oddsOfAll l D ct a_names a_names_odds a_names_lengths a_names_letters a_names_alike a_names_oddsTogether f_names_fault f_names_size f_names_oddsTogether v91 v94 hc94) ⟨rfl, rfl⟩ yn_yX3_oddsOfAll tw_592 tw_593 tw_591 ⟨Nat.le_of_ble_eq_true rfl, Nat.le_of_ble_eq_true rfl⟩ ⟨Nat.zero_le _, Nat.zero_le _⟩ hP [8, 13] rfl rfl rfl rfl hl.1 rfl rfl (Nat.le_of_ble_eq_true rfl) dX10_mean_94 rfl ?_
  refine lv_iload_n hx hb dX10_mean_97 rfl (lv_at hl 1 rfl) ?_
  obtain ⟨v98, hc98, hf⟩ := cb1_some hf
  refine kcRS (As := [.int x3, .int v94, .int x1]) (rest := []) (st1 := [.int v98]) C (c_ND_lowestTerm l D ct F x3 v94 x1 v98 hc98) ⟨rfl, rfl⟩ yn_yX10_lowestTerm tw_596 tw_595 ⟨Nat.le_of_ble_eq_true rfl, Nat.le_of_ble_eq_true rfl⟩ ⟨Nat.zero_le _, Nat.zero_le _⟩ hP [] rfl hl.1 rfl rfl (Nat.le_of_ble_eq_true rfl) dX10_mean_98 rfl ?_
  refine lv_i2l (v := Int32.toInt64 v98) hx hb dX10_mean_101 rfl ?_
  obtain ⟨e1, e2, e3, e4, e5, e6, e7, e8, e9, e10, e11, e12, e13, e14, e15, e16, e17, e18, e19, e20, e21, e22, e23⟩ := ti23 hf
  subst e1; subst e2; subst e3; subst e4; subst e5; subst e6; subst e7; subst e8; subst e9; subst e10; subst e11; subst e12; subst e13; subst e14; subst e15; subst e16; subst e17; subst e18; subst e19; subst e20; subst e21; subst e22; subst e23
  exact kretMl C hP hD hS dX10_mean_102
set_option maxHeartbeats 4000000 in
set_option maxRecDepth 100000 in
theorem t_ND_mean_b40 {p : Program} {l : Launch} {e : Env} {s : State} {m : MethodId} {args : Array Value} {below : List Frame} {meth : Method} {c : Code} {D : va_G} {ct : Nat → ClassId} (C : CX p s m args meth c RX10 cX10_mean 5 (some .long) D ct) {A : Nat → Prop} (hA : ∀ q : Nat, s.heap.size ≤ q → A q) (a_this a_texts a_names a_pieces a_song a_fitting a_deal a_guesses a_wise a_spy a_sheets a_texts0 a_texts1 a_texts2 a_texts0_bytes a_texts1_bytes a_texts2_bytes a_names_odds a_names_lengths a_names_letters a_names_alike a_names_oddsTogether a_pieces_inside a_pieces_lengths a_pieces_letters a_song_letters a_fitting_pieceFits a_fitting_inOrder a_deal_terms : Nat) (f_finding : Int32) (F : Nat) (f_texts0_size : Int32) (f_texts0_bytes : Nat → Int32) (f_texts1_size : Int32) (f_texts1_bytes : Nat → Int32) (f_texts2_size : Int32) (f_texts2_bytes : Nat → Int32) (f_deal_terms : Nat → Int32) (x1 : Int32) (r : Int64) (r_stale : Int32) (r_names_size : Int32) (r_names_fault : Int32) (r_names_odds : Nat → Int32) (r_names_lengths : Nat → Int32) (r_names_letters : Nat → Int32) (r_names_alike : Nat → Int32) (r_names_oddsTogether : Nat → Int32) (r_pieces_size : Int32) (r_pieces_fault : Int32) (r_pieces_inside : Nat → Int32) (r_pieces_lengths : Nat → Int32) (r_pieces_letters : Nat → Int32) (r_song_size : Int32) (r_song_fault : Int32) (r_song_letters : Nat → Int32) (r_fitting_pieceCount : Int32) (r_fitting_songFits : Int32) (r_fitting_allFit : Int32) (r_fitting_ordered : Int32) (r_fitting_pieceFits : Nat → Int32) (r_fitting_inOrder : Nat → Int32) (rec40 : Int32 → Int32 → Int32 → Int32 → Int32 → Int32 → (Nat → Int32) → (Nat → Int32) → (Nat → Int32) → (Nat → Int32) → (Nat → Int32) → Int32 → Int32 → (Nat → Int32) → (Nat → Int32) → (Nat → Int32) → Int32 → Int32 → (Nat → Int32) → Int32 → Int32 → Int32 → Int32 → (Nat → Int32) → (Nat → Int32) → Option (Int64 × Int32 × Int32 × Int32 × (Nat → Int32) × (Nat → Int32) × (Nat → Int32) × (Nat → Int32) × (Nat → Int32) × Int32 × Int32 × (Nat → Int32) × (Nat → Int32) × (Nat → Int32) × Int32 × Int32 × (Nat → Int32) × Int32 × Int32 × Int32 × Int32 × (Nat → Int32) × (Nat → Int32))) (hr40 : ∀ (x2 : Int32) (x3 : Int32) (x4 : Int32) (f_stale : Int32) (f_names_size : Int32) (f_names_fault : Int32) (f_names_odds : Nat → Int32) (f_names_lengths : Nat → Int32) (f_names_letters : Nat → Int32) (f_names_alike : Nat → Int32) (f_names_oddsTogether : Nat → Int32) (f_pieces_size : Int32) (f_pieces_fault : Int32) (f_pieces_inside : Nat → Int32) (f_pieces_lengths : Nat → Int32) (f_pieces_letters : Nat → Int32) (f_song_size : Int32) (f_song_fault : Int32) (f_song_letters : Nat → Int32) (f_fitting_pieceCount : Int32) (f_fitting_songFits : Int32) (f_fitting_allFit : Int32) (f_fitting_ordered : Int32) (f_fitting_pieceFits : Nat → Int32) (f_fitting_inOrder : Nat → Int32), rec40 x2 x3 x4 f_stale f_names_size f_names_fault f_names_odds f_names_lengths f_names_letters f_names_alike f_names_oddsTogether f_pieces_size f_pieces_fault f_pieces_inside f_pieces_lengths f_pieces_letters f_song_size f_song_fault f_song_letters f_fitting_pieceCount f_fitting_songFits f_fitting_allFit f_fitting_ordered f_fitting_pieceFits f_fitting_inOrder = some (r, r_stale, r_names_size, r_names_fault, r_names_odds, r_names_lengths, r_names_letters, r_names_alike, r_names_oddsTogether, r_pieces_size, r_pieces_fault, r_pieces_inside, r_pieces_lengths, r_pieces_letters, r_song_size, r_song_fault, r_song_letters, r_fitting_pieceCount, r_fitting_songFits, r_fitting_allFit, r_fitting_ordered, r_fitting_pieceFits, r_fitting_inOrder) → ∀ (H : Heap) (locs : List Loc), va_P D vwCl (w_ND_mean ct a_this a_texts a_names a_pieces a_song a_fitting a_deal a_guesses a_wise a_spy a_sheets a_texts0 a_texts1 a_texts2 a_texts0_bytes a_texts1_bytes a_texts2_bytes a_names_odds a_names_lengths a_names_letters a_names_alike a_names_oddsTogether a_pieces_inside a_pieces_lengths a_pieces_letters a_song_letters a_fitting_pieceFits a_fitting_inOrder a_deal_terms f_stale f_finding f_texts0_size f_texts0_bytes f_texts1_size f_texts1_bytes f_texts2_size f_texts2_bytes f_names_size f_names_fault f_names_odds f_names_lengths f_names_letters f_names_alike f_names_oddsTogether f_pieces_size f_pieces_fault f_pieces_inside f_pieces_lengths f_pieces_letters f_song_size f_song_fault f_song_letters f_fitting_pieceCount f_fitting_songFits f_fitting_allFit f_fitting_ordered f_fitting_pieceFits f_fitting_inOrder f_deal_terms) H → va_D A (w_ND_mean ct a_this a_texts a_names a_pieces a_song a_fitting a_deal a_guesses a_wise a_spy a_sheets a_texts0 a_texts1 a_texts2 a_texts0_bytes a_texts1_bytes a_texts2_bytes a_names_odds a_names_lengths a_names_letters a_names_alike a_names_oddsTogether a_pieces_inside a_pieces_lengths a_pieces_letters a_song_letters a_fitting_pieceFits a_fitting_inOrder a_deal_terms f_stale f_finding f_texts0_size f_texts0_bytes f_texts1_size f_texts1_bytes f_texts2_size f_texts2_bytes f_names_size f_names_fault f_names_odds f_names_lengths f_names_letters f_names_alike f_names_oddsTogether f_pieces_size f_pieces_fault f_pieces_inside f_pieces_lengths f_pieces_letters f_song_size f_song_fault f_song_letters f_fitting_pieceCount f_fitting_songFits f_fitting_allFit f_fitting_ordered f_fitting_pieceFits f_fitting_inOrder f_deal_terms) → va_S A s.heap H locs → ∀ ls : Array Slot, lv_has ls 5 [(0, .ref a_this), (1, .int x1), (2, .int x2), (3, .int x3), (4, .int x4)] → W p l e RM_ND_mean s m args below meth c H locs 0 0 (MQ below (QM D (some (.long r)) (w_ND_mean ct a_this a_texts a_names a_pieces a_song a_fitting a_deal a_guesses a_wise a_spy a_sheets a_texts0 a_texts1 a_texts2 a_texts0_bytes a_texts1_bytes a_texts2_bytes a_names_odds a_names_lengths a_names_letters a_names_alike a_names_oddsTogether a_pieces_inside a_pieces_lengths a_pieces_letters a_song_letters a_fitting_pieceFits a_fitting_inOrder a_deal_terms r_stale f_finding f_texts0_size f_texts0_bytes f_texts1_size f_texts1_bytes f_texts2_size f_texts2_bytes r_names_size r_names_fault r_names_odds r_names_lengths r_names_letters r_names_alike r_names_oddsTogether r_pieces_size r_pieces_fault r_pieces_inside r_pieces_lengths r_pieces_letters r_song_size r_song_fault r_song_letters r_fitting_pieceCount r_fitting_songFits r_fitting_allFit r_fitting_ordered r_fitting_pieceFits r_fitting_inOrder f_deal_terms) A) args s 0 0 A) (F0 m 40 ls [])) : ∀ (x2 : Int32) (x3 : Int32) (x4 : Int32) (f_stale : Int32) (f_names_size : Int32) (f_names_fault : Int32) (f_names_odds : Nat → Int32) (f_names_lengths : Nat → Int32) (f_names_letters : Nat → Int32) (f_names_alike : Nat → Int32) (f_names_oddsTogether : Nat → Int32) (f_pieces_size : Int32) (f_pieces_fault : Int32) (f_pieces_inside : Nat → Int32) (f_pieces_lengths : Nat → Int32) (f_pieces_letters : Nat → Int32) (f_song_size : Int32) (f_song_fault : Int32) (f_song_letters : Nat → Int32) (f_fitting_pieceCount : Int32) (f_fitting_songFits : Int32) (f_fitting_allFit : Int32) (f_fitting_ordered : Int32) (f_fitting_pieceFits : Nat → Int32) (f_fitting_inOrder : Nat → Int32), ND_mean_b40 F f_texts0_size f_texts0_bytes f_texts1_size f_texts1_bytes f_texts2_size f_texts2_bytes f_deal_terms x1 rec40 x2 x3 x4 f_stale f_names_size f_names_fault f_names_odds f_names_lengths f_names_letters f_names_alike f_names_oddsTogether f_pieces_size f_pieces_fault f_pieces_inside f_pieces_lengths f_pieces_letters f_song_size f_song_fault f_song_letters f_fitting_pieceCount f_fitting_songFits f_fitting_allFit f_fitting_ordered f_fitting_pieceFits f_fitting_inOrder = some (r, r_stale, r_names_size, r_names_fault, r_names_odds, r_names_lengths, r_names_letters, r_names_alike, r_names_oddsTogether, r_pieces_size, r_pieces_fault, r_pieces_inside, r_pieces_lengths, r_pieces_letters, r_song_size, r_song_fault, r_song_letters, r_fitting_pieceCount, r_fitting_songFits, r_fitting_allFit, r_fitting_ordered, r_fitting_pieceFits, r_fitting_inOrder) → ∀ (H : Heap) (locs : List Loc), va_P D vwCl (w_ND_mean ct a_this a_texts a_names a_pieces a_song a_fitting a_deal a_guesses a_wise a_spy a_sheets a_texts0 a_texts1 a_texts2 a_texts0_bytes a_texts1_bytes a_texts2_bytes a_names_odds a_names_lengths a_names_letters a_names_alike a_names_oddsTogether a_pieces_inside a_pieces_lengths a_pieces_letters a_song_letters a_fitting_pieceFits a_fitting_inOrder a_deal_terms f_stale f_finding f_texts0_size f_texts0_bytes f_texts1_size f_texts1_bytes f_texts2_size f_texts2_bytes f_names_size f_names_fault f_names_odds f_names_lengths f_names_letters f_names_alike f_names_oddsTogether f_pieces_size f_pieces_fault f_pieces_inside f_pieces_lengths f_pieces_letters f_song_size f_song_fault f_song_letters f_fitting_pieceCount f_fitting_songFits f_fitting_allFit f_fitting_ordered f_fitting_pieceFits f_fitting_inOrder f_deal_terms) H → va_D A (w_ND_mean ct a_this a_texts a_names a_pieces a_song a_fitting a_deal a_guesses a_wise a_spy a_sheets a_texts0 a_texts1 a_texts2 a_texts0_bytes a_texts1_bytes a_texts2_bytes a_names_odds a_names_lengths a_names_letters a_names_alike a_names_oddsTogether a_pieces_inside a_pieces_lengths a_pieces_letters a_song_letters a_fitting_pieceFits a_fitting_inOrder a_deal_terms f_stale f_finding f_texts0_size f_texts0_bytes f_texts1_size f_texts1_bytes f_texts2_size f_texts2_bytes f_names_size f_names_fault f_names_odds f_names_lengths f_names_letters f_names_alike f_names_oddsTogether f_pieces_size f_pieces_fault f_pieces_inside f_pieces_lengths f_pieces_letters f_song_size f_song_fault f_song_letters f_fitting_pieceCount f_fitting_songFits f_fitting_allFit f_fitting_ordered f_fitting_pieceFits f_fitting_inOrder f_deal_terms) → va_S A s.heap H locs → ∀ ls : Array Slot, lv_has ls 5 [(0, .ref a_this), (1, .int x1), (2, .int x2), (3, .int x3), (4, .int x4)] → W p l e RM_ND_mean s m args below meth c H locs 0 0 (MQ below (QM D (some (.long r)) (w_ND_mean ct a_this a_texts a_names a_pieces a_song a_fitting a_deal a_guesses a_wise a_spy a_sheets a_texts0 a_texts1 a_texts2 a_texts0_bytes a_texts1_bytes a_texts2_bytes a_names_odds a_names_lengths a_names_letters a_names_alike a_names_oddsTogether a_pieces_inside a_pieces_lengths a_pieces_letters a_song_letters a_fitting_pieceFits a_fitting_inOrder a_deal_terms r_stale f_finding f_texts0_size f_texts0_bytes f_texts1_size f_texts1_bytes f_texts2_size f_texts2_bytes r_names_size r_names_fault r_names_odds r_names_lengths r_names_letters r_names_alike r_names_oddsTogether r_pieces_size r_pieces_fault r_pieces_inside r_pieces_lengths r_pieces_letters r_song_size r_song_fault r_song_letters r_fitting_pieceCount r_fitting_songFits r_fitting_allFit r_fitting_ordered r_fitting_pieceFits r_fitting_inOrder f_deal_terms) A) args s 0 0 A) (F0 m 40 ls []) := by
  obtain ⟨hx, hb, hr, hml, hown, hts, hlk, hK, hN⟩ := id C
  intro x2 x3 x4 f_stale f_names_size f_names_fault f_names_odds f_names_lengths f_names_letters f_names_alike f_names_oddsTogether f_pieces_size f_pieces_fault f_pieces_inside f_pieces_lengths f_pieces_letters f_song_size f_song_fault f_song_letters f_fitting_pieceCount f_fitting_songFits f_fitting_allFit f_fitting_ordered f_fitting_pieceFits f_fitting_inOrder hf H locs hP hD hS ls hl
  unfold ND_mean_b40 at hf
  refine lv_iload hx hb dX10_mean_40 (lv_at hl 4 rfl) ?_
  refine lv_iload_n hx hb dX10_mean_42 rfl (lv_at hl 2 rfl) ?_
  refine lv_icmp_ge (tgt := 82) hx hb dX10_mean_43 (by decide) (fun hc => ?_) (fun hc => ?_)
  · have hf := kpos hc hf
    exact t_ND_mean_b82 C hA a_this a_texts a_names a_pieces a_song a_fitting a_deal a_guesses a_wise a_spy a_sheets a_texts0 a_texts1 a_texts2 a_texts0_bytes a_texts1_bytes a_texts2_bytes a_names_odds a_names_lengths a_names_letters a_names_alike a_names_oddsTogether a_pieces_inside a_pieces_lengths a_pieces_letters a_song_letters a_fitting_pieceFits a_fitting_inOrder a_deal_terms f_finding F f_texts0_size f_texts0_bytes f_texts1_size f_texts1_bytes f_texts2_size f_texts2_bytes f_deal_terms x1 r r_stale r_names_size r_names_fault r_names_odds r_names_lengths r_names_letters r_names_alike r_names_oddsTogether r_pieces_size r_pieces_fault r_pieces_inside r_pieces_lengths r_pieces_letters r_song_size r_song_fault r_song_letters r_fitting_pieceCount r_fitting_songFits r_fitting_allFit r_fitting_ordered r_fitting_pieceFits r_fitting_inOrder x3 f_stale f_names_size f_names_fault f_names_odds f_names_lengths f_names_letters f_names_alike f_names_oddsTogether f_pieces_size f_pieces_fault f_pieces_inside f_pieces_lengths f_pieces_letters f_song_size f_song_fault f_song_letters f_fitting_pieceCount f_fitting_songFits f_fitting_allFit f_fitting_ordered f_fitting_pieceFits f_fitting_inOrder hf _ _ hP hD hS _ (lv_sub hl [0, 1, 3] rfl)
  · have hf := kneg hc hf
    refine lv_iload_n hx hb dX10_mean_46 rfl (lv_at hl 3 rfl) ?_
    refine lv_aload_n hx hb dX10_mean_47 rfl (lv_at hl 0 rfl) ?_
    refine va_get (ci := 10) (v := .ref a_names) (C := RX10) (T := TX10) (N := 12) hx hb hts inX10 hown hK hP 0 rfl rfl 1 (by decide) (hts _ tw_284) (fun _ h9 => h9) rfl dX10_mean_48 ?_
    refine lv_aload_n hx hb dX10_mean_51 rfl (lv_at hl 0 rfl) ?_
    refine va_get (ci := 10) (v := .ref a_fitting) (C := RX10) (T := TX10) (N := 12) hx hb hts inX10 hown hK hP 0 rfl rfl 4 (by decide) (hts _ tw_287) (fun _ h9 => h9) rfl dX10_mean_52 ?_
    refine lv_iload hx hb dX10_mean_55 (lv_at hl 4 rfl) ?_
    obtain ⟨v57, hc57, hf⟩ := cb1_some hf
    refine kcRV (q0 := 20) (ci := 1) (As := [.int x4]) (rest := [.ref a_names, .int x3]) (st1 := [.int v57, .ref a_names, .int x3]) C (c_Fi_inRow l D ct a_fitting a_fitting_pieceFits a_fitting_inOrder f_fitting_pieceCount f_fitting_songFits f_fitting_allFit f_fitting_ordered f_fitting_inOrder x4 v57 hc57) ⟨rfl, rfl⟩ yn_yX1_inRow tw_671 tw_672 tw_670 ⟨Nat.le_of_ble_eq_true rfl, Nat.le_of_ble_eq_true rfl⟩ ⟨Nat.zero_le _, Nat.zero_le _⟩ hP [20, 22] rfl rfl rfl rfl hl.1 rfl rfl (Nat.le_of_ble_eq_true rfl) dX10_mean_57 rfl ?_
    obtain ⟨v60, hc60, hf⟩ := cb1_some hf
    refine kcRV (q0 := 8) (ci := 3) (As := [.int v57]) (rest := [.int x3]) (st1 := [.int v60, .int x3]) C (c_Na_oddsOf l D ct a_names a_names_odds a_names_lengths a_names_letters a_names_alike a_names_oddsTogether f_names_fault f_names_size f_names_odds v57 v60 hc60) ⟨rfl, rfl⟩ yn_yX3_oddsOf tw_476 tw_477 tw_500 ⟨Nat.le_of_ble_eq_true rfl, Nat.le_of_ble_eq_true rfl⟩ ⟨Nat.zero_le _, Nat.zero_le _⟩ hP [8, 9] rfl rfl rfl rfl hl.1 rfl rfl (Nat.le_of_ble_eq_true rfl) dX10_mean_60 rfl ?_
    refine lv_aload_n hx hb dX10_mean_63 rfl (lv_at hl 0 rfl) ?_
    refine va_get (ci := 10) (v := .ref a_deal) (C := RX10) (T := TX10) (N := 12) hx hb hts inX10 hown hK hP 0 rfl rfl 5 (by decide) (hts _ tw_288) (fun _ h9 => h9) rfl dX10_mean_64 ?_
    refine lv_iload hx hb dX10_mean_67 (lv_at hl 4 rfl) ?_
    refine lv_iload_n hx hb dX10_mean_69 rfl (lv_at hl 2 rfl) ?_
    obtain ⟨v70, hc70, hf⟩ := cb1_some hf
    refine kcRV (q0 := 23) (ci := 0) (As := [.int x4, .int x2]) (rest := [.int v60, .int x3]) (st1 := [.int v70, .int v60, .int x3]) C (c_De_paidAt l D ct a_deal a_deal_terms f_deal_terms x4 x2 v70 hc70) ⟨rfl, rfl⟩ yn_yX0_paidAt tw_648 tw_649 tw_647 ⟨Nat.le_of_ble_eq_true rfl, Nat.le_of_ble_eq_true rfl⟩ ⟨Nat.zero_le _, Nat.zero_le _⟩ hP [23, 24] rfl rfl rfl rfl hl.1 rfl rfl (Nat.le_of_ble_eq_true rfl) dX10_mean_70 rfl ?_
    refine lv_imul hx hb dX10_mean_73 ?_
    refine lv_iadd hx hb dX10_mean_74 ?_
    refine lv_istore_n (lv' := [(3, .int (x3 + (v60 * v70))), (0, .ref a_this), (1, .int x1), (2, .int x2), (4, .int x4)]) hx hb dX10_mean_75 rfl hl (by decide) rfl (fun ls hl => ?_)
    refine lv_iinc (v := x4 + 1) (lv' := [(4, .int (x4 + 1)), (3, .int (x3 + (v60 * v70))), (0, .ref a_this), (1, .int x1), (2, .int x2)]) hx hb dX10_mean_76 hl (k := 4) rfl rfl (by decide) rfl (fun ls hl => ?_)
    refine lv_goto (tgt := 40) hx hb dX10_mean_79 (by decide) ?_
    exact hr40 x2 (x3 + (v60 * v70)) (x4 + 1) f_stale f_names_size f_names_fault f_names_odds f_names_lengths f_names_letters f_names_alike f_names_oddsTogether f_pieces_size f_pieces_fault f_pieces_inside f_pieces_lengths f_pieces_letters f_song_size f_song_fault f_song_letters f_fitting_pieceCount f_fitting_songFits f_fitting_allFit f_fitting_ordered f_fitting_pieceFits f_fitting_inOrder hf _ _ hP hD hS _ (lv_sub hl [2, 3, 4, 1, 0] rfl)
set_option maxHeartbeats 4000000 in
set_option maxRecDepth 100000 in
theorem t_ND_mean_l40 {p : Program} {l : Launch} {e : Env} {s : State} {m : MethodId} {args : Array Value} {below : List Frame} {meth : Method} {c : Code} {D : va_G} {ct : Nat → ClassId} (C : CX p s m args meth c RX10 cX10_mean 5 (some .long) D ct) {A : Nat → Prop} (hA : ∀ q : Nat, s.heap.size ≤ q → A q) (a_this a_texts a_names a_pieces a_song a_fitting a_deal a_guesses a_wise a_spy a_sheets a_texts0 a_texts1 a_texts2 a_texts0_bytes a_texts1_bytes a_texts2_bytes a_names_odds a_names_lengths a_names_letters a_names_alike a_names_oddsTogether a_pieces_inside a_pieces_lengths a_pieces_letters a_song_letters a_fitting_pieceFits a_fitting_inOrder a_deal_terms : Nat) (f_finding : Int32) (F : Nat) (f_texts0_size : Int32) (f_texts0_bytes : Nat → Int32) (f_texts1_size : Int32) (f_texts1_bytes : Nat → Int32) (f_texts2_size : Int32) (f_texts2_bytes : Nat → Int32) (f_deal_terms : Nat → Int32) (x1 : Int32) (r : Int64) (r_stale : Int32) (r_names_size : Int32) (r_names_fault : Int32) (r_names_odds : Nat → Int32) (r_names_lengths : Nat → Int32) (r_names_letters : Nat → Int32) (r_names_alike : Nat → Int32) (r_names_oddsTogether : Nat → Int32) (r_pieces_size : Int32) (r_pieces_fault : Int32) (r_pieces_inside : Nat → Int32) (r_pieces_lengths : Nat → Int32) (r_pieces_letters : Nat → Int32) (r_song_size : Int32) (r_song_fault : Int32) (r_song_letters : Nat → Int32) (r_fitting_pieceCount : Int32) (r_fitting_songFits : Int32) (r_fitting_allFit : Int32) (r_fitting_ordered : Int32) (r_fitting_pieceFits : Nat → Int32) (r_fitting_inOrder : Nat → Int32) : ∀ (n : Nat) (x2 : Int32) (x3 : Int32) (x4 : Int32) (f_stale : Int32) (f_names_size : Int32) (f_names_fault : Int32) (f_names_odds : Nat → Int32) (f_names_lengths : Nat → Int32) (f_names_letters : Nat → Int32) (f_names_alike : Nat → Int32) (f_names_oddsTogether : Nat → Int32) (f_pieces_size : Int32) (f_pieces_fault : Int32) (f_pieces_inside : Nat → Int32) (f_pieces_lengths : Nat → Int32) (f_pieces_letters : Nat → Int32) (f_song_size : Int32) (f_song_fault : Int32) (f_song_letters : Nat → Int32) (f_fitting_pieceCount : Int32) (f_fitting_songFits : Int32) (f_fitting_allFit : Int32) (f_fitting_ordered : Int32) (f_fitting_pieceFits : Nat → Int32) (f_fitting_inOrder : Nat → Int32), ND_mean_l40 F f_texts0_size f_texts0_bytes f_texts1_size f_texts1_bytes f_texts2_size f_texts2_bytes f_deal_terms x1 n x2 x3 x4 f_stale f_names_size f_names_fault f_names_odds f_names_lengths f_names_letters f_names_alike f_names_oddsTogether f_pieces_size f_pieces_fault f_pieces_inside f_pieces_lengths f_pieces_letters f_song_size f_song_fault f_song_letters f_fitting_pieceCount f_fitting_songFits f_fitting_allFit f_fitting_ordered f_fitting_pieceFits f_fitting_inOrder = some (r, r_stale, r_names_size, r_names_fault, r_names_odds, r_names_lengths, r_names_letters, r_names_alike, r_names_oddsTogether, r_pieces_size, r_pieces_fault, r_pieces_inside, r_pieces_lengths, r_pieces_letters, r_song_size, r_song_fault, r_song_letters, r_fitting_pieceCount, r_fitting_songFits, r_fitting_allFit, r_fitting_ordered, r_fitting_pieceFits, r_fitting_inOrder) → ∀ (H : Heap) (locs : List Loc), va_P D vwCl (w_ND_mean ct a_this a_texts a_names a_pieces a_song a_fitting a_deal a_guesses a_wise a_spy a_sheets a_texts0 a_texts1 a_texts2 a_texts0_bytes a_texts1_bytes a_texts2_bytes a_names_odds a_names_lengths a_names_letters a_names_alike a_names_oddsTogether a_pieces_inside a_pieces_lengths a_pieces_letters a_song_letters a_fitting_pieceFits a_fitting_inOrder a_deal_terms f_stale f_finding f_texts0_size f_texts0_bytes f_texts1_size f_texts1_bytes f_texts2_size f_texts2_bytes f_names_size f_names_fault f_names_odds f_names_lengths f_names_letters f_names_alike f_names_oddsTogether f_pieces_size f_pieces_fault f_pieces_inside f_pieces_lengths f_pieces_letters f_song_size f_song_fault f_song_letters f_fitting_pieceCount f_fitting_songFits f_fitting_allFit f_fitting_ordered f_fitting_pieceFits f_fitting_inOrder f_deal_terms) H → va_D A (w_ND_mean ct a_this a_texts a_names a_pieces a_song a_fitting a_deal a_guesses a_wise a_spy a_sheets a_texts0 a_texts1 a_texts2 a_texts0_bytes a_texts1_bytes a_texts2_bytes a_names_odds a_names_lengths a_names_letters a_names_alike a_names_oddsTogether a_pieces_inside a_pieces_lengths a_pieces_letters a_song_letters a_fitting_pieceFits a_fitting_inOrder a_deal_terms f_stale f_finding f_texts0_size f_texts0_bytes f_texts1_size f_texts1_bytes f_texts2_size f_texts2_bytes f_names_size f_names_fault f_names_odds f_names_lengths f_names_letters f_names_alike f_names_oddsTogether f_pieces_size f_pieces_fault f_pieces_inside f_pieces_lengths f_pieces_letters f_song_size f_song_fault f_song_letters f_fitting_pieceCount f_fitting_songFits f_fitting_allFit f_fitting_ordered f_fitting_pieceFits f_fitting_inOrder f_deal_terms) → va_S A s.heap H locs → ∀ ls : Array Slot, lv_has ls 5 [(0, .ref a_this), (1, .int x1), (2, .int x2), (3, .int x3), (4, .int x4)] → W p l e RM_ND_mean s m args below meth c H locs 0 0 (MQ below (QM D (some (.long r)) (w_ND_mean ct a_this a_texts a_names a_pieces a_song a_fitting a_deal a_guesses a_wise a_spy a_sheets a_texts0 a_texts1 a_texts2 a_texts0_bytes a_texts1_bytes a_texts2_bytes a_names_odds a_names_lengths a_names_letters a_names_alike a_names_oddsTogether a_pieces_inside a_pieces_lengths a_pieces_letters a_song_letters a_fitting_pieceFits a_fitting_inOrder a_deal_terms r_stale f_finding f_texts0_size f_texts0_bytes f_texts1_size f_texts1_bytes f_texts2_size f_texts2_bytes r_names_size r_names_fault r_names_odds r_names_lengths r_names_letters r_names_alike r_names_oddsTogether r_pieces_size r_pieces_fault r_pieces_inside r_pieces_lengths r_pieces_letters r_song_size r_song_fault r_song_letters r_fitting_pieceCount r_fitting_songFits r_fitting_allFit r_fitting_ordered r_fitting_pieceFits r_fitting_inOrder f_deal_terms) A) args s 0 0 A) (F0 m 40 ls []) := by
  intro n
  induction n with
  | zero =>
    intro x2 x3 x4 f_stale f_names_size f_names_fault f_names_odds f_names_lengths f_names_letters f_names_alike f_names_oddsTogether f_pieces_size f_pieces_fault f_pieces_inside f_pieces_lengths f_pieces_letters f_song_size f_song_fault f_song_letters f_fitting_pieceCount f_fitting_songFits f_fitting_allFit f_fitting_ordered f_fitting_pieceFits f_fitting_inOrder hf
    exact absurd hf (by simp [ND_mean_l40])
  | succ n ih =>
    intro x2 x3 x4 f_stale f_names_size f_names_fault f_names_odds f_names_lengths f_names_letters f_names_alike f_names_oddsTogether f_pieces_size f_pieces_fault f_pieces_inside f_pieces_lengths f_pieces_letters f_song_size f_song_fault f_song_letters f_fitting_pieceCount f_fitting_songFits f_fitting_allFit f_fitting_ordered f_fitting_pieceFits f_fitting_inOrder hf
    exact t_ND_mean_b40 C hA a_this a_texts a_names a_pieces a_song a_fitting a_deal a_guesses a_wise a_spy a_sheets a_texts0 a_texts1 a_texts2 a_texts0_bytes a_texts1_bytes a_texts2_bytes a_names_odds a_names_lengths a_names_letters a_names_alike a_names_oddsTogether a_pieces_inside a_pieces_lengths a_pieces_letters a_song_letters a_fitting_pieceFits a_fitting_inOrder a_deal_terms f_finding F f_texts0_size f_texts0_bytes f_texts1_size f_texts1_bytes f_texts2_size f_texts2_bytes f_deal_terms x1 r r_stale r_names_size r_names_fault r_names_odds r_names_lengths r_names_letters r_names_alike r_names_oddsTogether r_pieces_size r_pieces_fault r_pieces_inside r_pieces_lengths r_pieces_letters r_song_size r_song_fault r_song_letters r_fitting_pieceCount r_fitting_songFits r_fitting_allFit r_fitting_ordered r_fitting_pieceFits r_fitting_inOrder (ND_mean_l40 F f_texts0_size f_texts0_bytes f_texts1_size f_texts1_bytes f_texts2_size f_texts2_bytes f_deal_terms x1 n) ih x2 x3 x4 f_stale f_names_size f_names_fault f_names_odds f_names_lengths f_names_letters f_names_alike f_names_oddsTogether f_pieces_size f_pieces_fault f_pieces_inside f_pieces_lengths f_pieces_letters f_song_size f_song_fault f_song_letters f_fitting_pieceCount f_fitting_songFits f_fitting_allFit f_fitting_ordered f_fitting_pieceFits f_fitting_inOrder hf
set_option maxHeartbeats 4000000 in
set_option maxRecDepth 100000 in
theorem c_ND_mean (l : Launch) (D : va_G) (ct : Nat → ClassId) (a_this a_texts a_names a_pieces a_song a_fitting a_deal a_guesses a_wise a_spy a_sheets a_texts0 a_texts1 a_texts2 a_texts0_bytes a_texts1_bytes a_texts2_bytes a_names_odds a_names_lengths a_names_letters a_names_alike a_names_oddsTogether a_pieces_inside a_pieces_lengths a_pieces_letters a_song_letters a_fitting_pieceFits a_fitting_inOrder a_deal_terms : Nat) (f_finding : Int32) (F : Nat) (f_texts0_size : Int32) (f_texts0_bytes : Nat → Int32) (f_texts1_size : Int32) (f_texts1_bytes : Nat → Int32) (f_texts2_size : Int32) (f_texts2_bytes : Nat → Int32) (f_deal_terms : Nat → Int32) (f_stale : Int32) (f_names_size : Int32) (f_names_fault : Int32) (f_names_odds : Nat → Int32) (f_names_lengths : Nat → Int32) (f_names_letters : Nat → Int32) (f_names_alike : Nat → Int32) (f_names_oddsTogether : Nat → Int32) (f_pieces_size : Int32) (f_pieces_fault : Int32) (f_pieces_inside : Nat → Int32) (f_pieces_lengths : Nat → Int32) (f_pieces_letters : Nat → Int32) (f_song_size : Int32) (f_song_fault : Int32) (f_song_letters : Nat → Int32) (f_fitting_pieceCount : Int32) (f_fitting_songFits : Int32) (f_fitting_allFit : Int32) (f_fitting_ordered : Int32) (f_fitting_pieceFits : Nat → Int32) (f_fitting_inOrder : Nat → Int32) (x1 : Int32) (r : Int64) (r_stale : Int32) (r_names_size : Int32) (r_names_fault : Int32) (r_names_odds : Nat → Int32) (r_names_lengths : Nat → Int32) (r_names_letters : Nat → Int32) (r_names_alike : Nat → Int32) (r_names_oddsTogether : Nat → Int32) (r_pieces_size : Int32) (r_pieces_fault : Int32) (r_pieces_inside : Nat → Int32) (r_pieces_lengths : Nat → Int32) (r_pieces_letters : Nat → Int32) (r_song_size : Int32) (r_song_fault : Int32) (r_song_letters : Nat → Int32) (r_fitting_pieceCount : Int32) (r_fitting_songFits : Int32) (r_fitting_allFit : Int32) (r_fitting_ordered : Int32) (r_fitting_pieceFits : Nat → Int32) (r_fitting_inOrder : Nat → Int32) (sz : Nat) (hf : ND_mean F f_texts0_size f_texts0_bytes f_texts1_size f_texts1_bytes f_texts2_size f_texts2_bytes f_deal_terms f_stale f_names_size f_names_fault f_names_odds f_names_lengths f_names_letters f_names_alike f_names_oddsTogether f_pieces_size f_pieces_fault f_pieces_inside f_pieces_lengths f_pieces_letters f_song_size f_song_fault f_song_letters f_fitting_pieceCount f_fitting_songFits f_fitting_allFit f_fitting_ordered f_fitting_pieceFits f_fitting_inOrder x1 = some (r, r_stale, r_names_size, r_names_fault, r_names_odds, r_names_lengths, r_names_letters, r_names_alike, r_names_oddsTogether, r_pieces_size, r_pieces_fault, r_pieces_inside, r_pieces_lengths, r_pieces_letters, r_song_size, r_song_fault, r_song_letters, r_fitting_pieceCount, r_fitting_songFits, r_fitting_allFit, r_fitting_ordered, r_fitting_pieceFits, r_fitting_inOrder)) : Met l yX10_mean (WS yX10_mean cX10_mean 5 (some .long)) RM_ND_mean (va_Pc [.ref a_this, .int x1] (PM D ct sz (w_ND_mean ct a_this a_texts a_names a_pieces a_song a_fitting a_deal a_guesses a_wise a_spy a_sheets a_texts0 a_texts1 a_texts2 a_texts0_bytes a_texts1_bytes a_texts2_bytes a_names_odds a_names_lengths a_names_letters a_names_alike a_names_oddsTogether a_pieces_inside a_pieces_lengths a_pieces_letters a_song_letters a_fitting_pieceFits a_fitting_inOrder a_deal_terms f_stale f_finding f_texts0_size f_texts0_bytes f_texts1_size f_texts1_bytes f_texts2_size f_texts2_bytes f_names_size f_names_fault f_names_odds f_names_lengths f_names_letters f_names_alike f_names_oddsTogether f_pieces_size f_pieces_fault f_pieces_inside f_pieces_lengths f_pieces_letters f_song_size f_song_fault f_song_letters f_fitting_pieceCount f_fitting_songFits f_fitting_allFit f_fitting_ordered f_fitting_pieceFits f_fitting_inOrder f_deal_terms))) (QM D (some (.long r)) (w_ND_mean ct a_this a_texts a_names a_pieces a_song a_fitting a_deal a_guesses a_wise a_spy a_sheets a_texts0 a_texts1 a_texts2 a_texts0_bytes a_texts1_bytes a_texts2_bytes a_names_odds a_names_lengths a_names_letters a_names_alike a_names_oddsTogether a_pieces_inside a_pieces_lengths a_pieces_letters a_song_letters a_fitting_pieceFits a_fitting_inOrder a_deal_terms r_stale f_finding f_texts0_size f_texts0_bytes f_texts1_size f_texts1_bytes f_texts2_size f_texts2_bytes r_names_size r_names_fault r_names_odds r_names_lengths r_names_letters r_names_alike r_names_oddsTogether r_pieces_size r_pieces_fault r_pieces_inside r_pieces_lengths r_pieces_letters r_song_size r_song_fault r_song_letters r_fitting_pieceCount r_fitting_songFits r_fitting_allFit r_fitting_ordered r_fitting_pieceFits r_fitting_inOrder f_deal_terms) (va_A (w_ND_mean ct a_this a_texts a_names a_pieces a_song a_fitting a_deal a_guesses a_wise a_spy a_sheets a_texts0 a_texts1 a_texts2 a_texts0_bytes a_texts1_bytes a_texts2_bytes a_names_odds a_names_lengths a_names_letters a_names_alike a_names_oddsTogether a_pieces_inside a_pieces_lengths a_pieces_letters a_song_letters a_fitting_pieceFits a_fitting_inOrder a_deal_terms f_stale f_finding f_texts0_size f_texts0_bytes f_texts1_size f_texts1_bytes f_texts2_size f_texts2_bytes f_names_size f_names_fault f_names_odds f_names_lengths f_names_letters f_names_alike f_names_oddsTogether f_pieces_size f_pieces_fault f_pieces_inside f_pieces_lengths f_pieces_letters f_song_size f_song_fault f_song_letters f_fitting_pieceCount f_fitting_songFits f_fitting_allFit f_fitting_ordered f_fitting_pieceFits f_fitting_inOrder f_deal_terms) sz)) 0 0 (va_A (w_ND_mean ct a_this a_texts a_names a_pieces a_song a_fitting a_deal a_guesses a_wise a_spy a_sheets a_texts0 a_texts1 a_texts2 a_texts0_bytes a_texts1_bytes a_texts2_bytes a_names_odds a_names_lengths a_names_letters a_names_alike a_names_oddsTogether a_pieces_inside a_pieces_lengths a_pieces_letters a_song_letters a_fitting_pieceFits a_fitting_inOrder a_deal_terms f_stale f_finding f_texts0_size f_texts0_bytes f_texts1_size f_texts1_bytes f_texts2_size f_texts2_bytes f_names_size f_names_fault f_names_odds f_names_lengths f_names_letters f_names_alike f_names_oddsTogether f_pieces_size f_pieces_fault f_pieces_inside f_pieces_lengths f_pieces_letters f_song_size f_song_fault f_song_letters f_fitting_pieceCount f_fitting_songFits f_fitting_allFit f_fitting_ordered f_fitting_pieceFits f_fitting_inOrder f_deal_terms) sz) := by
  refine kMetM yn_yX10_mean rfl (Nat.le_of_ble_eq_true rfl) ?_
  intro p e s m args below meth c A C hA hP hD ls hl
  have hl : lv_has ls 5 [(0, .ref a_this), (1, .int x1)] := hl
  have hS : va_S A s.heap s.heap [] := va_S.rf
  obtain ⟨hx, hb, hr, hml, hown, hts, hlk, hK, hN⟩ := id C
  unfold ND_mean at hf
  refine lv_iload_n hx hb dX10_mean_0 rfl (lv_at hl 1 rfl) ?_
  obtain ⟨v1, hc1, hf⟩ := cb1_some hf
  refine kcRS (As := [.int x1]) (rest := []) (st1 := [.int v1]) C (c_ND_isZeroOrOne l D ct x1 v1 hc1) ⟨rfl, rfl⟩ yn_yX10_isZeroOrOne tw_585 tw_584 ⟨Nat.le_of_ble_eq_true rfl, Nat.le_of_ble_eq_true rfl⟩ ⟨Nat.zero_le _, Nat.zero_le _⟩ hP [] rfl hl.1 rfl rfl (Nat.le_of_ble_eq_true rfl) dX10_mean_1 rfl ?_
  refine lv_if_ne (tgt := 13) hx hb dX10_mean_4 (by decide) (fun hc => ?_) (fun hc => ?_)
  · have hf := kneg hc hf
    refine lv_aload_n hx hb dX10_mean_13 rfl (lv_at hl 0 rfl) ?_
    obtain ⟨f_stale_14, f_names_size_14, f_names_fault_14, f_names_odds_14, f_names_lengths_14, f_names_letters_14, f_names_alike_14, f_names_oddsTogether_14, f_pieces_size_14, f_pieces_fault_14, f_pieces_inside_14, f_pieces_lengths_14, f_pieces_letters_14, f_song_size_14, f_song_fault_14, f_song_letters_14, f_fitting_pieceCount_14, f_fitting_songFits_14, f_fitting_allFit_14, f_fitting_ordered_14, f_fitting_pieceFits_14, f_fitting_inOrder_14, hc14, hf⟩ := cb22_some hf
    refine kcMV (q0 := 0) (ci := 10) (As := []) (rest := []) (st1 := []) (wf := (w_ND_mean ct a_this a_texts a_names a_pieces a_song a_fitting a_deal a_guesses a_wise a_spy a_sheets a_texts0 a_texts1 a_texts2 a_texts0_bytes a_texts1_bytes a_texts2_bytes a_names_odds a_names_lengths a_names_letters a_names_alike a_names_oddsTogether a_pieces_inside a_pieces_lengths a_pieces_letters a_song_letters a_fitting_pieceFits a_fitting_inOrder a_deal_terms f_stale_14 f_finding f_texts0_size f_texts0_bytes f_texts1_size f_texts1_bytes f_texts2_size f_texts2_bytes f_names_size_14 f_names_fault_14 f_names_odds_14 f_names_lengths_14 f_names_letters_14 f_names_alike_14 f_names_oddsTogether_14 f_pieces_size_14 f_pieces_fault_14 f_pieces_inside_14 f_pieces_lengths_14 f_pieces_letters_14 f_song_size_14 f_song_fault_14 f_song_letters_14 f_fitting_pieceCount_14 f_fitting_songFits_14 f_fitting_allFit_14 f_fitting_ordered_14 f_fitting_pieceFits_14 f_fitting_inOrder_14 f_deal_terms)) C (c_ND_refresh l D ct a_this a_texts a_names a_pieces a_song a_fitting a_deal a_guesses a_wise a_spy a_sheets a_texts0 a_texts1 a_texts2 a_texts0_bytes a_texts1_bytes a_texts2_bytes a_names_odds a_names_lengths a_names_letters a_names_alike a_names_oddsTogether a_pieces_inside a_pieces_lengths a_pieces_letters a_song_letters a_fitting_pieceFits a_fitting_inOrder f_finding F f_texts0_size f_texts0_bytes f_texts1_size f_texts1_bytes f_texts2_size f_texts2_bytes f_stale f_names_size f_names_fault f_names_odds f_names_lengths f_names_letters f_names_alike f_names_oddsTogether f_pieces_size f_pieces_fault f_pieces_inside f_pieces_lengths f_pieces_letters f_song_size f_song_fault f_song_letters f_fitting_pieceCount f_fitting_songFits f_fitting_allFit f_fitting_ordered f_fitting_pieceFits f_fitting_inOrder f_stale_14 f_names_size_14 f_names_fault_14 f_names_odds_14 f_names_lengths_14 f_names_letters_14 f_names_alike_14 f_names_oddsTogether_14 f_pieces_size_14 f_pieces_fault_14 f_pieces_inside_14 f_pieces_lengths_14 f_pieces_letters_14 f_song_size_14 f_song_fault_14 f_song_letters_14 f_fitting_pieceCount_14 f_fitting_songFits_14 f_fitting_allFit_14 f_fitting_ordered_14 f_fitting_pieceFits_14 f_fitting_inOrder_14 _ hc14) ⟨rfl, rfl⟩ yn_yX10_refresh tw_373 tw_1 tw_371 ⟨Nat.le_of_ble_eq_true rfl, Nat.le_of_ble_eq_true rfl⟩ ⟨Nat.zero_le _, Nat.zero_le _⟩ hP hD hS hA [0, 1, 2, 3, 4, 5, 6, 7, 8, 9, 10, 11, 12, 13, 14, 15, 16, 17, 18, 19, 20, 21, 22] [23, 24] [2, 3, 4, 5, 6, 7, 8, 9, 10, 11, 12, 13, 14, 15, 16, 17, 18, 19, 20, 21, 22, 23, 24, 0, 1] rfl rfl rfl rfl rfl (by decide) rfl rfl rfl rfl rfl rfl hl.1 rfl rfl (Nat.le_of_ble_eq_true rfl) dX10_mean_14 rfl (fun H locs hP hD hS => ?_)
    refine lv_aload_n hx hb dX10_mean_17 rfl (lv_at hl 0 rfl) ?_
    refine va_get (ci := 10) (v := .ref a_fitting) (C := RX10) (T := TX10) (N := 12) hx hb hts inX10 hown hK hP 0 rfl rfl 4 (by decide) (hts _ tw_287) (fun _ h9 => h9) rfl dX10_mean_18 ?_
    obtain ⟨v21, hc21, hf⟩ := cb1_some hf
    refine kcRV (q0 := 20) (ci := 1) (As := []) (rest := []) (st1 := [.int v21]) C (c_Fi_rowSize l D ct a_fitting a_fitting_pieceFits a_fitting_inOrder f_fitting_pieceCount_14 f_fitting_songFits_14 f_fitting_allFit_14 f_fitting_ordered_14 v21 hc21) ⟨rfl, rfl⟩ yn_yX1_rowSize tw_679 tw_680 tw_678 ⟨Nat.le_of_ble_eq_true rfl, Nat.le_of_ble_eq_true rfl⟩ ⟨Nat.zero_le _, Nat.zero_le _⟩ hP [20] rfl rfl rfl rfl hl.1 rfl rfl (Nat.le_of_ble_eq_true rfl) dX10_mean_21 rfl ?_
    refine lv_istore_n (lv' := [(2, .int v21), (0, .ref a_this), (1, .int x1)]) hx hb dX10_mean_24 rfl hl (by decide) rfl (fun ls hl => ?_)
    refine lv_iload_n hx hb dX10_mean_25 rfl (lv_at hl 0 rfl) ?_
    refine lv_if_ne (tgt := 35) hx hb dX10_mean_26 (by decide) (fun hc => ?_) (fun hc => ?_)
    · have hf := kneg hc hf
      refine lv_iconst (v := 0) hx hb dX10_mean_35 (by decide) ?_
      refine lv_istore_n (lv' := [(3, .int 0), (2, .int v21), (0, .ref a_this), (1, .int x1)]) hx hb dX10_mean_36 rfl hl (by decide) rfl (fun ls hl => ?_)
      refine lv_iconst (v := 0) hx hb dX10_mean_37 (by decide) ?_
      refine lv_istore (lv' := [(4, .int 0), (3, .int 0), (2, .int v21), (0, .ref a_this), (1, .int x1)]) hx hb dX10_mean_38 hl (by decide) rfl (fun ls hl => ?_)
      exact t_ND_mean_l40 C hA a_this a_texts a_names a_pieces a_song a_fitting a_deal a_guesses a_wise a_spy a_sheets a_texts0 a_texts1 a_texts2 a_texts0_bytes a_texts1_bytes a_texts2_bytes a_names_odds a_names_lengths a_names_letters a_names_alike a_names_oddsTogether a_pieces_inside a_pieces_lengths a_pieces_letters a_song_letters a_fitting_pieceFits a_fitting_inOrder a_deal_terms f_finding F f_texts0_size f_texts0_bytes f_texts1_size f_texts1_bytes f_texts2_size f_texts2_bytes f_deal_terms x1 r r_stale r_names_size r_names_fault r_names_odds r_names_lengths r_names_letters r_names_alike r_names_oddsTogether r_pieces_size r_pieces_fault r_pieces_inside r_pieces_lengths r_pieces_letters r_song_size r_song_fault r_song_letters r_fitting_pieceCount r_fitting_songFits r_fitting_allFit r_fitting_ordered r_fitting_pieceFits r_fitting_inOrder F v21 0 0 f_stale_14 f_names_size_14 f_names_fault_14 f_names_odds_14 f_names_lengths_14 f_names_letters_14 f_names_alike_14 f_names_oddsTogether_14 f_pieces_size_14 f_pieces_fault_14 f_pieces_inside_14 f_pieces_lengths_14 f_pieces_letters_14 f_song_size_14 f_song_fault_14 f_song_letters_14 f_fitting_pieceCount_14 f_fitting_songFits_14 f_fitting_allFit_14 f_fitting_ordered_14 f_fitting_pieceFits_14 f_fitting_inOrder_14 hf _ _ hP hD hS _ (lv_sub hl [3, 4, 2, 1, 0] rfl)
    · have hf := kpos hc hf
      refine lv_bipush (v := (-3)) hx hb dX10_mean_29 (by decide) ?_
      obtain ⟨v31, hc31, hf⟩ := cb1_some hf
      refine kcRS (As := [.int (-3)]) (rest := []) (st1 := [.long v31]) C (c_ND_asLong l D ct (-3) v31 hc31) ⟨rfl, rfl⟩ yn_yX10_asLong tw_588 tw_587 ⟨Nat.le_of_ble_eq_true rfl, Nat.le_of_ble_eq_true rfl⟩ ⟨Nat.zero_le _, Nat.zero_le _⟩ hP [] rfl hl.1 rfl rfl (Nat.le_of_ble_eq_true rfl) dX10_mean_31 rfl ?_
      obtain ⟨e1, e2, e3, e4, e5, e6, e7, e8, e9, e10, e11, e12, e13, e14, e15, e16, e17, e18, e19, e20, e21, e22, e23⟩ := ti23 hf
      subst e1; subst e2; subst e3; subst e4; subst e5; subst e6; subst e7; subst e8; subst e9; subst e10; subst e11; subst e12; subst e13; subst e14; subst e15; subst e16; subst e17; subst e18; subst e19; subst e20; subst e21; subst e22; subst e23
      exact kretMl C hP hD hS dX10_mean_34
  · have hf := kpos hc hf
    refine lv_bipush (v := (-2)) hx hb dX10_mean_7 (by decide) ?_
    obtain ⟨v9, hc9, hf⟩ := cb1_some hf
    refine kcRS (As := [.int (-2)]) (rest := []) (st1 := [.long v9]) C (c_ND_asLong l D ct (-2) v9 hc9) ⟨rfl, rfl⟩ yn_yX10_asLong tw_588 tw_587 ⟨Nat.le_of_ble_eq_true rfl, Nat.le_of_ble_eq_true rfl⟩ ⟨Nat.zero_le _, Nat.zero_le _⟩ hP [] rfl hl.1 rfl rfl (Nat.le_of_ble_eq_true rfl) dX10_mean_9 rfl ?_
    obtain ⟨e1, e2, e3, e4, e5, e6, e7, e8, e9, e10, e11, e12, e13, e14, e15, e16, e17, e18, e19, e20, e21, e22, e23⟩ := ti23 hf
    subst e1; subst e2; subst e3; subst e4; subst e5; subst e6; subst e7; subst e8; subst e9; subst e10; subst e11; subst e12; subst e13; subst e14; subst e15; subst e16; subst e17; subst e18; subst e19; subst e20; subst e21; subst e22; subst e23
    exact kretMl C hP hD hS dX10_mean_12
