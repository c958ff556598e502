def RM_Pi_parse : Room := { frames := 3, cells := 0, slots := 0, locals := 71 }
set_option maxHeartbeats 4000000 in
set_option maxRecDepth 100000 in
theorem c_Pi_parse (l : Launch) (D : va_G) (ct : Nat → ClassId) (a_this a_inside a_lengths a_letters a_p1 a_p1_bytes : Nat) (n_p1_bytes : Nat) (F : Nat) (f_p1_size : Int32) (f_p1_bytes : Nat → Int32) (f_size : Int32) (f_fault : Int32) (f_inside : Nat → Int32) (f_lengths : Nat → Int32) (f_letters : Nat → Int32) (r_size : Int32) (r_fault : Int32) (r_inside : Nat → Int32) (r_lengths : Nat → Int32) (r_letters : Nat → Int32) (sz : Nat) (hf : Pi_parse F n_p1_bytes f_p1_size f_p1_bytes f_size f_fault f_inside f_lengths f_letters = some (r_size, r_fault, r_inside, r_lengths, r_letters)) : Met l yX4_parse (WS yX4_parse cX4_parse 2 none) RM_Pi_parse (va_Pc [.ref a_this, .ref a_p1] (PM D ct sz (w_Pi_parse ct a_this a_inside a_lengths a_letters a_p1 a_p1_bytes n_p1_bytes f_size f_fault f_inside f_lengths f_letters f_p1_size f_p1_bytes))) (QM D none (w_Pi_parse ct a_this a_inside a_lengths a_letters a_p1 a_p1_bytes n_p1_bytes r_size r_fault r_inside r_lengths r_letters f_p1_size f_p1_bytes) (va_A (w_Pi_parse ct a_this a_inside a_lengths a_letters a_p1 a_p1_bytes n_p1_bytes f_size f_fault f_inside f_lengths f_letters f_p1_size f_p1_bytes) sz)) 0 0 (va_A (w_Pi_parse ct a_this a_inside a_lengths a_letters a_p1 a_p1_bytes n_p1_bytes f_size f_fault f_inside f_lengths f_letters f_p1_size f_p1_bytes) sz) := by
  refine kMetM yn_yX4_parse rfl (Nat.le_of_ble_eq_true rfl) ?_
  intro p e s m args below meth c A C hA hP hD ls hl
  have hl : lv_has ls 2 [(0, .ref a_this), (1, .ref a_p1)] := hl
  have hS : va_S A s.heap s.heap [] := va_S.rf
  obtain ⟨hx, hb, hr, hml, hown, hts, hlk, hK, hN⟩ := id C
  unfold Pi_parse at hf
  refine lv_aload_n hx hb dX4_parse_0 rfl (lv_at hl 0 rfl) ?_
  refine lv_iconst (v := 0) hx hb dX4_parse_1 (by decide) ?_
  refine va_put (ci := 4) (v := .int 0) (ty := .int) (C := RX4) (T := TX4) (N := 5) hx hb hts inX4 tyX4 tyX4_ok nmX4 hown hK hP hD hS 0 rfl rfl 3 (by decide) (hts _ tw_150) (fun _ h9 => h9) rfl (tyX4_ok 3 (by decide)) rfl rfl (Nat.le_of_ble_eq_true rfl) dX4_parse_2 (fun H locs hP hD hS => ?_)
  have hP : va_P D vwCl (w_Pi_parse ct a_this a_inside a_lengths a_letters a_p1 a_p1_bytes n_p1_bytes 0 f_fault f_inside f_lengths f_letters f_p1_size f_p1_bytes) H := hP
  have hD : va_D A (w_Pi_parse ct a_this a_inside a_lengths a_letters a_p1 a_p1_bytes n_p1_bytes 0 f_fault f_inside f_lengths f_letters f_p1_size f_p1_bytes) := hD
  refine lv_aload_n hx hb dX4_parse_5 rfl (lv_at hl 0 rfl) ?_
  refine lv_aload_n hx hb dX4_parse_6 rfl (lv_at hl 0 rfl) ?_
  refine lv_aload_n hx hb dX4_parse_7 rfl (lv_at hl 1 rfl) ?_
  obtain ⟨v8, f_size_8, f_inside_8, f_lengths_8, f_letters_8, hc8, hf⟩ := cb5_some hf
  refine kcMV (q0 := 0) (ci := 4) (As := [.ref a_p1]) (rest := [.ref a_this]) (st1 := [.int v8, .ref a_this]) (wf := (w_Pi_parse ct a_this a_inside a_lengths a_letters a_p1 a_p1_bytes n_p1_bytes f_size_8 f_fault f_inside_8 f_lengths_8 f_letters_8 f_p1_size f_p1_bytes)) C (c_Pi_scan l D ct a_this a_inside a_lengths a_letters a_p1 a_p1_bytes n_p1_bytes f_fault F f_p1_size f_p1_bytes 0 f_inside f_lengths f_letters v8 f_size_8 f_inside_8 f_lengths_8 f_letters_8 _ hc8) ⟨rfl, rfl⟩ yn_yX4_scan tw_416 tw_6 tw_414 ⟨Nat.le_of_ble_eq_true rfl, Nat.le_of_ble_eq_true rfl⟩ ⟨Nat.zero_le _, Nat.zero_le _⟩ hP hD hS hA [0, 1, 2, 3, 4, 5] [] [0, 1, 2, 3, 4, 5] rfl rfl rfl rfl rfl (by decide) rfl rfl rfl rfl rfl rfl hl.1 rfl rfl (Nat.le_of_ble_eq_true rfl) dX4_parse_8 rfl (fun H locs hP hD hS => ?_)
  refine va_put (ci := 4) (v := .int v8) (ty := .int) (C := RX4) (T := TX4) (N := 5) hx hb hts inX4 tyX4 tyX4_ok nmX4 hown hK hP hD hS 0 rfl rfl 4 (by decide) (hts _ tw_151) (fun _ h9 => h9) rfl (tyX4_ok 4 (by decide)) rfl rfl (Nat.le_of_ble_eq_true rfl) dX4_parse_11 (fun H locs hP hD hS => ?_)
  have hP : va_P D vwCl (w_Pi_parse ct a_this a_inside a_lengths a_letters a_p1 a_p1_bytes n_p1_bytes f_size_8 v8 f_inside_8 f_lengths_8 f_letters_8 f_p1_size f_p1_bytes) H := hP
  have hD : va_D A (w_Pi_parse ct a_this a_inside a_lengths a_letters a_p1 a_p1_bytes n_p1_bytes f_size_8 v8 f_inside_8 f_lengths_8 f_letters_8 f_p1_size f_p1_bytes) := hD
  refine lv_aload_n hx hb dX4_parse_14 rfl (lv_at hl 0 rfl) ?_
  refine va_get (ci := 4) (v := .int v8) (C := RX4) (T := TX4) (N := 5) hx hb hts inX4 hown hK hP 0 rfl rfl 4 (by decide) (hts _ tw_151) (fun _ h9 => h9) rfl dX4_parse_15 ?_
  refine lv_iconst (v := (-1)) hx hb dX4_parse_18 (by decide) ?_
  refine lv_icmp_eq (tgt := 27) hx hb dX4_parse_19 (by decide) (fun hc => ?_) (fun hc => ?_)
  · have hf := kpos hc hf
    obtain ⟨e1, e2, e3, e4, e5⟩ := ti5 hf
    subst e1; subst e2; subst e3; subst e4; subst e5
    exact kretMv C hP hD hS dX4_parse_27
  · have hf := kneg hc hf
    refine lv_aload_n hx hb dX4_parse_22 rfl (lv_at hl 0 rfl) ?_
    refine lv_iconst (v := 0) hx hb dX4_parse_23 (by decide) ?_
    refine va_put (ci := 4) (v := .int 0) (ty := .int) (C := RX4) (T := TX4) (N := 5) hx hb hts inX4 tyX4 tyX4_ok nmX4 hown hK hP hD hS 0 rfl rfl 3 (by decide) (hts _ tw_150) (fun _ h9 => h9) rfl (tyX4_ok 3 (by decide)) rfl rfl (Nat.le_of_ble_eq_true rfl) dX4_parse_24 (fun H locs hP hD hS => ?_)
    have hP : va_P D vwCl (w_Pi_parse ct a_this a_inside a_lengths a_letters a_p1 a_p1_bytes n_p1_bytes 0 v8 f_inside_8 f_lengths_8 f_letters_8 f_p1_size f_p1_bytes) H := hP
    have hD : va_D A (w_Pi_parse ct a_this a_inside a_lengths a_letters a_p1 a_p1_bytes n_p1_bytes 0 v8 f_inside_8 f_lengths_8 f_letters_8 f_p1_size f_p1_bytes) := hD
    obtain ⟨e1, e2, e3, e4, e5⟩ := ti5 hf
    subst e1; subst e2; subst e3; subst e4; subst e5
    exact kretMv C hP hD hS dX4_parse_27
def RM_So_parse : Room := { frames := 1, cells := 0, slots := 0, locals := 21 }
set_option maxHeartbeats 4000000 in
set_option maxRecDepth 100000 in
theorem t_So_parse_b74 {p : Program} {l : Launch} {e : Env} {s : State} {m : MethodId} {args : Array Value} {below : List Frame} {meth : Method} {c : Code} {D : va_G} {ct : Nat → ClassId} (C : CX p s m args meth c RX6 cX6_parse 5 none D ct) {A : Nat → Prop} (hA : ∀ q : Nat, s.heap.size ≤ q → A q) (a_this a_letters a_p1 a_p1_bytes : Nat) (n_p1_bytes : Nat) (F : Nat) (f_p1_size : Int32) (f_p1_bytes : Nat → Int32) (r_size : Int32) (r_fault : Int32) (r_letters : Nat → Int32) : ∀ (x2 : Int32) (f_size : Int32) (f_fault : Int32) (f_letters : Nat → Int32), So_parse_b74 F n_p1_bytes f_p1_size f_p1_bytes x2 f_size f_fault f_letters = some (r_size, r_fault, r_letters) → ∀ (H : Heap) (locs : List Loc), va_P D vwCl (w_So_parse ct a_this a_letters a_p1 a_p1_bytes n_p1_bytes f_size f_fault f_letters f_p1_size f_p1_bytes) H → va_D A (w_So_parse ct a_this a_letters a_p1 a_p1_bytes n_p1_bytes f_size f_fault f_letters f_p1_size f_p1_bytes) → va_S A s.heap H locs → ∀ ls : Array Slot, lv_has ls 5 [(0, .ref a_this), (2, .int x2)] → W p l e RM_So_parse s m args below meth c H locs 0 0 (MQ below (QM D none (w_So_parse ct a_this a_letters a_p1 a_p1_bytes n_p1_bytes r_size r_fault r_letters f_p1_size f_p1_bytes) A) args s 0 0 A) (F0 m 74 ls []) := by
  obtain ⟨hx, hb, hr, hml, hown, hts, hlk, hK, hN⟩ := id C
  intro x2 f_size f_fault f_letters hf H locs hP hD hS ls hl
  unfold So_parse_b74 at hf
  refine lv_aload_n hx hb dX6_parse_74 rfl (lv_at hl 0 rfl) ?_
  refine lv_iload_n hx hb dX6_parse_75 rfl (lv_at hl 1 rfl) ?_
  refine va_put (ci := 6) (v := .int x2) (ty := .int) (C := RX6) (T := TX6) (N := 3) hx hb hts inX6 tyX6 tyX6_ok nmX6 hown hK hP hD hS 0 rfl rfl 1 (by decide) (hts _ tw_171) (fun _ h9 => h9) rfl (tyX6_ok 1 (by decide)) rfl rfl (Nat.le_of_ble_eq_true rfl) dX6_parse_76 (fun H locs hP hD hS => ?_)
  have hP : va_P D vwCl (w_So_parse ct a_this a_letters a_p1 a_p1_bytes n_p1_bytes x2 f_fault f_letters f_p1_size f_p1_bytes) H := hP
  have hD : va_D A (w_So_parse ct a_this a_letters a_p1 a_p1_bytes n_p1_bytes x2 f_fault f_letters f_p1_size f_p1_bytes) := hD
  obtain ⟨e1, e2, e3⟩ := ti3 hf
  subst e1; subst e2; subst e3
  exact kretMv C hP hD hS dX6_parse_79
set_option maxHeartbeats 4000000 in
set_option maxRecDepth 100000 in
theorem t_So_parse_b68 {p : Program} {l : Launch} {e : Env} {s : State} {m : MethodId} {args : Array Value} {below : List Frame} {meth : Method} {c : Code} {D : va_G} {ct : Nat → ClassId} (C : CX p s m args meth c RX6 cX6_parse 5 none D ct) {A : Nat → Prop} (hA : ∀ q : Nat, s.heap.size ≤ q → A q) (a_this a_letters a_p1 a_p1_bytes : Nat) (n_p1_bytes : Nat) (F : Nat) (f_p1_size : Int32) (f_p1_bytes : Nat → Int32) (r_size : Int32) (r_fault : Int32) (r_letters : Nat → Int32) (rec22 : Int32 → Int32 → Int32 → Int32 → (Nat → Int32) → Option (Int32 × Int32 × (Nat → Int32))) (hr22 : ∀ (x2 : Int32) (x3 : Int32) (f_size : Int32) (f_fault : Int32) (f_letters : Nat → Int32), rec22 x2 x3 f_size f_fault f_letters = some (r_size, r_fault, r_letters) → ∀ (H : Heap) (locs : List Loc), va_P D vwCl (w_So_parse ct a_this a_letters a_p1 a_p1_bytes n_p1_bytes f_size f_fault f_letters f_p1_size f_p1_bytes) H → va_D A (w_So_parse ct a_this a_letters a_p1 a_p1_bytes n_p1_bytes f_size f_fault f_letters f_p1_size f_p1_bytes) → va_S A s.heap H locs → ∀ ls : Array Slot, lv_has ls 5 [(0, .ref a_this), (1, .ref a_p1), (2, .int x2), (3, .int x3)] → W p l e RM_So_parse s m args below meth c H locs 0 0 (MQ below (QM D none (w_So_parse ct a_this a_letters a_p1 a_p1_bytes n_p1_bytes r_size r_fault r_letters f_p1_size f_p1_bytes) A) args s 0 0 A) (F0 m 22 ls [])) : ∀ (x2 : Int32) (x3 : Int32) (f_size : Int32) (f_fault : Int32) (f_letters : Nat → Int32), So_parse_b68 F n_p1_bytes f_p1_size f_p1_bytes rec22 x2 x3 f_size f_fault f_letters = some (r_size, r_fault, r_letters) → ∀ (H : Heap) (locs : List Loc), va_P D vwCl (w_So_parse ct a_this a_letters a_p1 a_p1_bytes n_p1_bytes f_size f_fault f_letters f_p1_size f_p1_bytes) H → va_D A (w_So_parse ct a_this a_letters a_p1 a_p1_bytes n_p1_bytes f_size f_fault f_letters f_p1_size f_p1_bytes) → va_S A s.heap H locs → ∀ ls : Array Slot, lv_has ls 5 [(0, .ref a_this), (1, .ref a_p1), (2, .int x2), (3, .int x3)] → W p l e RM_So_parse s m args below meth c H locs 0 0 (MQ below (QM D none (w_So_parse ct a_this a_letters a_p1 a_p1_bytes n_p1_bytes r_size r_fault r_letters f_p1_size f_p1_bytes) A) args s 0 0 A) (F0 m 68 ls []) := by
  obtain ⟨hx, hb, hr, hml, hown, hts, hlk, hK, hN⟩ := id C
  intro x2 x3 f_size f_fault f_letters hf H locs hP hD hS ls hl
  unfold So_parse_b68 at hf
  refine lv_iinc (v := x3 + 1) (lv' := [(3, .int (x3 + 1)), (0, .ref a_this), (1, .ref a_p1), (2, .int x2)]) hx hb dX6_parse_68 hl (k := 3) rfl rfl (by decide) rfl (fun ls hl => ?_)
  refine lv_goto (tgt := 22) hx hb dX6_parse_71 (by decide) ?_
  exact hr22 x2 (x3 + 1) f_size f_fault f_letters hf _ _ hP hD hS _ (lv_sub hl [1, 2, 3, 0] rfl)
set_option maxHeartbeats 4000000 in
set_option maxRecDepth 100000 in
theorem t_So_parse_b62 {p : Program} {l : Launch} {e : Env} {s : State} {m : MethodId} {args : Array Value} {below : List Frame} {meth : Method} {c : Code} {D : va_G} {ct : Nat → ClassId} (C : CX p s m args meth c RX6 cX6_parse 5 none D ct) {A : Nat → Prop} (hA : ∀ q : Nat, s.heap.size ≤ q → A q) (a_this a_letters a_p1 a_p1_bytes : Nat) (n_p1_bytes : Nat) (F : Nat) (f_p1_size : Int32) (f_p1_bytes : Nat → Int32) (r_size : Int32) (r_fault : Int32) (r_letters : Nat → Int32) : ∀ (x3 : Int32) (f_size : Int32) (f_fault : Int32) (f_letters : Nat → Int32), So_parse_b62 F n_p1_bytes f_p1_size f_p1_bytes x3 f_size f_fault f_letters = some (r_size, r_fault, r_letters) → ∀ (H : Heap) (locs : List Loc), va_P D vwCl (w_So_parse ct a_this a_letters a_p1 a_p1_bytes n_p1_bytes f_size f_fault f_letters f_p1_size f_p1_bytes) H → va_D A (w_So_parse ct a_this a_letters a_p1 a_p1_bytes n_p1_bytes f_size f_fault f_letters f_p1_size f_p1_bytes) → va_S A s.heap H locs → ∀ ls : Array Slot, lv_has ls 5 [(0, .ref a_this), (3, .int x3)] → W p l e RM_So_parse s m args below meth c H locs 0 0 (MQ below (QM D none (w_So_parse ct a_this a_letters a_p1 a_p1_bytes n_p1_bytes r_size r_fault r_letters f_p1_size f_p1_bytes) A) args s 0 0 A) (F0 m 62 ls []) := by
  obtain ⟨hx, hb, hr, hml, hown, hts, hlk, hK, hN⟩ := id C
  intro x3 f_size f_fault f_letters hf H locs hP hD hS ls hl
  unfold So_parse_b62 at hf
  refine lv_aload_n hx hb dX6_parse_62 rfl (lv_at hl 0 rfl) ?_
  refine lv_iload_n hx hb dX6_parse_63 rfl (lv_at hl 1 rfl) ?_
  refine va_put (ci := 6) (v := .int x3) (ty := .int) (C := RX6) (T := TX6) (N := 3) hx hb hts inX6 tyX6 tyX6_ok nmX6 hown hK hP hD hS 0 rfl rfl 2 (by decide) (hts _ tw_172) (fun _ h9 => h9) rfl (tyX6_ok 2 (by decide)) rfl rfl (Nat.le_of_ble_eq_true rfl) dX6_parse_64 (fun H locs hP hD hS => ?_)
  have hP : va_P D vwCl (w_So_parse ct a_this a_letters a_p1 a_p1_bytes n_p1_bytes f_size x3 f_letters f_p1_size f_p1_bytes) H := hP
  have hD : va_D A (w_So_parse ct a_this a_letters a_p1 a_p1_bytes n_p1_bytes f_size x3 f_letters f_p1_size f_p1_bytes) := hD
  obtain ⟨e1, e2, e3⟩ := ti3 hf
  subst e1; subst e2; subst e3
  exact kretMv C hP hD hS dX6_parse_67
set_option maxHeartbeats 4000000 in
set_option maxRecDepth 100000 in
theorem t_So_parse_b22 {p : Program} {l : Launch} {e : Env} {s : State} {m : MethodId} {args : Array Value} {below : List Frame} {meth : Method} {c : Code} {D : va_G} {ct : Nat → ClassId} (C : CX p s m args meth c RX6 cX6_parse 5 none D ct) {A : Nat → Prop} (hA : ∀ q : Nat, s.heap.size ≤ q → A q) (a_this a_letters a_p1 a_p1_bytes : Nat) (n_p1_bytes : Nat) (F : Nat) (f_p1_size : Int32) (f_p1_bytes : Nat → Int32) (r_size : Int32) (r_fault : Int32) (r_letters : Nat → Int32) (rec22 : Int32 → Int32 → Int32 → Int32 → (Nat → Int32) → Option (Int32 × Int32 × (Nat → Int32))) (hr22 : ∀ (x2 : Int32) (x3 : Int32) (f_size : Int32) (f_fault : Int32) (f_letters : Nat → Int32), rec22 x2 x3 f_size f_fault f_letters = some (r_size, r_fault, r_letters) → ∀ (H : Heap) (locs : List Loc), va_P D vwCl (w_So_parse ct a_this a_letters a_p1 a_p1_bytes n_p1_bytes f_size f_fault f_letters f_p1_size f_p1_bytes) H → va_D A (w_So_parse ct a_this a_letters a_p1 a_p1_bytes n_p1_bytes f_size f_fault f_letters f_p1_size f_p1_bytes) → va_S A s.heap H locs → ∀ ls : Array Slot, lv_has ls 5 [(0, .ref a_this), (1, .ref a_p1), (2, .int x2), (3, .int x3)] → W p l e RM_So_parse s m args below meth c H locs 0 0 (MQ below (QM D none (w_So_parse ct a_this a_letters a_p1 a_p1_bytes n_p1_bytes r_size r_fault r_letters f_p1_size f_p1_bytes) A) args s 0 0 A) (F0 m 22 ls [])) : ∀ (x2 : Int32) (x3 : Int32) (f_size : Int32) (f_fault : Int32) (f_letters : Nat → Int32), So_parse_b22 F n_p1_bytes f_p1_size f_p1_bytes rec22 x2 x3 f_size f_fault f_letters = some (r_size, r_fault, r_letters) → ∀ (H : Heap) (locs : List Loc), va_P D vwCl (w_So_parse ct a_this a_letters a_p1 a_p1_bytes n_p1_bytes f_size f_fault f_letters f_p1_size f_p1_bytes) H → va_D A (w_So_parse ct a_this a_letters a_p1 a_p1_bytes n_p1_bytes f_size f_fault f_letters f_p1_size f_p1_bytes) → va_S A s.heap H locs → ∀ ls : Array Slot, lv_has ls 5 [(0, .ref a_this), (1, .ref a_p1), (2, .int x2), (3, .int x3)] → W p l e RM_So_parse s m args below meth c H locs 0 0 (MQ below (QM D none (w_So_parse ct a_this a_letters a_p1 a_p1_bytes n_p1_bytes r_size r_fault r_letters f_p1_size f_p1_bytes) A) args s 0 0 A) (F0 m 22 ls []) := by
  obtain ⟨hx, hb, hr, hml, hown, hts, hlk, hK, hN⟩ := id C
  intro x2 x3 f_size f_fault f_letters hf H locs hP hD hS ls hl
  unfold So_parse_b22 at hf
  refine lv_iload_n hx hb dX6_parse_22 rfl (lv_at hl 3 rfl) ?_
  refine lv_iload_n hx hb dX6_parse_23 rfl (lv_at hl 2 rfl) ?_
  refine lv_icmp_ge (tgt := 74) hx hb dX6_parse_24 (by decide) (fun hc => ?_) (fun hc => ?_)
  · have hf := kpos hc hf
    exact t_So_parse_b74 C hA a_this a_letters a_p1 a_p1_bytes n_p1_bytes F f_p1_size f_p1_bytes r_size r_fault r_letters x2 f_size f_fault f_letters hf _ _ hP hD hS _ (lv_sub hl [0, 2] rfl)
  · have hf := kneg hc hf
    refine lv_aload_n hx hb dX6_parse_27 rfl (lv_at hl 1 rfl) ?_
    refine lv_iload_n hx hb dX6_parse_28 rfl (lv_at hl 3 rfl) ?_
    obtain ⟨v29, hc29, hf⟩ := cb1_some hf
    refine kcRV (q0 := 2) (ci := 8) (As := [.int x3]) (rest := []) (st1 := [.int v29]) C (c_Te_byteAt l D ct a_p1 a_p1_bytes n_p1_bytes f_p1_size f_p1_bytes x3 v29 hc29) ⟨rfl, rfl⟩ yn_yX8_byteAt tw_385 tw_386 tw_433 ⟨Nat.le_of_ble_eq_true rfl, Nat.le_of_ble_eq_true rfl⟩ ⟨Nat.zero_le _, Nat.zero_le _⟩ hP [2, 3] rfl rfl rfl rfl hl.1 rfl rfl (Nat.le_of_ble_eq_true rfl) dX6_parse_29 rfl ?_
    refine lv_istore (lv' := [(4, .int v29), (0, .ref a_this), (1, .ref a_p1), (2, .int x2), (3, .int x3)]) hx hb dX6_parse_32 hl (by decide) rfl (fun ls hl => ?_)
    refine lv_aload_n hx hb dX6_parse_34 rfl (lv_at hl 1 rfl) ?_
    refine va_get (ci := 6) (v := .ref a_letters) (C := RX6) (T := TX6) (N := 3) hx hb hts inX6 hown hK hP 0 rfl rfl 0 (by decide) (hts _ tw_170) (fun _ h9 => h9) rfl dX6_parse_35 ?_
    refine lv_iload_n hx hb dX6_parse_38 rfl (lv_at hl 4 rfl) ?_
    refine lv_iload hx hb dX6_parse_39 (lv_at hl 0 rfl) ?_
    obtain ⟨v41, hc41, hf⟩ := cb1_some hf
    refine kcRSN (host := "NamedDwarf") (As := [.int v29]) (rest := [.int x3, .ref a_letters]) (st1 := [.int v41, .int x3, .ref a_letters]) C (c_ND_letterOf l D ct v29 v41 hc41) ⟨rfl, rfl⟩ yn_yX10_letterOf tw_393 (List.mem_of_getElem? (i := 9) rfl) ⟨Nat.le_of_ble_eq_true rfl, Nat.le_of_ble_eq_true rfl⟩ ⟨Nat.zero_le _, Nat.zero_le _⟩ hP [] rfl hl.1 rfl rfl (Nat.le_of_ble_eq_true rfl) dX6_parse_41 rfl ?_
    obtain ⟨hin, f_letters_44, ev44, hf⟩ := wr_ex hf
    refine kiast hx hb hK hP hD hS 1 0 rfl rfl hin ev44 dX6_parse_44 (fun H locs hP hD hS => ?_)
    have hP : va_P D vwCl (w_So_parse ct a_this a_letters a_p1 a_p1_bytes n_p1_bytes f_size f_fault f_letters_44 f_p1_size f_p1_bytes) H := hP
    have hD : va_D A (w_So_parse ct a_this a_letters a_p1 a_p1_bytes n_p1_bytes f_size f_fault f_letters_44 f_p1_size f_p1_bytes) := hD
    refine lv_aload_n hx hb dX6_parse_45 rfl (lv_at hl 1 rfl) ?_
    refine va_get (ci := 6) (v := .ref a_letters) (C := RX6) (T := TX6) (N := 3) hx hb hts inX6 hown hK hP 0 rfl rfl 0 (by decide) (hts _ tw_170) (fun _ h9 => h9) rfl dX6_parse_46 ?_
    refine lv_iload_n hx hb dX6_parse_49 rfl (lv_at hl 4 rfl) ?_
    obtain ⟨hin, hf⟩ := rd_some hf
    generalize ev50 : f_letters_44 (Int32.toNatClampNeg x3) = v50 at hf
    refine kiald hx hb hK hP 1 0 rfl rfl hin ev50 dX6_parse_50 ?_
    refine lv_iconst (v := (-1)) hx hb dX6_parse_51 (by decide) ?_
    refine lv_icmp_ne (tgt := 68) hx hb dX6_parse_52 (by decide) (fun hc => ?_) (fun hc => ?_)
    · have hf := kneg hc hf
      exact t_So_parse_b68 C hA a_this a_letters a_p1 a_p1_bytes n_p1_bytes F f_p1_size f_p1_bytes r_size r_fault r_letters rec22 hr22 x2 x3 f_size f_fault f_letters_44 hf _ _ hP hD hS _ (lv_sub hl [1, 2, 3, 4] rfl)
    · have hf := kpos hc hf
      refine lv_iload hx hb dX6_parse_55 (lv_at hl 0 rfl) ?_
      refine lv_bipush (v := 46) hx hb dX6_parse_57 (by decide) ?_
      refine lv_icmp_eq (tgt := 68) hx hb dX6_parse_59 (by decide) (fun hc => ?_) (fun hc => ?_)
      · have hf := kpos hc hf
        exact t_So_parse_b68 C hA a_this a_letters a_p1 a_p1_bytes n_p1_bytes F f_p1_size f_p1_bytes r_size r_fault r_letters rec22 hr22 x2 x3 f_size f_fault f_letters_44 hf _ _ hP hD hS _ (lv_sub hl [1, 2, 3, 4] rfl)
      · have hf := kneg hc hf
        exact t_So_parse_b62 C hA a_this a_letters a_p1 a_p1_bytes n_p1_bytes F f_p1_size f_p1_bytes r_size r_fault r_letters x3 f_size f_fault f_letters_44 hf _ _ hP hD hS _ (lv_sub hl [1, 4] rfl)
set_option maxHeartbeats 4000000 in
set_option maxRecDepth 100000 in
theorem t_So_parse_l22 {p : Program} {l : Launch} {e : Env} {s : State} {m : MethodId} {args : Array Value} {below : List Frame} {meth : Method} {c : Code} {D : va_G} {ct : Nat → ClassId} (C : CX p s m args meth c RX6 cX6_parse 5 none D ct) {A : Nat → Prop} (hA : ∀ q : Nat, s.heap.size ≤ q → A q) (a_this a_letters a_p1 a_p1_bytes : Nat) (n_p1_bytes : Nat) (F : Nat) (f_p1_size : Int32) (f_p1_bytes : Nat → Int32) (r_size : Int32) (r_fault : Int32) (r_letters : Nat → Int32) : ∀ (n : Nat) (x2 : Int32) (x3 : Int32) (f_size : Int32) (f_fault : Int32) (f_letters : Nat → Int32), So_parse_l22 F n_p1_bytes f_p1_size f_p1_bytes n x2 x3 f_size f_fault f_letters = some (r_size, r_fault, r_letters) → ∀ (H : Heap) (locs : List Loc), va_P D vwCl (w_So_parse ct a_this a_letters a_p1 a_p1_bytes n_p1_bytes f_size f_fault f_letters f_p1_size f_p1_bytes) H → va_D A (w_So_parse ct a_this a_letters a_p1 a_p1_bytes n_p1_bytes f_size f_fault f_letters f_p1_size f_p1_bytes) → va_S A s.heap H locs → ∀ ls : Array Slot, lv_has ls 5 [(0, .ref a_this), (1, .ref a_p1), (2, .int x2), (3, .int x3)] → W p l e RM_So_parse s m args below meth c H locs 0 0 (MQ below (QM D none (w_So_parse ct a_this a_letters a_p1 a_p1_bytes n_p1_bytes r_size r_fault r_letters f_p1_size f_p1_bytes) A) args s 0 0 A) (F0 m 22 ls []) := by
  intro n
  induction n with
  | zero =>
    intro x2 x3 f_size f_fault f_letters hf
    exact absurd hf (by simp [So_parse_l22])
  | succ n ih =>
    intro x2 x3 f_size f_fault f_letters hf
    exact t_So_parse_b22 C hA a_this a_letters a_p1 a_p1_bytes n_p1_bytes F f_p1_size f_p1_bytes r_size r_fault r_letters (So_parse_l22 F n_p1_bytes f_p1_size f_p1_bytes n) ih x2 x3 f_size f_fault f_letters hf
set_option maxHeartbeats 4000000 in
set_option maxRecDepth 100000 in
theorem c_So_parse (l : Launch) (D : va_G) (ct : Nat → ClassId) (a_this a_letters a_p1 a_p1_bytes : Nat) (n_p1_bytes : Nat) (F : Nat) (f_p1_size : Int32) (f_p1_bytes : Nat → Int32) (f_size : Int32) (f_fault : Int32) (f_letters : Nat → Int32) (r_size : Int32) (r_fault : Int32) (r_letters : Nat → Int32) (sz : Nat) (hf : So_parse F n_p1_bytes f_p1_size f_p1_bytes f_size f_fault f_letters = some (r_size, r_fault, r_letters)) : Met l yX6_parse (WS yX6_parse cX6_parse 5 none) RM_So_parse (va_Pc [.ref a_this, .ref a_p1] (PM D ct sz (w_So_parse ct a_this a_letters a_p1 a_p1_bytes n_p1_bytes f_size f_fault f_letters f_p1_size f_p1_bytes))) (QM D none (w_So_parse ct a_this a_letters a_p1 a_p1_bytes n_p1_bytes r_size r_fault r_letters f_p1_size f_p1_bytes) (va_A (w_So_parse ct a_this a_letters a_p1 a_p1_bytes n_p1_bytes f_size f_fault f_letters f_p1_size f_p1_bytes) sz)) 0 0 (va_A (w_So_parse ct a_this a_letters a_p1 a_p1_bytes n_p1_bytes f_size f_fault f_letters f_p1_size f_p1_bytes) sz) := by
  refine kMetM yn_yX6_parse rfl (Nat.le_of_ble_eq_true rfl) ?_
  intro p e s m args below meth c A C hA hP hD ls hl
  have hl : lv_has ls 5 [(0, .ref a_this), (1, .ref a_p1)] := hl
  have hS : va_S A s.heap s.heap [] := va_S.rf
  obtain ⟨hx, hb, hr, hml, hown, hts, hlk, hK, hN⟩ := id C
  unfold So_parse at hf
  refine lv_aload_n hx hb dX6_parse_0 rfl (lv_at hl 0 rfl) ?_
  refine lv_iconst (v := 0) hx hb dX6_parse_1 (by decide) ?_
  refine va_put (ci := 6) (v := .int 0) (ty := .int) (C := RX6) (T := TX6) (N := 3) hx hb hts inX6 tyX6 tyX6_ok nmX6 hown hK hP hD hS 0 rfl rfl 1 (by decide) (hts _ tw_171) (fun _ h9 => h9) rfl (tyX6_ok 1 (by decide)) rfl rfl (Nat.le_of_ble_eq_true rfl) dX6_parse_2 (fun H locs hP hD hS => ?_)
  have hP : va_P D vwCl (w_So_parse ct a_this a_letters a_p1 a_p1_bytes n_p1_bytes 0 f_fault f_letters f_p1_size f_p1_bytes) H := hP
  have hD : va_D A (w_So_parse ct a_this a_letters a_p1 a_p1_bytes n_p1_bytes 0 f_fault f_letters f_p1_size f_p1_bytes) := hD
  refine lv_aload_n hx hb dX6_parse_5 rfl (lv_at hl 0 rfl) ?_
  refine lv_iconst (v := (-1)) hx hb dX6_parse_6 (by decide) ?_
  refine va_put (ci := 6) (v := .int (-1)) (ty := .int) (C := RX6) (T := TX6) (N := 3) hx hb hts inX6 tyX6 tyX6_ok nmX6 hown hK hP hD hS 0 rfl rfl 2 (by decide) (hts _ tw_172) (fun _ h9 => h9) rfl (tyX6_ok 2 (by decide)) rfl rfl (Nat.le_of_ble_eq_true rfl) dX6_parse_7 (fun H locs hP hD hS => ?_)
  have hP : va_P D vwCl (w_So_parse ct a_this a_letters a_p1 a_p1_bytes n_p1_bytes 0 (-1) f_letters f_p1_size f_p1_bytes) H := hP
  have hD : va_D A (w_So_parse ct a_this a_letters a_p1 a_p1_bytes n_p1_bytes 0 (-1) f_letters f_p1_size f_p1_bytes) := hD
  refine lv_aload_n hx hb dX6_parse_10 rfl (lv_at hl 1 rfl) ?_
  obtain ⟨v11, hc11, hf⟩ := cb1_some hf
  refine kcRV (q0 := 2) (ci := 8) (As := []) (rest := []) (st1 := [.int v11]) C (c_Te_size l D ct a_p1 a_p1_bytes f_p1_size v11 hc11) ⟨rfl, rfl⟩ yn_yX8_size tw_348 tw_349 tw_429 ⟨Nat.le_of_ble_eq_true rfl, Nat.le_of_ble_eq_true rfl⟩ ⟨Nat.zero_le _, Nat.zero_le _⟩ hP [2] rfl rfl rfl rfl hl.1 rfl rfl (Nat.le_of_ble_eq_true rfl) dX6_parse_11 rfl ?_
  refine lv_bipush (v := 6) hx hb dX6_parse_14 (by decide) ?_
  refine kmmin hx hb (hml.trans hl.1.symm) hown (hts _ tw_430) (hts _ tw_431) (hts _ tw_73) (hts _ tw_432) (Nat.le_of_ble_eq_true rfl) (Nat.le_of_ble_eq_true rfl) (Nat.zero_le _) (Nat.zero_le _) dX6_parse_16 ?_
  refine lv_istore_n (lv' := [(2, .int (mnI v11 6)), (0, .ref a_this), (1, .ref a_p1)]) hx hb dX6_parse_19 rfl hl (by decide) rfl (fun ls hl => ?_)
  refine lv_iconst (v := 0) hx hb dX6_parse_20 (by decide) ?_
  refine lv_istore_n (lv' := [(3, .int 0), (2, .int (mnI v11 6)), (0, .ref a_this), (1, .ref a_p1)]) hx hb dX6_parse_21 rfl hl (by decide) rfl (fun ls hl => ?_)
  exact t_So_parse_l22 C hA a_this a_letters a_p1 a_p1_bytes n_p1_bytes F f_p1_size f_p1_bytes r_size r_fault r_letters F (mnI v11 6) 0 0 (-1) f_letters hf _ _ hP hD hS _ (lv_sub hl [2, 3, 1, 0] rfl)
def RM_Pi_size : Room := { frames := 0, cells := 0, slots := 0, locals := 0 }
set_option maxHeartbeats 4000000 in
set_option maxRecDepth 100000 in
theorem c_Pi_size (l : Launch) (D : va_G) (ct : Nat → ClassId) (a_this a_inside a_lengths a_letters : Nat) (f_fault : Int32) (f_size : Int32) (r : Int32) (hf : Pi_size f_size = some r) : Met l yX4_size (WS yX4_size cX4_size 1 (some .int)) RM_Pi_size (va_Pc [.ref a_this] (PR D ct (w_Pi_size ct a_this a_inside a_lengths a_letters f_size f_fault))) (QR (some (.int r))) 0 0 (fun _ => False) := by
  refine kMetR yn_yX4_size rfl (Nat.le_of_ble_eq_true rfl) ?_
  intro p e s m args below meth c C hP ls hl
  have hl : lv_has ls 1 [(0, .ref a_this)] := hl
  obtain ⟨hx, hb, hr, hml, hown, hts, hlk, hK, hN⟩ := id C
  unfold Pi_size at hf
  refine lv_aload_n hx hb dX4_size_0 rfl (lv_at hl 0 rfl) ?_
  refine va_get (ci := 4) (v := .int f_size) (C := RX4) (T := TX4) (N := 5) hx hb hts inX4 hown hK hP 0 rfl rfl 3 (by decide) (hts _ tw_150) (fun _ h9 => h9) rfl dX4_size_1 ?_
  have e1 := Option.some.inj hf
  subst e1
  exact kretR C dX4_size_4
def RM_Na_size : Room := { frames := 0, cells := 0, slots := 0, locals := 0 }
set_option maxHeartbeats 4000000 in
set_option maxRecDepth 100000 in
theorem c_Na_size (l : Launch) (D : va_G) (ct : Nat → ClassId) (a_this a_odds a_lengths a_letters a_alike a_oddsTogether : Nat) (f_fault : Int32) (f_size : Int32) (r : Int32) (hf : Na_size f_size = some r) : Met l yX3_size (WS yX3_size cX3_size 1 (some .int)) RM_Na_size (va_Pc [.ref a_this] (PR D ct (w_Na_size ct a_this a_odds a_lengths a_letters a_alike a_oddsTogether f_size f_fault))) (QR (some (.int r))) 0 0 (fun _ => False) := by
  refine kMetR yn_yX3_size rfl (Nat.le_of_ble_eq_true rfl) ?_
  intro p e s m args below meth c C hP ls hl
  have hl : lv_has ls 1 [(0, .ref a_this)] := hl
  obtain ⟨hx, hb, hr, hml, hown, hts, hlk, hK, hN⟩ := id C
  unfold Na_size at hf
  refine lv_aload_n hx hb dX3_size_0 rfl (lv_at hl 0 rfl) ?_
  refine va_get (ci := 3) (v := .int f_size) (C := RX3) (T := TX3) (N := 7) hx hb hts inX3 hown hK hP 0 rfl rfl 5 (by decide) (hts _ tw_124) (fun _ h9 => h9) rfl dX3_size_1 ?_
  have e1 := Option.some.inj hf
  subst e1
  exact kretR C dX3_size_4
def RM_Na_lengthOf : Room := { frames := 0, cells := 0, slots := 0, locals := 0 }
set_option maxHeartbeats 4000000 in
set_option maxRecDepth 100000 in
theorem c_Na_lengthOf (l : Launch) (D : va_G) (ct : Nat → ClassId) (a_this a_odds a_lengths a_letters a_alike a_oddsTogether : Nat) (f_fault : Int32) (f_size : Int32) (f_lengths : Nat → Int32) (x1 : Int32) (r : Int32) (hf : Na_lengthOf f_size f_lengths x1 = some r) : Met l yX3_lengthOf (WS yX3_lengthOf cX3_lengthOf 2 (some .int)) RM_Na_lengthOf (va_Pc [.ref a_this, .int x1] (PR D ct (w_Na_lengthOf ct a_this a_odds a_lengths a_letters a_alike a_oddsTogether f_size f_fault f_lengths))) (QR (some (.int r))) 0 0 (fun _ => False) := by
  refine kMetR yn_yX3_lengthOf rfl (Nat.le_of_ble_eq_true rfl) ?_
  intro p e s m args below meth c C hP ls hl
  have hl : lv_has ls 2 [(0, .ref a_this), (1, .int x1)] := hl
  obtain ⟨hx, hb, hr, hml, hown, hts, hlk, hK, hN⟩ := id C
  unfold Na_lengthOf at hf
  refine lv_iload_n hx hb dX3_lengthOf_0 rfl (lv_at hl 1 rfl) ?_
  refine lv_if_lt (tgt := 21) hx hb dX3_lengthOf_1 (by decide) (fun hc => ?_) (fun hc => ?_)
  · have hf := kpos hc hf
    refine lv_iconst (v := 0) hx hb dX3_lengthOf_21 (by decide) ?_
    have e1 := Option.some.inj hf
    subst e1
    exact kretR C dX3_lengthOf_22
  · have hf := kneg hc hf
    refine lv_iload_n hx hb dX3_lengthOf_4 rfl (lv_at hl 1 rfl) ?_
    refine lv_aload_n hx hb dX3_lengthOf_5 rfl (lv_at hl 0 rfl) ?_
    refine va_get (ci := 3) (v := .int f_size) (C := RX3) (T := TX3) (N := 7) hx hb hts inX3 hown hK hP 0 rfl rfl 5 (by decide) (hts _ tw_124) (fun _ h9 => h9) rfl dX3_lengthOf_6 ?_
    refine lv_icmp_ge (tgt := 21) hx hb dX3_lengthOf_9 (by decide) (fun hc => ?_) (fun hc => ?_)
    · have hf := kpos hc hf
      refine lv_iconst (v := 0) hx hb dX3_lengthOf_21 (by decide) ?_
      have e1 := Option.some.inj hf
      subst e1
      exact kretR C dX3_lengthOf_22
    · have hf := kneg hc hf
      refine lv_aload_n hx hb dX3_lengthOf_12 rfl (lv_at hl 0 rfl) ?_
      refine va_get (ci := 3) (v := .ref a_lengths) (C := RX3) (T := TX3) (N := 7) hx hb hts inX3 hown hK hP 0 rfl rfl 1 (by decide) (hts _ tw_120) (fun _ h9 => h9) rfl dX3_lengthOf_13 ?_
      refine lv_iload_n hx hb dX3_lengthOf_16 rfl (lv_at hl 1 rfl) ?_
      obtain ⟨hin, hf⟩ := rd_some hf
      generalize ev17 : f_lengths (Int32.toNatClampNeg x1) = v17 at hf
      refine kiald hx hb hK hP 1 0 rfl rfl hin ev17 dX3_lengthOf_17 ?_
      refine lv_goto (tgt := 22) hx hb dX3_lengthOf_18 (by decide) ?_
      have e1 := Option.some.inj hf
      subst e1
      exact kretR C dX3_lengthOf_22
def RM_So_isTrueOf : Room := { frames := 1, cells := 0, slots := 0, locals := 22 }
set_option maxHeartbeats 4000000 in
set_option maxRecDepth 100000 in
theorem t_So_isTrueOf_b60 {p : Program} {l : Launch} {e : Env} {s : State} {m : MethodId} {args : Array Value} {below : List Frame} {meth : Method} {c : Code} {D : va_G} {ct : Nat → ClassId} (C : CX p s m args meth c RX6 cX6_isTrueOf 4 (some .boolean) D ct) (a_this a_letters a_p1 a_p1_odds a_p1_lengths a_p1_letters a_p1_alike a_p1_oddsTogether : Nat) (f_fault : Int32) (f_p1_fault : Int32) (F : Nat) (f_size : Int32) (f_letters : Nat → Int32) (f_p1_size : Int32) (f_p1_lengths : Nat → Int32) (f_p1_letters : Nat → Int32) (x2 : Int32) (r : Int32) (rec25 : Int32 → Option Int32) (hr25 : ∀ (x3 : Int32), rec25 x3 = some r → va_P D vwCl (w_So_isTrueOf ct a_this a_letters a_p1 a_p1_odds a_p1_lengths a_p1_letters a_p1_alike a_p1_oddsTogether f_size f_fault f_letters f_p1_size f_p1_fault f_p1_lengths f_p1_letters) s.heap → ∀ ls : Array Slot, lv_has ls 4 [(0, .ref a_this), (1, .ref a_p1), (2, .int x2), (3, .int x3)] → W p l e RM_So_isTrueOf s m args below meth c s.heap [] 0 0 (MQ below (QR (some (.int r))) args s 0 0 (fun _ => False)) (F0 m 25 ls [])) : ∀ (x3 : Int32), So_isTrueOf_b60 F f_size f_letters f_p1_size f_p1_lengths f_p1_letters x2 rec25 x3 = some r → va_P D vwCl (w_So_isTrueOf ct a_this a_letters a_p1 a_p1_odds a_p1_lengths a_p1_letters a_p1_alike a_p1_oddsTogether f_size f_fault f_letters f_p1_size f_p1_fault f_p1_lengths f_p1_letters) s.heap → ∀ ls : Array Slot, lv_has ls 4 [(0, .ref a_this), (1, .ref a_p1), (2, .int x2), (3, .int x3)] → W p l e RM_So_isTrueOf s m args below meth c s.heap [] 0 0 (MQ below (QR (some (.int r))) args s 0 0 (fun _ => False)) (F0 m 60 ls []) := by
  obtain ⟨hx, hb, hr, hml, hown, hts, hlk, hK, hN⟩ := id C
  intro x3 hf hP ls hl
  unfold So_isTrueOf_b60 at hf
  refine lv_iinc (v := x3 + 1) (lv' := [(3, .int (x3 + 1)), (0, .ref a_this), (1, .ref a_p1), (2, .int x2)]) hx hb dX6_isTrueOf_60 hl (k := 3) rfl rfl (by decide) rfl (fun ls hl => ?_)
  refine lv_goto (tgt := 25) hx hb dX6_isTrueOf_63 (by decide) ?_
  exact hr25 (x3 + 1) hf hP _ (lv_sub hl [1, 2, 3, 0] rfl)
set_option maxHeartbeats 4000000 in
set_option maxRecDepth 100000 in
theorem t_So_isTrueOf_b25 {p : Program} {l : Launch} {e : Env} {s : State} {m : MethodId} {args : Array Value} {below : List Frame} {meth : Method} {c : Code} {D : va_G} {ct : Nat → ClassId} (C : CX p s m args meth c RX6 cX6_isTrueOf 4 (some .boolean) D ct) (a_this a_letters a_p1 a_p1_odds a_p1_lengths a_p1_letters a_p1_alike a_p1_oddsTogether : Nat) (f_fault : Int32) (f_p1_fault : Int32) (F : Nat) (f_size : Int32) (f_letters : Nat → Int32) (f_p1_size : Int32) (f_p1_lengths : Nat → Int32) (f_p1_letters : Nat → Int32) (x2 : Int32) (r : Int32) (rec25 : Int32 → Option Int32) (hr25 : ∀ (x3 : Int32), rec25 x3 = some r → va_P D vwCl (w_So_isTrueOf ct a_this a_letters a_p1 a_p1_odds a_p1_lengths a_p1_letters a_p1_alike a_p1_oddsTogether f_size f_fault f_letters f_p1_size f_p1_fault f_p1_lengths f_p1_letters) s.heap → ∀ ls : Array Slot, lv_has ls 4 [(0, .ref a_this), (1, .ref a_p1), (2, .int x2), (3, .int x3)] → W p l e RM_So_isTrueOf s m args below meth c s.heap [] 0 0 (MQ below (QR (some (.int r))) args s 0 0 (fun _ => False)) (F0 m 25 ls [])) : ∀ (x3 : Int32), So_isTrueOf_b25 F f_size f_letters f_p1_size f_p1_lengths f_p1_letters x2 rec25 x3 = some r → va_P D vwCl (w_So_isTrueOf ct a_this a_letters a_p1 a_p1_odds a_p1_lengths a_p1_letters a_p1_alike a_p1_oddsTogether f_size f_fault f_letters f_p1_size f_p1_fault f_p1_lengths f_p1_letters) s.heap → ∀ ls : Array Slot, lv_has ls 4 [(0, .ref a_this), (1, .ref a_p1), (2, .int x2), (3, .int x3)] → W p l e RM_So_isTrueOf s m args below meth c s.heap [] 0 0 (MQ below (QR (some (.int r))) args s 0 0 (fun _ => False)) (F0 m 25 ls []) := by
  obtain ⟨hx, hb, hr, hml, hown, hts, hlk, hK, hN⟩ := id C
  intro x3 hf hP ls hl
  unfold So_isTrueOf_b25 at hf
  refine lv_iload_n hx hb dX6_isTrueOf_25 rfl (lv_at hl 3 rfl) ?_
  refine lv_aload_n hx hb dX6_isTrueOf_26 rfl (lv_at hl 0 rfl) ?_
  refine va_get (ci := 6) (v := .int f_size) (C := RX6) (T := TX6) (N := 3) hx hb hts inX6 hown hK hP 0 rfl rfl 1 (by decide) (hts _ tw_171) (fun _ h9 => h9) rfl dX6_isTrueOf_27 ?_
  refine lv_icmp_ge (tgt := 66) hx hb dX6_isTrueOf_30 (by decide) (fun hc => ?_) (fun hc => ?_)
  · have hf := kpos hc hf
    refine lv_iconst (v := 1) hx hb dX6_isTrueOf_66 (by decide) ?_
    have e1 := Option.some.inj hf
    subst e1
    exact kretRz C (by decide) dX6_isTrueOf_67
  · have hf := kneg hc hf
    refine lv_aload_n hx hb dX6_isTrueOf_33 rfl (lv_at hl 0 rfl) ?_
    refine va_get (ci := 6) (v := .ref a_letters) (C := RX6) (T := TX6) (N := 3) hx hb hts inX6 hown hK hP 0 rfl rfl 0 (by decide) (hts _ tw_170) (fun _ h9 => h9) rfl dX6_isTrueOf_34 ?_
    refine lv_iload_n hx hb dX6_isTrueOf_37 rfl (lv_at hl 3 rfl) ?_
    obtain ⟨hin, hf⟩ := rd_some hf
    generalize ev38 : f_letters (Int32.toNatClampNeg x3) = v38 at hf
    refine kiald hx hb hK hP 1 0 rfl rfl hin ev38 dX6_isTrueOf_38 ?_
    refine lv_iconst (v := (-1)) hx hb dX6_isTrueOf_39 (by decide) ?_
    refine lv_icmp_eq (tgt := 60) hx hb dX6_isTrueOf_40 (by decide) (fun hc => ?_) (fun hc => ?_)
    · have hf := kpos hc hf
      exact t_So_isTrueOf_b60 C a_this a_letters a_p1 a_p1_odds a_p1_lengths a_p1_letters a_p1_alike a_p1_oddsTogether f_fault f_p1_fault F f_size f_letters f_p1_size f_p1_lengths f_p1_letters x2 r rec25 hr25 x3 hf hP _ (lv_sub hl [0, 1, 2, 3] rfl)
    · have hf := kneg hc hf
      refine lv_aload_n hx hb dX6_isTrueOf_43 rfl (lv_at hl 0 rfl) ?_
      refine va_get (ci := 6) (v := .ref a_letters) (C := RX6) (T := TX6) (N := 3) hx hb hts inX6 hown hK hP 0 rfl rfl 0 (by decide) (hts _ tw_170) (fun _ h9 => h9) rfl dX6_isTrueOf_44 ?_
      refine lv_iload_n hx hb dX6_isTrueOf_47 rfl (lv_at hl 3 rfl) ?_
      obtain ⟨hin, hf⟩ := rd_some hf
      generalize ev48 : f_letters (Int32.toNatClampNeg x3) = v48 at hf
      refine kiald hx hb hK hP 1 0 rfl rfl hin ev48 dX6_isTrueOf_48 ?_
      refine lv_aload_n hx hb dX6_isTrueOf_49 rfl (lv_at hl 1 rfl) ?_
      refine lv_iload_n hx hb dX6_isTrueOf_50 rfl (lv_at hl 2 rfl) ?_
      refine lv_iload_n hx hb dX6_isTrueOf_51 rfl (lv_at hl 3 rfl) ?_
      obtain ⟨v52, hc52, hf⟩ := cb1_some hf
      refine kcRV (q0 := 2) (ci := 3) (As := [.int x2, .int x3]) (rest := [.int v48]) (st1 := [.int v52, .int v48]) C (c_Na_letterAt l D ct a_p1 a_p1_odds a_p1_lengths a_p1_letters a_p1_alike a_p1_oddsTogether f_p1_fault f_p1_size f_p1_lengths f_p1_letters x2 x3 v52 hc52) ⟨rfl, rfl⟩ yn_yX3_letterAt tw_403 tw_404 tw_456 ⟨Nat.le_of_ble_eq_true rfl, Nat.le_of_ble_eq_true rfl⟩ ⟨Nat.zero_le _, Nat.zero_le _⟩ hP [2, 3, 4] rfl rfl rfl rfl hl.1 rfl rfl (Nat.le_of_ble_eq_true rfl) dX6_isTrueOf_52 rfl ?_
      refine lv_icmp_eq (tgt := 60) hx hb dX6_isTrueOf_55 (by decide) (fun hc => ?_) (fun hc => ?_)
      · have hf := kpos hc hf
        exact t_So_isTrueOf_b60 C a_this a_letters a_p1 a_p1_odds a_p1_lengths a_p1_letters a_p1_alike a_p1_oddsTogether f_fault f_p1_fault F f_size f_letters f_p1_size f_p1_lengths f_p1_letters x2 r rec25 hr25 x3 hf hP _ (lv_sub hl [0, 1, 2, 3] rfl)
      · have hf := kneg hc hf
        refine lv_iconst (v := 0) hx hb dX6_isTrueOf_58 (by decide) ?_
        have e1 := Option.some.inj hf
        subst e1
        exact kretRz C (by decide) dX6_isTrueOf_59
set_option maxHeartbeats 4000000 in
set_option maxRecDepth 100000 in
theorem t_So_isTrueOf_l25 {p : Program} {l : Launch} {e : Env} {s : State} {m : MethodId} {args : Array Value} {below : List Frame} {meth : Method} {c : Code} {D : va_G} {ct : Nat → ClassId} (C : CX p s m args meth c RX6 cX6_isTrueOf 4 (some .boolean) D ct) (a_this a_letters a_p1 a_p1_odds a_p1_lengths a_p1_letters a_p1_alike a_p1_oddsTogether : Nat) (f_fault : Int32) (f_p1_fault : Int32) (F : Nat) (f_size : Int32) (f_letters : Nat → Int32) (f_p1_size : Int32) (f_p1_lengths : Nat → Int32) (f_p1_letters : Nat → Int32) (x2 : Int32) (r : Int32) : ∀ (n : Nat) (x3 : Int32), So_isTrueOf_l25 F f_size f_letters f_p1_size f_p1_lengths f_p1_letters x2 n x3 = some r → va_P D vwCl (w_So_isTrueOf ct a_this a_letters a_p1 a_p1_odds a_p1_lengths a_p1_letters a_p1_alike a_p1_oddsTogether f_size f_fault f_letters f_p1_size f_p1_fault f_p1_lengths f_p1_letters) s.heap → ∀ ls : Array Slot, lv_has ls 4 [(0, .ref a_this), (1, .ref a_p1), (2, .int x2), (3, .int x3)] → W p l e RM_So_isTrueOf s m args below meth c s.heap [] 0 0 (MQ below (QR (some (.int r))) args s 0 0 (fun _ => False)) (F0 m 25 ls []) := by
  intro n
  induction n with
  | zero =>
    intro x3 hf
    exact absurd hf (by simp [So_isTrueOf_l25])
  | succ n ih =>
    intro x3 hf
    exact t_So_isTrueOf_b25 C a_this a_letters a_p1 a_p1_odds a_p1_lengths a_p1_letters a_p1_alike a_p1_oddsTogether f_fault f_p1_fault F f_size f_letters f_p1_size f_p1_lengths f_p1_letters x2 r (So_isTrueOf_l25 F f_size f_letters f_p1_size f_p1_lengths f_p1_letters x2 n) ih x3 hf
set_option maxHeartbeats 4000000 in
set_option maxRecDepth 100000 in
theorem c_So_isTrueOf (l : Launch) (D : va_G) (ct : Nat → ClassId) (a_this a_letters a_p1 a_p1_odds a_p1_lengths a_p1_letters a_p1_alike a_p1_oddsTogether : Nat) (f_fault : Int32) (f_p1_fault : Int32) (F : Nat) (f_size : Int32) (f_letters : Nat → Int32) (f_p1_size : Int32) (f_p1_lengths : Nat → Int32) (f_p1_letters : Nat → Int32) (x2 : Int32) (r : Int32) (hf : So_isTrueOf F f_size f_letters f_p1_size f_p1_lengths f_p1_letters x2 = some r) : Met l yX6_isTrueOf (WS yX6_isTrueOf cX6_isTrueOf 4 (some .boolean)) RM_So_isTrueOf (va_Pc [.ref a_this, .ref a_p1, .int x2] (PR D ct (w_So_isTrueOf ct a_this a_letters a_p1 a_p1_odds a_p1_lengths a_p1_letters a_p1_alike a_p1_oddsTogether f_size f_fault f_letters f_p1_size f_p1_fault f_p1_lengths f_p1_letters))) (QR (some (.int r))) 0 0 (fun _ => False) := by
  refine kMetR yn_yX6_isTrueOf rfl (Nat.le_of_ble_eq_true rfl) ?_
  intro p e s m args below meth c C hP ls hl
  have hl : lv_has ls 4 [(0, .ref a_this), (1, .ref a_p1), (2, .int x2)] := hl
  obtain ⟨hx, hb, hr, hml, hown, hts, hlk, hK, hN⟩ := id C
  unfold So_isTrueOf at hf
  refine lv_aload_n hx hb dX6_isTrueOf_0 rfl (lv_at hl 0 rfl) ?_
  refine va_get (ci := 6) (v := .int f_size) (C := RX6) (T := TX6) (N := 3) hx hb hts inX6 hown hK hP 0 rfl rfl 1 (by decide) (hts _ tw_171) (fun _ h9 => h9) rfl dX6_isTrueOf_1 ?_
  refine lv_if_ne (tgt := 9) hx hb dX6_isTrueOf_4 (by decide) (fun hc => ?_) (fun hc => ?_)
  · have hf := kneg hc hf
    refine lv_aload_n hx hb dX6_isTrueOf_9 rfl (lv_at hl 1 rfl) ?_
    refine lv_iload_n hx hb dX6_isTrueOf_10 rfl (lv_at hl 2 rfl) ?_
    obtain ⟨v11, hc11, hf⟩ := cb1_some hf
    refine kcRV (q0 := 2) (ci := 3) (As := [.int x2]) (rest := []) (st1 := [.int v11]) C (c_Na_lengthOf l D ct a_p1 a_p1_odds a_p1_lengths a_p1_letters a_p1_alike a_p1_oddsTogether f_p1_fault f_p1_size f_p1_lengths x2 v11 hc11) ⟨rfl, rfl⟩ yn_yX3_lengthOf tw_453 tw_454 tw_452 ⟨Nat.le_of_ble_eq_true rfl, Nat.le_of_ble_eq_true rfl⟩ ⟨Nat.zero_le _, Nat.zero_le _⟩ hP [2, 3] rfl rfl rfl rfl hl.1 rfl rfl (Nat.le_of_ble_eq_true rfl) dX6_isTrueOf_11 rfl ?_
    refine lv_aload_n hx hb dX6_isTrueOf_14 rfl (lv_at hl 0 rfl) ?_
    refine va_get (ci := 6) (v := .int f_size) (C := RX6) (T := TX6) (N := 3) hx hb hts inX6 hown hK hP 0 rfl rfl 1 (by decide) (hts _ tw_171) (fun _ h9 => h9) rfl dX6_isTrueOf_15 ?_
    refine lv_icmp_eq (tgt := 23) hx hb dX6_isTrueOf_18 (by decide) (fun hc => ?_) (fun hc => ?_)
    · have hf := kpos hc hf
      refine lv_iconst (v := 0) hx hb dX6_isTrueOf_23 (by decide) ?_
      refine lv_istore_n (lv' := [(3, .int 0), (0, .ref a_this), (1, .ref a_p1), (2, .int x2)]) hx hb dX6_isTrueOf_24 rfl hl (by decide) rfl (fun ls hl => ?_)
      exact t_So_isTrueOf_l25 C a_this a_letters a_p1 a_p1_odds a_p1_lengths a_p1_letters a_p1_alike a_p1_oddsTogether f_fault f_p1_fault F f_size f_letters f_p1_size f_p1_lengths f_p1_letters x2 r F 0 hf hP _ (lv_sub hl [1, 2, 3, 0] rfl)
    · have hf := kneg hc hf
      refine lv_iconst (v := 0) hx hb dX6_isTrueOf_21 (by decide) ?_
      have e1 := Option.some.inj hf
      subst e1
      exact kretRz C (by decide) dX6_isTrueOf_22
  · have hf := kpos hc hf
    refine lv_iconst (v := 1) hx hb dX6_isTrueOf_7 (by decide) ?_
    have e1 := Option.some.inj hf
    subst e1
    exact kretRz C (by decide) dX6_isTrueOf_8
def RM_Pi_isAt : Room := { frames := 1, cells := 0, slots := 0, locals := 22 }
set_option maxHeartbeats 4000000 in
set_option maxRecDepth 100000 in
theorem t_Pi_isAt_b3 {p : Program} {l : Launch} {e : Env} {s : State} {m : MethodId} {args : Array Value} {below : List Frame} {meth : Method} {c : Code} {D : va_G} {ct : Nat → ClassId} (C : CX p s m args meth c RX4 cX4_isAt 6 (some .boolean) D ct) (a_this a_inside a_lengths a_letters a_p1 a_p1_odds a_p1_lengths a_p1_letters a_p1_alike a_p1_oddsTogether : Nat) (f_size : Int32) (f_fault : Int32) (f_p1_fault : Int32) (F : Nat) (f_lengths : Nat → Int32) (f_letters : Nat → Int32) (f_p1_size : Int32) (f_p1_lengths : Nat → Int32) (f_p1_letters : Nat → Int32) (x1 : Int32) (x3 : Int32) (x4 : Int32) (r : Int32) (rec3 : Int32 → Option Int32) (hr3 : ∀ (x5 : Int32), rec3 x5 = some r → va_P D vwCl (w_Pi_isAt ct a_this a_inside a_lengths a_letters a_p1 a_p1_odds a_p1_lengths a_p1_letters a_p1_alike a_p1_oddsTogether f_size f_fault f_lengths f_letters f_p1_size f_p1_fault f_p1_lengths f_p1_letters) s.heap → ∀ ls : Array Slot, lv_has ls 6 [(0, .ref a_this), (1, .int x1), (2, .ref a_p1), (3, .int x3), (4, .int x4), (5, .int x5)] → W p l e RM_Pi_isAt s m args below meth c s.heap [] 0 0 (MQ below (QR (some (.int r))) args s 0 0 (fun _ => False)) (F0 m 3 ls [])) : ∀ (x5 : Int32), Pi_isAt_b3 F f_lengths f_letters f_p1_size f_p1_lengths f_p1_letters x1 x3 x4 rec3 x5 = some r → va_P D vwCl (w_Pi_isAt ct a_this a_inside a_lengths a_letters a_p1 a_p1_odds a_p1_lengths a_p1_letters a_p1_alike a_p1_oddsTogether f_size f_fault f_lengths f_letters f_p1_size f_p1_fault f_p1_lengths f_p1_letters) s.heap → ∀ ls : Array Slot, lv_has ls 6 [(0, .ref a_this), (1, .int x1), (2, .ref a_p1), (3, .int x3), (4, .int x4), (5, .int x5)] → W p l e RM_Pi_isAt s m args below meth c s.heap [] 0 0 (MQ below (QR (some (.int r))) args s 0 0 (fun _ => False)) (F0 m 3 ls []) := by
  obtain ⟨hx, hb, hr, hml, hown, hts, hlk, hK, hN⟩ := id C
  intro x5 hf hP ls hl
  unfold Pi_isAt_b3 at hf
  refine lv_iload hx hb dX4_isAt_3 (lv_at hl 5 rfl) ?_
  refine lv_aload_n hx hb dX4_isAt_5 rfl (lv_at hl 0 rfl) ?_
  refine va_get (ci := 4) (v := .ref a_lengths) (C := RX4) (T := TX4) (N := 5) hx hb hts inX4 hown hK hP 0 rfl rfl 1 (by decide) (hts _ tw_148) (fun _ h9 => h9) rfl dX4_isAt_6 ?_
  refine lv_iload_n hx hb dX4_isAt_9 rfl (lv_at hl 1 rfl) ?_
  obtain ⟨hin, hf⟩ := rd_some hf
  generalize ev10 : f_lengths (Int32.toNatClampNeg x1) = v10 at hf
  refine kiald hx hb hK hP 1 0 rfl rfl hin ev10 dX4_isAt_10 ?_
  refine lv_icmp_ge (tgt := 46) hx hb dX4_isAt_11 (by decide) (fun hc => ?_) (fun hc => ?_)
  · have hf := kpos hc hf
    refine lv_iconst (v := 1) hx hb dX4_isAt_46 (by decide) ?_
    have e1 := Option.some.inj hf
    subst e1
    exact kretRz C (by decide) dX4_isAt_47
  · have hf := kneg hc hf
    refine lv_aload_n hx hb dX4_isAt_14 rfl (lv_at hl 2 rfl) ?_
    refine lv_iload_n hx hb dX4_isAt_15 rfl (lv_at hl 3 rfl) ?_
    refine lv_iload hx hb dX4_isAt_16 (lv_at hl 4 rfl) ?_
    refine lv_iload hx hb dX4_isAt_18 (lv_at hl 5 rfl) ?_
    refine lv_iadd hx hb dX4_isAt_20 ?_
    obtain ⟨v21, hc21, hf⟩ := cb1_some hf
    refine kcRV (q0 := 3) (ci := 3) (As := [.int x3, .int (x4 + x5)]) (rest := []) (st1 := [.int v21]) C (c_Na_letterAt l D ct a_p1 a_p1_odds a_p1_lengths a_p1_letters a_p1_alike a_p1_oddsTogether f_p1_fault f_p1_size f_p1_lengths f_p1_letters x3 (x4 + x5) v21 hc21) ⟨rfl, rfl⟩ yn_yX3_letterAt tw_403 tw_404 tw_466 ⟨Nat.le_of_ble_eq_true rfl, Nat.le_of_ble_eq_true rfl⟩ ⟨Nat.zero_le _, Nat.zero_le _⟩ hP [3, 4, 5] rfl rfl rfl rfl hl.1 rfl rfl (Nat.le_of_ble_eq_true rfl) dX4_isAt_21 rfl ?_
    refine lv_aload_n hx hb dX4_isAt_24 rfl (lv_at hl 0 rfl) ?_
    refine va_get (ci := 4) (v := .ref a_letters) (C := RX4) (T := TX4) (N := 5) hx hb hts inX4 hown hK hP 0 rfl rfl 2 (by decide) (hts _ tw_149) (fun _ h9 => h9) rfl dX4_isAt_25 ?_
    refine lv_iload_n hx hb dX4_isAt_28 rfl (lv_at hl 1 rfl) ?_
    refine lv_iconst (v := 3) hx hb dX4_isAt_29 (by decide) ?_
    refine lv_imul hx hb dX4_isAt_30 ?_
    refine lv_iload hx hb dX4_isAt_31 (lv_at hl 5 rfl) ?_
    refine lv_iadd hx hb dX4_isAt_33 ?_
    obtain ⟨hin, hf⟩ := rd_some hf
    generalize ev34 : f_letters (Int32.toNatClampNeg ((x1 * 3) + x5)) = v34 at hf
    refine kiald hx hb hK hP 2 0 rfl rfl hin ev34 dX4_isAt_34 ?_
    refine lv_icmp_eq (tgt := 40) hx hb dX4_isAt_35 (by decide) (fun hc => ?_) (fun hc => ?_)
    · have hf := kpos hc hf
      refine lv_iinc (v := x5 + 1) (lv' := [(5, .int (x5 + 1)), (0, .ref a_this), (1, .int x1), (2, .ref a_p1), (3, .int x3), (4, .int x4)]) hx hb dX4_isAt_40 hl (k := 5) rfl rfl (by decide) rfl (fun ls hl => ?_)
      refine lv_goto (tgt := 3) hx hb dX4_isAt_43 (by decide) ?_
      exact hr3 (x5 + 1) hf hP _ (lv_sub hl [1, 2, 3, 4, 5, 0] rfl)
    · have hf := kneg hc hf
      refine lv_iconst (v := 0) hx hb dX4_isAt_38 (by decide) ?_
      have e1 := Option.some.inj hf
      subst e1
      exact kretRz C (by decide) dX4_isAt_39
set_option maxHeartbeats 4000000 in
set_option maxRecDepth 100000 in
theorem t_Pi_isAt_l3 {p : Program} {l : Launch} {e : Env} {s : State} {m : MethodId} {args : Array Value} {below : List Frame} {meth : Method} {c : Code} {D : va_G} {ct : Nat → ClassId} (C : CX p s m args meth c RX4 cX4_isAt 6 (some .boolean) D ct) (a_this a_inside a_lengths a_letters a_p1 a_p1_odds a_p1_lengths a_p1_letters a_p1_alike a_p1_oddsTogether : Nat) (f_size : Int32) (f_fault : Int32) (f_p1_fault : Int32) (F : Nat) (f_lengths : Nat → Int32) (f_letters : Nat → Int32) (f_p1_size : Int32) (f_p1_lengths : Nat → Int32) (f_p1_letters : Nat → Int32) (x1 : Int32) (x3 : Int32) (x4 : Int32) (r : Int32) : ∀ (n : Nat) (x5 : Int32), Pi_isAt_l3 F f_lengths f_letters f_p1_size f_p1_lengths f_p1_letters x1 x3 x4 n x5 = some r → va_P D vwCl (w_Pi_isAt ct a_this a_inside a_lengths a_letters a_p1 a_p1_odds a_p1_lengths a_p1_letters a_p1_alike a_p1_oddsTogether f_size f_fault f_lengths f_letters f_p1_size f_p1_fault f_p1_lengths f_p1_letters) s.heap → ∀ ls : Array Slot, lv_has ls 6 [(0, .ref a_this), (1, .int x1), (2, .ref a_p1), (3, .int x3), (4, .int x4), (5, .int x5)] → W p l e RM_Pi_isAt s m args below meth c s.heap [] 0 0 (MQ below (QR (some (.int r))) args s 0 0 (fun _ => False)) (F0 m 3 ls []) := by
  intro n
  induction n with
  | zero =>
    intro x5 hf
    exact absurd hf (by simp [Pi_isAt_l3])
  | succ n ih =>
    intro x5 hf
    exact t_Pi_isAt_b3 C a_this a_inside a_lengths a_letters a_p1 a_p1_odds a_p1_lengths a_p1_letters a_p1_alike a_p1_oddsTogether f_size f_fault f_p1_fault F f_lengths f_letters f_p1_size f_p1_lengths f_p1_letters x1 x3 x4 r (Pi_isAt_l3 F f_lengths f_letters f_p1_size f_p1_lengths f_p1_letters x1 x3 x4 n) ih x5 hf
set_option maxHeartbeats 4000000 in
set_option maxRecDepth 100000 in
theorem c_Pi_isAt (l : Launch) (D : va_G) (ct : Nat → ClassId) (a_this a_inside a_lengths a_letters a_p1 a_p1_odds a_p1_lengths a_p1_letters a_p1_alike a_p1_oddsTogether : Nat) (f_size : Int32) (f_fault : Int32) (f_p1_fault : Int32) (F : Nat) (f_lengths : Nat → Int32) (f_letters : Nat → Int32) (f_p1_size : Int32) (f_p1_lengths : Nat → Int32) (f_p1_letters : Nat → Int32) (x1 : Int32) (x3 : Int32) (x4 : Int32) (r : Int32) (hf : Pi_isAt F f_lengths f_letters f_p1_size f_p1_lengths f_p1_letters x1 x3 x4 = some r) : Met l yX4_isAt (WS yX4_isAt cX4_isAt 6 (some .boolean)) RM_Pi_isAt (va_Pc [.ref a_this, .int x1, .ref a_p1, .int x3, .int x4] (PR D ct (w_Pi_isAt ct a_this a_inside a_lengths a_letters a_p1 a_p1_odds a_p1_lengths a_p1_letters a_p1_alike a_p1_oddsTogether f_size f_fault f_lengths f_letters f_p1_size f_p1_fault f_p1_lengths f_p1_letters))) (QR (some (.int r))) 0 0 (fun _ => False) := by
  refine kMetR yn_yX4_isAt rfl (Nat.le_of_ble_eq_true rfl) ?_
  intro p e s m args below meth c C hP ls hl
  have hl : lv_has ls 6 [(0, .ref a_this), (1, .int x1), (2, .ref a_p1), (3, .int x3), (4, .int x4)] := hl
  obtain ⟨hx, hb, hr, hml, hown, hts, hlk, hK, hN⟩ := id C
  unfold Pi_isAt at hf
  refine lv_iconst (v := 0) hx hb dX4_isAt_0 (by decide) ?_
  refine lv_istore (lv' := [(5, .int 0), (0, .ref a_this), (1, .int x1), (2, .ref a_p1), (3, .int x3), (4, .int x4)]) hx hb dX4_isAt_1 hl (by decide) rfl (fun ls hl => ?_)
  exact t_Pi_isAt_l3 C a_this a_inside a_lengths a_letters a_p1 a_p1_odds a_p1_lengths a_p1_letters a_p1_alike a_p1_oddsTogether f_size f_fault f_p1_fault F f_lengths f_letters f_p1_size f_p1_lengths f_p1_letters x1 x3 x4 r F 0 hf hP _ (lv_sub hl [1, 2, 3, 4, 5, 0] rfl)
def RM_Pi_isTrueOf : Room := { frames := 2, cells := 0, slots := 0, locals := 47 }
set_option maxHeartbeats 4000000 in
set_option maxRecDepth 100000 in
theorem t_Pi_isTrueOf_b63 {p : Program} {l : Launch} {e : Env} {s : State} {m : MethodId} {args : Array Value} {below : List Frame} {meth : Method} {c : Code} {D : va_G} {ct : Nat → ClassId} (C : CX p s m args meth c RX4 cX4_isTrueOf 6 (some .boolean) D ct) (a_this a_inside a_lengths a_letters a_p1 a_p1_odds a_p1_lengths a_p1_letters a_p1_alike a_p1_oddsTogether : Nat) (f_fault : Int32) (f_p1_fault : Int32) (F : Nat) (f_size : Int32) (f_inside : Nat → Int32) (f_lengths : Nat → Int32) (f_letters : Nat → Int32) (f_p1_size : Int32) (f_p1_lengths : Nat → Int32) (f_p1_letters : Nat → Int32) (x1 : Int32) (x3 : Int32) (r : Int32) : Pi_isTrueOf_b63 F f_size f_inside f_lengths f_letters f_p1_size f_p1_lengths f_p1_letters x1 x3 = some r → va_P D vwCl (w_Pi_isTrueOf ct a_this a_inside a_lengths a_letters a_p1 a_p1_odds a_p1_lengths a_p1_letters a_p1_alike a_p1_oddsTogether f_size f_fault f_inside f_lengths f_letters f_p1_size f_p1_fault f_p1_lengths f_p1_letters) s.heap → ∀ ls : Array Slot, lv_has ls 6 [(0, .ref a_this), (1, .int x1)] → W p l e RM_Pi_isTrueOf s m args below meth c s.heap [] 0 0 (MQ below (QR (some (.int r))) args s 0 0 (fun _ => False)) (F0 m 63 ls []) := by
  obtain ⟨hx, hb, hr, hml, hown, hts, hlk, hK, hN⟩ := id C
  intro hf hP ls hl
  unfold Pi_isTrueOf_b63 at hf
  refine lv_aload_n hx hb dX4_isTrueOf_63 rfl (lv_at hl 0 rfl) ?_
  refine va_get (ci := 4) (v := .ref a_inside) (C := RX4) (T := TX4) (N := 5) hx hb hts inX4 hown hK hP 0 rfl rfl 0 (by decide) (hts _ tw_147) (fun _ h9 => h9) rfl dX4_isTrueOf_64 ?_
  refine lv_iload_n hx hb dX4_isTrueOf_67 rfl (lv_at hl 1 rfl) ?_
  obtain ⟨hin, hf⟩ := rd_some hf
  generalize ev68 : f_inside (Int32.toNatClampNeg x1) = v68 at hf
  refine kzald hx hb hK hP 1 1 rfl rfl hin ev68 dX4_isTrueOf_68 ?_
  refine lv_if_ne (tgt := 76) hx hb dX4_isTrueOf_69 (by decide) (fun hc => ?_) (fun hc => ?_)
  · have hf := kneg hc hf
    refine lv_iconst (v := 0) hx hb dX4_isTrueOf_76 (by decide) ?_
    have e1 := Option.some.inj hf
    subst e1
    exact kretRz C (by decide) dX4_isTrueOf_77
  · have hf := kpos hc hf
    refine lv_iconst (v := 1) hx hb dX4_isTrueOf_72 (by decide) ?_
    refine lv_goto (tgt := 77) hx hb dX4_isTrueOf_73 (by decide) ?_
    have e1 := Option.some.inj hf
    subst e1
    exact kretRz C (by decide) dX4_isTrueOf_77
set_option maxHeartbeats 4000000 in
set_option maxRecDepth 100000 in
theorem t_Pi_isTrueOf_b50 {p : Program} {l : Launch} {e : Env} {s : State} {m : MethodId} {args : Array Value} {below : List Frame} {meth : Method} {c : Code} {D : va_G} {ct : Nat → ClassId} (C : CX p s m args meth c RX4 cX4_isTrueOf 6 (some .boolean) D ct) (a_this a_inside a_lengths a_letters a_p1 a_p1_odds a_p1_lengths a_p1_letters a_p1_alike a_p1_oddsTogether : Nat) (f_fault : Int32) (f_p1_fault : Int32) (F : Nat) (f_size : Int32) (f_inside : Nat → Int32) (f_lengths : Nat → Int32) (f_letters : Nat → Int32) (f_p1_size : Int32) (f_p1_lengths : Nat → Int32) (f_p1_letters : Nat → Int32) (x1 : Int32) (x3 : Int32) (r : Int32) : Pi_isTrueOf_b50 F f_size f_inside f_lengths f_letters f_p1_size f_p1_lengths f_p1_letters x1 x3 = some r → va_P D vwCl (w_Pi_isTrueOf ct a_this a_inside a_lengths a_letters a_p1 a_p1_odds a_p1_lengths a_p1_letters a_p1_alike a_p1_oddsTogether f_size f_fault f_inside f_lengths f_letters f_p1_size f_p1_fault f_p1_lengths f_p1_letters) s.heap → ∀ ls : Array Slot, lv_has ls 6 [(0, .ref a_this), (1, .int x1)] → W p l e RM_Pi_isTrueOf s m args below meth c s.heap [] 0 0 (MQ below (QR (some (.int r))) args s 0 0 (fun _ => False)) (F0 m 50 ls []) := by
  obtain ⟨hx, hb, hr, hml, hown, hts, hlk, hK, hN⟩ := id C
  intro hf hP ls hl
  unfold Pi_isTrueOf_b50 at hf
  refine lv_aload_n hx hb dX4_isTrueOf_50 rfl (lv_at hl 0 rfl) ?_
  refine va_get (ci := 4) (v := .ref a_inside) (C := RX4) (T := TX4) (N := 5) hx hb hts inX4 hown hK hP 0 rfl rfl 0 (by decide) (hts _ tw_147) (fun _ h9 => h9) rfl dX4_isTrueOf_51 ?_
  refine lv_iload_n hx hb dX4_isTrueOf_54 rfl (lv_at hl 1 rfl) ?_
  obtain ⟨hin, hf⟩ := rd_some hf
  generalize ev55 : f_inside (Int32.toNatClampNeg x1) = v55 at hf
  refine kzald hx hb hK hP 1 1 rfl rfl hin ev55 dX4_isTrueOf_55 ?_
  obtain ⟨hz, hf⟩ := gd_some hf
  have e1 := Option.some.inj hf
  subst e1
  exact kretRz C hz dX4_isTrueOf_56
set_option maxHeartbeats 4000000 in
set_option maxRecDepth 100000 in
theorem t_Pi_isTrueOf_b31 {p : Program} {l : Launch} {e : Env} {s : State} {m : MethodId} {args : Array Value} {below : List Frame} {meth : Method} {c : Code} {D : va_G} {ct : Nat → ClassId} (C : CX p s m args meth c RX4 cX4_isTrueOf 6 (some .boolean) D ct) (a_this a_inside a_lengths a_letters a_p1 a_p1_odds a_p1_lengths a_p1_letters a_p1_alike a_p1_oddsTogether : Nat) (f_fault : Int32) (f_p1_fault : Int32) (F : Nat) (f_size : Int32) (f_inside : Nat → Int32) (f_lengths : Nat → Int32) (f_letters : Nat → Int32) (f_p1_size : Int32) (f_p1_lengths : Nat → Int32) (f_p1_letters : Nat → Int32) (x1 : Int32) (x3 : Int32) (r : Int32) (rec31 : Int32 → Int32 → Option Int32) (hr31 : ∀ (x4 : Int32) (x5 : Int32), rec31 x4 x5 = some r → va_P D vwCl (w_Pi_isTrueOf ct a_this a_inside a_lengths a_letters a_p1 a_p1_odds a_p1_lengths a_p1_letters a_p1_alike a_p1_oddsTogether f_size f_fault f_inside f_lengths f_letters f_p1_size f_p1_fault f_p1_lengths f_p1_letters) s.heap → ∀ ls : Array Slot, lv_has ls 6 [(0, .ref a_this), (1, .int x1), (2, .ref a_p1), (3, .int x3), (4, .int x4), (5, .int x5)] → W p l e RM_Pi_isTrueOf s m args below meth c s.heap [] 0 0 (MQ below (QR (some (.int r))) args s 0 0 (fun _ => False)) (F0 m 31 ls [])) : ∀ (x4 : Int32) (x5 : Int32), Pi_isTrueOf_b31 F f_size f_inside f_lengths f_letters f_p1_size f_p1_lengths f_p1_letters x1 x3 rec31 x4 x5 = some r → va_P D vwCl (w_Pi_isTrueOf ct a_this a_inside a_lengths a_letters a_p1 a_p1_odds a_p1_lengths a_p1_letters a_p1_alike a_p1_oddsTogether f_size f_fault f_inside f_lengths f_letters f_p1_size f_p1_fault f_p1_lengths f_p1_letters) s.heap → ∀ ls : Array Slot, lv_has ls 6 [(0, .ref a_this), (1, .int x1), (2, .ref a_p1), (3, .int x3), (4, .int x4), (5, .int x5)] → W p l e RM_Pi_isTrueOf s m args below meth c s.heap [] 0 0 (MQ below (QR (some (.int r))) args s 0 0 (fun _ => False)) (F0 m 31 ls []) := by
  obtain ⟨hx, hb, hr, hml, hown, hts, hlk, hK, hN⟩ := id C
  intro x4 x5 hf hP ls hl
  unfold Pi_isTrueOf_b31 at hf
  refine lv_iload hx hb dX4_isTrueOf_31 (lv_at hl 5 rfl) ?_
  refine lv_iload hx hb dX4_isTrueOf_33 (lv_at hl 4 rfl) ?_
  refine lv_icmp_gt (tgt := 63) hx hb dX4_isTrueOf_35 (by decide) (fun hc => ?_) (fun hc => ?_)
  · have hf := kpos hc hf
    exact t_Pi_isTrueOf_b63 C a_this a_inside a_lengths a_letters a_p1 a_p1_odds a_p1_lengths a_p1_letters a_p1_alike a_p1_oddsTogether f_fault f_p1_fault F f_size f_inside f_lengths f_letters f_p1_size f_p1_lengths f_p1_letters x1 x3 r hf hP _ (lv_sub hl [0, 1] rfl)
  · have hf := kneg hc hf
    refine lv_aload_n hx hb dX4_isTrueOf_38 rfl (lv_at hl 0 rfl) ?_
    refine lv_iload_n hx hb dX4_isTrueOf_39 rfl (lv_at hl 1 rfl) ?_
    refine lv_aload_n hx hb dX4_isTrueOf_40 rfl (lv_at hl 2 rfl) ?_
    refine lv_iload_n hx hb dX4_isTrueOf_41 rfl (lv_at hl 3 rfl) ?_
    refine lv_iload hx hb dX4_isTrueOf_42 (lv_at hl 5 rfl) ?_
    obtain ⟨v44, hc44, hf⟩ := cb1_some hf
    refine kcRV (q0 := 0) (ci := 4) (As := [.int x1, .ref a_p1, .int x3, .int x5]) (rest := []) (st1 := [.int v44]) C (c_Pi_isAt l D ct a_this a_inside a_lengths a_letters a_p1 a_p1_odds a_p1_lengths a_p1_letters a_p1_alike a_p1_oddsTogether f_size f_fault f_p1_fault F f_lengths f_letters f_p1_size f_p1_lengths f_p1_letters x1 x3 x5 v44 hc44) ⟨rfl, rfl⟩ yn_yX4_isAt tw_464 tw_8 tw_462 ⟨Nat.le_of_ble_eq_true rfl, Nat.le_of_ble_eq_true rfl⟩ ⟨Nat.zero_le _, Nat.zero_le _⟩ hP [0, 2, 3, 4, 5, 6] rfl rfl rfl rfl hl.1 rfl rfl (Nat.le_of_ble_eq_true rfl) dX4_isTrueOf_44 rfl ?_
    refine lv_if_eq (tgt := 57) hx hb dX4_isTrueOf_47 (by decide) (fun hc => ?_) (fun hc => ?_)
    · have hf := kpos hc hf
      refine lv_iinc (v := x5 + 1) (lv' := [(5, .int (x5 + 1)), (0, .ref a_this), (1, .int x1), (2, .ref a_p1), (3, .int x3), (4, .int x4)]) hx hb dX4_isTrueOf_57 hl (k := 5) rfl rfl (by decide) rfl (fun ls hl => ?_)
      refine lv_goto (tgt := 31) hx hb dX4_isTrueOf_60 (by decide) ?_
      exact hr31 x4 (x5 + 1) hf hP _ (lv_sub hl [1, 2, 3, 4, 5, 0] rfl)
    · have hf := kneg hc hf
      exact t_Pi_isTrueOf_b50 C a_this a_inside a_lengths a_letters a_p1 a_p1_odds a_p1_lengths a_p1_letters a_p1_alike a_p1_oddsTogether f_fault f_p1_fault F f_size f_inside f_lengths f_letters f_p1_size f_p1_lengths f_p1_letters x1 x3 r hf hP _ (lv_sub hl [0, 1] rfl)
set_option maxHeartbeats 4000000 in
set_option maxRecDepth 100000 in
theorem t_Pi_isTrueOf_l31 {p : Program} {l : Launch} {e : Env} {s : State} {m : MethodId} {args : Array Value} {below : List Frame} {meth : Method} {c : Code} {D : va_G} {ct : Nat → ClassId} (C : CX p s m args meth c RX4 cX4_isTrueOf 6 (some .boolean) D ct) (a_this a_inside a_lengths a_letters a_p1 a_p1_odds a_p1_lengths a_p1_letters a_p1_alike a_p1_oddsTogether : Nat) (f_fault : Int32) (f_p1_fault : Int32) (F : Nat) (f_size : Int32) (f_inside : Nat → Int32) (f_lengths : Nat → Int32) (f_letters : Nat → Int32) (f_p1_size : Int32) (f_p1_lengths : Nat → Int32) (f_p1_letters : Nat → Int32) (x1 : Int32) (x3 : Int32) (r : Int32) : ∀ (n : Nat) (x4 : Int32) (x5 : Int32), Pi_isTrueOf_l31 F f_size f_inside f_lengths f_letters f_p1_size f_p1_lengths f_p1_letters x1 x3 n x4 x5 = some r → va_P D vwCl (w_Pi_isTrueOf ct a_this a_inside a_lengths a_letters a_p1 a_p1_odds a_p1_lengths a_p1_letters a_p1_alike a_p1_oddsTogether f_size f_fault f_inside f_lengths f_letters f_p1_size f_p1_fault f_p1_lengths f_p1_letters) s.heap → ∀ ls : Array Slot, lv_has ls 6 [(0, .ref a_this), (1, .int x1), (2, .ref a_p1), (3, .int x3), (4, .int x4), (5, .int x5)] → W p l e RM_Pi_isTrueOf s m args below meth c s.heap [] 0 0 (MQ below (QR (some (.int r))) args s 0 0 (fun _ => False)) (F0 m 31 ls []) := by
  intro n
  induction n with
  | zero =>
    intro x4 x5 hf
    exact absurd hf (by simp [Pi_isTrueOf_l31])
  | succ n ih =>
    intro x4 x5 hf
    exact t_Pi_isTrueOf_b31 C a_this a_inside a_lengths a_letters a_p1 a_p1_odds a_p1_lengths a_p1_letters a_p1_alike a_p1_oddsTogether f_fault f_p1_fault F f_size f_inside f_lengths f_letters f_p1_size f_p1_lengths f_p1_letters x1 x3 r (Pi_isTrueOf_l31 F f_size f_inside f_lengths f_letters f_p1_size f_p1_lengths f_p1_letters x1 x3 n) ih x4 x5 hf
set_option maxHeartbeats 4000000 in
set_option maxRecDepth 100000 in
theorem c_Pi_isTrueOf (l : Launch) (D : va_G) (ct : Nat → ClassId) (a_this a_inside a_lengths a_letters a_p1 a_p1_odds a_p1_lengths a_p1_letters a_p1_alike a_p1_oddsTogether : Nat) (f_fault : Int32) (f_p1_fault : Int32) (F : Nat) (f_size : Int32) (f_inside : Nat → Int32) (f_lengths : Nat → Int32) (f_letters : Nat → Int32) (f_p1_size : Int32) (f_p1_lengths : Nat → Int32) (f_p1_letters : Nat → Int32) (x1 : Int32) (x3 : Int32) (r : Int32) (hf : Pi_isTrueOf F f_size f_inside f_lengths f_letters f_p1_size f_p1_lengths f_p1_letters x1 x3 = some r) : Met l yX4_isTrueOf (WS yX4_isTrueOf cX4_isTrueOf 6 (some .boolean)) RM_Pi_isTrueOf (va_Pc [.ref a_this, .int x1, .ref a_p1, .int x3] (PR D ct (w_Pi_isTrueOf ct a_this a_inside a_lengths a_letters a_p1 a_p1_odds a_p1_lengths a_p1_letters a_p1_alike a_p1_oddsTogether f_size f_fault f_inside f_lengths f_letters f_p1_size f_p1_fault f_p1_lengths f_p1_letters))) (QR (some (.int r))) 0 0 (fun _ => False) := by
  refine kMetR yn_yX4_isTrueOf rfl (Nat.le_of_ble_eq_true rfl) ?_
  intro p e s m args below meth c C hP ls hl
  have hl : lv_has ls 6 [(0, .ref a_this), (1, .int x1), (2, .ref a_p1), (3, .int x3)] := hl
  obtain ⟨hx, hb, hr, hml, hown, hts, hlk, hK, hN⟩ := id C
  unfold Pi_isTrueOf at hf
  refine lv_iload_n hx hb dX4_isTrueOf_0 rfl (lv_at hl 1 rfl) ?_
  refine lv_if_lt (tgt := 12) hx hb dX4_isTrueOf_1 (by decide) (fun hc => ?_) (fun hc => ?_)
  · have hf := kpos hc hf
    refine lv_iconst (v := 0) hx hb dX4_isTrueOf_12 (by decide) ?_
    have e1 := Option.some.inj hf
    subst e1
    exact kretRz C (by decide) dX4_isTrueOf_13
  · have hf := kneg hc hf
    refine lv_iload_n hx hb dX4_isTrueOf_4 rfl (lv_at hl 1 rfl) ?_
    refine lv_aload_n hx hb dX4_isTrueOf_5 rfl (lv_at hl 0 rfl) ?_
    refine va_get (ci := 4) (v := .int f_size) (C := RX4) (T := TX4) (N := 5) hx hb hts inX4 hown hK hP 0 rfl rfl 3 (by decide) (hts _ tw_150) (fun _ h9 => h9) rfl dX4_isTrueOf_6 ?_
    refine lv_icmp_lt (tgt := 14) hx hb dX4_isTrueOf_9 (by decide) (fun hc => ?_) (fun hc => ?_)
    · have hf := kpos hc hf
      refine lv_aload_n hx hb dX4_isTrueOf_14 rfl (lv_at hl 2 rfl) ?_
      refine lv_iload_n hx hb dX4_isTrueOf_15 rfl (lv_at hl 3 rfl) ?_
      obtain ⟨v16, hc16, hf⟩ := cb1_some hf
      refine kcRV (q0 := 4) (ci := 3) (As := [.int x3]) (rest := []) (st1 := [.int v16]) C (c_Na_lengthOf l D ct a_p1 a_p1_odds a_p1_lengths a_p1_letters a_p1_alike a_p1_oddsTogether f_p1_fault f_p1_size f_p1_lengths x3 v16 hc16) ⟨rfl, rfl⟩ yn_yX3_lengthOf tw_453 tw_454 tw_461 ⟨Nat.le_of_ble_eq_true rfl, Nat.le_of_ble_eq_true rfl⟩ ⟨Nat.zero_le _, Nat.zero_le _⟩ hP [4, 5] rfl rfl rfl rfl hl.1 rfl rfl (Nat.le_of_ble_eq_true rfl) dX4_isTrueOf_16 rfl ?_
      refine lv_aload_n hx hb dX4_isTrueOf_19 rfl (lv_at hl 0 rfl) ?_
      refine va_get (ci := 4) (v := .ref a_lengths) (C := RX4) (T := TX4) (N := 5) hx hb hts inX4 hown hK hP 0 rfl rfl 1 (by decide) (hts _ tw_148) (fun _ h9 => h9) rfl dX4_isTrueOf_20 ?_
      refine lv_iload_n hx hb dX4_isTrueOf_23 rfl (lv_at hl 1 rfl) ?_
      obtain ⟨hin, hf⟩ := rd_some hf
      generalize ev24 : f_lengths (Int32.toNatClampNeg x1) = v24 at hf
      refine kiald hx hb hK hP 2 0 rfl rfl hin ev24 dX4_isTrueOf_24 ?_
      refine lv_isub hx hb dX4_isTrueOf_25 ?_
      refine lv_istore (lv' := [(4, .int (v16 - v24)), (0, .ref a_this), (1, .int x1), (2, .ref a_p1), (3, .int x3)]) hx hb dX4_isTrueOf_26 hl (by decide) rfl (fun ls hl => ?_)
      refine lv_iconst (v := 0) hx hb dX4_isTrueOf_28 (by decide) ?_
      refine lv_istore (lv' := [(5, .int 0), (4, .int (v16 - v24)), (0, .ref a_this), (1, .int x1), (2, .ref a_p1), (3, .int x3)]) hx hb dX4_isTrueOf_29 hl (by decide) rfl (fun ls hl => ?_)
      exact t_Pi_isTrueOf_l31 C a_this a_inside a_lengths a_letters a_p1 a_p1_odds a_p1_lengths a_p1_letters a_p1_alike a_p1_oddsTogether f_fault f_p1_fault F f_size f_inside f_lengths f_letters f_p1_size f_p1_lengths f_p1_letters x1 x3 r F (v16 - v24) 0 hf hP _ (lv_sub hl [2, 3, 4, 5, 1, 0] rfl)
    · have hf := kneg hc hf
      refine lv_iconst (v := 0) hx hb dX4_isTrueOf_12 (by decide) ?_
      have e1 := Option.some.inj hf
      subst e1
      exact kretRz C (by decide) dX4_isTrueOf_13
def RM_Fi_by : Room := { frames := 0, cells := 0, slots := 0, locals := 0 }
set_option maxHeartbeats 4000000 in
set_option maxRecDepth 100000 in
theorem t_Fi_by_b32 {p : Program} {l : Launch} {e : Env} {s : State} {m : MethodId} {args : Array Value} {below : List Frame} {meth : Method} {c : Code} {D : va_G} {ct : Nat → ClassId} (C : CX p s m args meth c RX1 cX1_by 4 (some .int) D ct) (a_this a_pieceFits a_inOrder : Nat) (f_allFit : Int32) (f_ordered : Int32) (F : Nat) (f_pieceCount : Int32) (f_songFits : Int32) (f_pieceFits : Nat → Int32) (x1 : Int32) (r : Int32) (rec7 : Int32 → Int32 → Option Int32) (hr7 : ∀ (x2 : Int32) (x3 : Int32), rec7 x2 x3 = some r → va_P D vwCl (w_Fi_by ct a_this a_pieceFits a_inOrder f_pieceCount f_songFits f_allFit f_ordered f_pieceFits) s.heap → ∀ ls : Array Slot, lv_has ls 4 [(0, .ref a_this), (1, .int x1), (2, .int x2), (3, .int x3)] → W p l e RM_Fi_by s m args below meth c s.heap [] 0 0 (MQ below (QR (some (.int r))) args s 0 0 (fun _ => False)) (F0 m 7 ls [])) : ∀ (x2 : Int32) (x3 : Int32), Fi_by_b32 F f_pieceCount f_songFits f_pieceFits x1 rec7 x2 x3 = some r → va_P D vwCl (w_Fi_by ct a_this a_pieceFits a_inOrder f_pieceCount f_songFits f_allFit f_ordered f_pieceFits) s.heap → ∀ ls : Array Slot, lv_has ls 4 [(0, .ref a_this), (1, .int x1), (2, .int x2), (3, .int x3)] → W p l e RM_Fi_by s m args below meth c s.heap [] 0 0 (MQ below (QR (some (.int r))) args s 0 0 (fun _ => False)) (F0 m 32 ls []) := by
  obtain ⟨hx, hb, hr, hml, hown, hts, hlk, hK, hN⟩ := id C
  intro x2 x3 hf hP ls hl
  unfold Fi_by_b32 at hf
  refine lv_iinc (v := x3 + 1) (lv' := [(3, .int (x3 + 1)), (0, .ref a_this), (1, .int x1), (2, .int x2)]) hx hb dX1_by_32 hl (k := 3) rfl rfl (by decide) rfl (fun ls hl => ?_)
  refine lv_goto (tgt := 7) hx hb dX1_by_35 (by decide) ?_
  exact hr7 x2 (x3 + 1) hf hP _ (lv_sub hl [1, 2, 3, 0] rfl)
set_option maxHeartbeats 4000000 in
set_option maxRecDepth 100000 in
theorem t_Fi_by_b7 {p : Program} {l : Launch} {e : Env} {s : State} {m : MethodId} {args : Array Value} {below : List Frame} {meth : Method} {c : Code} {D : va_G} {ct : Nat → ClassId} (C : CX p s m args meth c RX1 cX1_by 4 (some .int) D ct) (a_this a_pieceFits a_inOrder : Nat) (f_allFit : Int32) (f_ordered : Int32) (F : Nat) (f_pieceCount : Int32) (f_songFits : Int32) (f_pieceFits : Nat → Int32) (x1 : Int32) (r : Int32) (rec7 : Int32 → Int32 → Option Int32) (hr7 : ∀ (x2 : Int32) (x3 : Int32), rec7 x2 x3 = some r → va_P D vwCl (w_Fi_by ct a_this a_pieceFits a_inOrder f_pieceCount f_songFits f_allFit f_ordered f_pieceFits) s.heap → ∀ ls : Array Slot, lv_has ls 4 [(0, .ref a_this), (1, .int x1), (2, .int x2), (3, .int x3)] → W p l e RM_Fi_by s m args below meth c s.heap [] 0 0 (MQ below (QR (some (.int r))) args s 0 0 (fun _ => False)) (F0 m 7 ls [])) : ∀ (x2 : Int32) (x3 : Int32), Fi_by_b7 F f_pieceCount f_songFits f_pieceFits x1 rec7 x2 x3 = some r → va_P D vwCl (w_Fi_by ct a_this a_pieceFits a_inOrder f_pieceCount f_songFits f_allFit f_ordered f_pieceFits) s.heap → ∀ ls : Array Slot, lv_has ls 4 [(0, .ref a_this), (1, .int x1), (2, .int x2), (3, .int x3)] → W p l e RM_Fi_by s m args below meth c s.heap [] 0 0 (MQ below (QR (some (.int r))) args s 0 0 (fun _ => False)) (F0 m 7 ls []) := by
  obtain ⟨hx, hb, hr, hml, hown, hts, hlk, hK, hN⟩ := id C
  intro x2 x3 hf hP ls hl
  unfold Fi_by_b7 at hf
  refine lv_iload_n hx hb dX1_by_7 rfl (lv_at hl 3 rfl) ?_
  refine lv_aload_n hx hb dX1_by_8 rfl (lv_at hl 0 rfl) ?_
  refine va_get (ci := 1) (v := .int f_pieceCount) (C := RX1) (T := TX1) (N := 6) hx hb hts inX1 hown hK hP 0 rfl rfl 2 (by decide) (hts _ tw_188) (fun _ h9 => h9) rfl dX1_by_9 ?_
  refine lv_icmp_ge (tgt := 38) hx hb dX1_by_12 (by decide) (fun hc => ?_) (fun hc => ?_)
  · have hf := kpos hc hf
    refine lv_iload_n hx hb dX1_by_38 rfl (lv_at hl 2 rfl) ?_
    have e1 := Option.some.inj hf
    subst e1
    exact kretR C dX1_by_39
  · have hf := kneg hc hf
    refine lv_iload_n hx hb dX1_by_15 rfl (lv_at hl 1 rfl) ?_
    refine lv_iconst (v := 1) hx hb dX1_by_16 (by decide) ?_
    refine lv_iload_n hx hb dX1_by_17 rfl (lv_at hl 3 rfl) ?_
    refine lv_ishl hx hb dX1_by_18 ?_
    refine lv_iand hx hb dX1_by_19 ?_
    refine lv_if_eq (tgt := 32) hx hb dX1_by_20 (by decide) (fun hc => ?_) (fun hc => ?_)
    · have hf := kpos hc hf
      exact t_Fi_by_b32 C a_this a_pieceFits a_inOrder f_allFit f_ordered F f_pieceCount f_songFits f_pieceFits x1 r rec7 hr7 x2 x3 hf hP _ (lv_sub hl [0, 1, 2, 3] rfl)
    · have hf := kneg hc hf
      refine lv_iload_n hx hb dX1_by_23 rfl (lv_at hl 2 rfl) ?_
      refine lv_aload_n hx hb dX1_by_24 rfl (lv_at hl 0 rfl) ?_
      refine va_get (ci := 1) (v := .ref a_pieceFits) (C := RX1) (T := TX1) (N := 6) hx hb hts inX1 hown hK hP 0 rfl rfl 0 (by decide) (hts _ tw_186) (fun _ h9 => h9) rfl dX1_by_25 ?_
      refine lv_iload_n hx hb dX1_by_28 rfl (lv_at hl 3 rfl) ?_
      obtain ⟨hin, hf⟩ := rd_some hf
      generalize ev29 : f_pieceFits (Int32.toNatClampNeg x3) = v29 at hf
      refine kiald hx hb hK hP 1 0 rfl rfl hin ev29 dX1_by_29 ?_
      refine lv_iand hx hb dX1_by_30 ?_
      refine lv_istore_n (lv' := [(2, .int (x2 &&& v29)), (0, .ref a_this), (1, .int x1), (3, .int x3)]) hx hb dX1_by_31 rfl hl (by decide) rfl (fun ls hl => ?_)
      exact t_Fi_by_b32 C a_this a_pieceFits a_inOrder f_allFit f_ordered F f_pieceCount f_songFits f_pieceFits x1 r rec7 hr7 (x2 &&& v29) x3 hf hP _ (lv_sub hl [1, 2, 0, 3] rfl)
set_option maxHeartbeats 4000000 in
set_option maxRecDepth 100000 in
theorem t_Fi_by_l7 {p : Program} {l : Launch} {e : Env} {s : State} {m : MethodId} {args : Array Value} {below : List Frame} {meth : Method} {c : Code} {D : va_G} {ct : Nat → ClassId} (C : CX p s m args meth c RX1 cX1_by 4 (some .int) D ct) (a_this a_pieceFits a_inOrder : Nat) (f_allFit : Int32) (f_ordered : Int32) (F : Nat) (f_pieceCount : Int32) (f_songFits : Int32) (f_pieceFits : Nat → Int32) (x1 : Int32) (r : Int32) : ∀ (n : Nat) (x2 : Int32) (x3 : Int32), Fi_by_l7 F f_pieceCount f_songFits f_pieceFits x1 n x2 x3 = some r → va_P D vwCl (w_Fi_by ct a_this a_pieceFits a_inOrder f_pieceCount f_songFits f_allFit f_ordered f_pieceFits) s.heap → ∀ ls : Array Slot, lv_has ls 4 [(0, .ref a_this), (1, .int x1), (2, .int x2), (3, .int x3)] → W p l e RM_Fi_by s m args below meth c s.heap [] 0 0 (MQ below (QR (some (.int r))) args s 0 0 (fun _ => False)) (F0 m 7 ls []) := by
  intro n
  induction n with
  | zero =>
    intro x2 x3 hf
    exact absurd hf (by simp [Fi_by_l7])
  | succ n ih =>
    intro x2 x3 hf
    exact t_Fi_by_b7 C a_this a_pieceFits a_inOrder f_allFit f_ordered F f_pieceCount f_songFits f_pieceFits x1 r (Fi_by_l7 F f_pieceCount f_songFits f_pieceFits x1 n) ih x2 x3 hf
set_option maxHeartbeats 4000000 in
set_option maxRecDepth 100000 in
theorem c_Fi_by (l : Launch) (D : va_G) (ct : Nat → ClassId) (a_this a_pieceFits a_inOrder : Nat) (f_allFit : Int32) (f_ordered : Int32) (F : Nat) (f_pieceCount : Int32) (f_songFits : Int32) (f_pieceFits : Nat → Int32) (x1 : Int32) (r : Int32) (hf : Fi_by F f_pieceCount f_songFits f_pieceFits x1 = some r) : Met l yX1_by (WS yX1_by cX1_by 4 (some .int)) RM_Fi_by (va_Pc [.ref a_this, .int x1] (PR D ct (w_Fi_by ct a_this a_pieceFits a_inOrder f_pieceCount f_songFits f_allFit f_ordered f_pieceFits))) (QR (some (.int r))) 0 0 (fun _ => False) := by
  refine kMetR yn_yX1_by rfl (Nat.le_of_ble_eq_true rfl) ?_
  intro p e s m args below meth c C hP ls hl
  have hl : lv_has ls 4 [(0, .ref a_this), (1, .int x1)] := hl
  obtain ⟨hx, hb, hr, hml, hown, hts, hlk, hK, hN⟩ := id C
  unfold Fi_by at hf
  refine lv_aload_n hx hb dX1_by_0 rfl (lv_at hl 0 rfl) ?_
  refine va_get (ci := 1) (v := .int f_songFits) (C := RX1) (T := TX1) (N := 6) hx hb hts inX1 hown hK hP 0 rfl rfl 3 (by decide) (hts _ tw_189) (fun _ h9 => h9) rfl dX1_by_1 ?_
  refine lv_istore_n (lv' := [(2, .int f_songFits), (0, .ref a_this), (1, .int x1)]) hx hb dX1_by_4 rfl hl (by decide) rfl (fun ls hl => ?_)
  refine lv_iconst (v := 0) hx hb dX1_by_5 (by decide) ?_
  refine lv_istore_n (lv' := [(3, .int 0), (2, .int f_songFits), (0, .ref a_this), (1, .int x1)]) hx hb dX1_by_6 rfl hl (by decide) rfl (fun ls hl => ?_)
  exact t_Fi_by_l7 C a_this a_pieceFits a_inOrder f_allFit f_ordered F f_pieceCount f_songFits f_pieceFits x1 r F f_songFits 0 hf hP _ (lv_sub hl [2, 3, 1, 0] rfl)
def RM_Na_oddsOf : Room := { frames := 0, cells := 0, slots := 0, locals := 0 }
set_option maxHeartbeats 4000000 in
set_option maxRecDepth 100000 in
theorem c_Na_oddsOf (l : Launch) (D : va_G) (ct : Nat → ClassId) (a_this a_odds a_lengths a_letters a_alike a_oddsTogether : Nat) (f_fault : Int32) (f_size : Int32) (f_odds : Nat → Int32) (x1 : Int32) (r : Int32) (hf : Na_oddsOf f_size f_odds x1 = some r) : Met l yX3_oddsOf (WS yX3_oddsOf cX3_oddsOf 2 (some .int)) RM_Na_oddsOf (va_Pc [.ref a_this, .int x1] (PR D ct (w_Na_oddsOf ct a_this a_odds a_lengths a_letters a_alike a_oddsTogether f_size f_fault f_odds))) (QR (some (.int r))) 0 0 (fun _ => False) := by
  refine kMetR yn_yX3_oddsOf rfl (Nat.le_of_ble_eq_true rfl) ?_
  intro p e s m args below meth c C hP ls hl
  have hl : lv_has ls 2 [(0, .ref a_this), (1, .int x1)] := hl
  obtain ⟨hx, hb, hr, hml, hown, hts, hlk, hK, hN⟩ := id C
  unfold Na_oddsOf at hf
  refine lv_iload_n hx hb dX3_oddsOf_0 rfl (lv_at hl 1 rfl) ?_
  refine lv_if_lt (tgt := 21) hx hb dX3_oddsOf_1 (by decide) (fun hc => ?_) (fun hc => ?_)
  · have hf := kpos hc hf
    refine lv_iconst (v := 0) hx hb dX3_oddsOf_21 (by decide) ?_
    have e1 := Option.some.inj hf
    subst e1
    exact kretR C dX3_oddsOf_22
  · have hf := kneg hc hf
    refine lv_iload_n hx hb dX3_oddsOf_4 rfl (lv_at hl 1 rfl) ?_
    refine lv_aload_n hx hb dX3_oddsOf_5 rfl (lv_at hl 0 rfl) ?_
    refine va_get (ci := 3) (v := .int f_size) (C := RX3) (T := TX3) (N := 7) hx hb hts inX3 hown hK hP 0 rfl rfl 5 (by decide) (hts _ tw_124) (fun _ h9 => h9) rfl dX3_oddsOf_6 ?_
    refine lv_icmp_ge (tgt := 21) hx hb dX3_oddsOf_9 (by decide) (fun hc => ?_) (fun hc => ?_)
    · have hf := kpos hc hf
      refine lv_iconst (v := 0) hx hb dX3_oddsOf_21 (by decide) ?_
      have e1 := Option.some.inj hf
      subst e1
      exact kretR C dX3_oddsOf_22
    · have hf := kneg hc hf
      refine lv_aload_n hx hb dX3_oddsOf_12 rfl (lv_at hl 0 rfl) ?_
      refine va_get (ci := 3) (v := .ref a_odds) (C := RX3) (T := TX3) (N := 7) hx hb hts inX3 hown hK hP 0 rfl rfl 0 (by decide) (hts _ tw_119) (fun _ h9 => h9) rfl dX3_oddsOf_13 ?_
      refine lv_iload_n hx hb dX3_oddsOf_16 rfl (lv_at hl 1 rfl) ?_
      obtain ⟨hin, hf⟩ := rd_some hf
      generalize ev17 : f_odds (Int32.toNatClampNeg x1) = v17 at hf
      refine kiald hx hb hK hP 1 0 rfl rfl hin ev17 dX3_oddsOf_17 ?_
      refine lv_goto (tgt := 22) hx hb dX3_oddsOf_18 (by decide) ?_
      have e1 := Option.some.inj hf
      subst e1
      exact kretR C dX3_oddsOf_22
def RM_Fi_order : Room := { frames := 1, cells := 0, slots := 0, locals := 21 }
set_option maxHeartbeats 4000000 in
set_option maxRecDepth 100000 in
theorem t_Fi_order_b78 {p : Program} {l : Launch} {e : Env} {s : State} {m : MethodId} {args : Array Value} {below : List Frame} {meth : Method} {c : Code} {D : va_G} {ct : Nat → ClassId} (C : CX p s m args meth c RX1 cX1_order 4 none D ct) {A : Nat → Prop} (hA : ∀ q : Nat, s.heap.size ≤ q → A q) (a_this a_pieceFits a_inOrder a_p1 a_p1_odds a_p1_lengths a_p1_letters a_p1_alike a_p1_oddsTogether : Nat) (f_pieceCount : Int32) (f_songFits : Int32) (f_p1_fault : Int32) (F : Nat) (f_allFit : Int32) (f_p1_size : Int32) (f_p1_odds : Nat → Int32) (r_ordered : Int32) (r_inOrder : Nat → Int32) (rec8 : Int32 → Int32 → (Nat → Int32) → Option (Int32 × (Nat → Int32))) (hr8 : ∀ (x2 : Int32) (f_ordered : Int32) (f_inOrder : Nat → Int32), rec8 x2 f_ordered f_inOrder = some (r_ordered, r_inOrder) → ∀ (H : Heap) (locs : List Loc), va_P D vwCl (w_Fi_order ct a_this a_pieceFits a_inOrder a_p1 a_p1_odds a_p1_lengths a_p1_letters a_p1_alike a_p1_oddsTogether f_pieceCount f_songFits f_allFit f_ordered f_inOrder f_p1_size f_p1_fault f_p1_odds) H → va_D A (w_Fi_order ct a_this a_pieceFits a_inOrder a_p1 a_p1_odds a_p1_lengths a_p1_letters a_p1_alike a_p1_oddsTogether f_pieceCount f_songFits f_allFit f_ordered f_inOrder f_p1_size f_p1_fault f_p1_odds) → va_S A s.heap H locs → ∀ ls : Array Slot, lv_has ls 4 [(0, .ref a_this), (1, .ref a_p1), (2, .int x2)] → W p l e RM_Fi_order s m args below meth c H locs 0 0 (MQ below (QM D none (w_Fi_order ct a_this a_pieceFits a_inOrder a_p1 a_p1_odds a_p1_lengths a_p1_letters a_p1_alike a_p1_oddsTogether f_pieceCount f_songFits f_allFit r_ordered r_inOrder f_p1_size f_p1_fault f_p1_odds) A) args s 0 0 A) (F0 m 8 ls [])) : ∀ (x2 : Int32) (f_ordered : Int32) (f_inOrder : Nat → Int32), Fi_order_b78 F f_allFit f_p1_size f_p1_odds rec8 x2 f_ordered f_inOrder = some (r_ordered, r_inOrder) → ∀ (H : Heap) (locs : List Loc), va_P D vwCl (w_Fi_order ct a_this a_pieceFits a_inOrder a_p1 a_p1_odds a_p1_lengths a_p1_letters a_p1_alike a_p1_oddsTogether f_pieceCount f_songFits f_allFit f_ordered f_inOrder f_p1_size f_p1_fault f_p1_odds) H → va_D A (w_Fi_order ct a_this a_pieceFits a_inOrder a_p1 a_p1_odds a_p1_lengths a_p1_letters a_p1_alike a_p1_oddsTogether f_pieceCount f_songFits f_allFit f_ordered f_inOrder f_p1_size f_p1_fault f_p1_odds) → va_S A s.heap H locs → ∀ ls : Array Slot, lv_has ls 4 [(0, .ref a_this), (1, .ref a_p1), (2, .int x2)] → W p l e RM_Fi_order s m args below meth c H locs 0 0 (MQ below (QM D none (w_Fi_order ct a_this a_pieceFits a_inOrder a_p1 a_p1_odds a_p1_lengths a_p1_letters a_p1_alike a_p1_oddsTogether f_pieceCount f_songFits f_allFit r_ordered r_inOrder f_p1_size f_p1_fault f_p1_odds) A) args s 0 0 A) (F0 m 78 ls []) := by
  obtain ⟨hx, hb, hr, hml, hown, hts, hlk, hK, hN⟩ := id C
  intro x2 f_ordered f_inOrder hf H locs hP hD hS ls hl
  unfold Fi_order_b78 at hf
  refine lv_iinc (v := x2 + (-1)) (lv' := [(2, .int (x2 + (-1))), (0, .ref a_this), (1, .ref a_p1)]) hx hb dX1_order_78 hl (k := 2) rfl rfl (by decide) rfl (fun ls hl => ?_)
  refine lv_goto (tgt := 8) hx hb dX1_order_81 (by decide) ?_
  exact hr8 (x2 + (-1)) f_ordered f_inOrder hf _ _ hP hD hS _ (lv_sub hl [1, 2, 0] rfl)
set_option maxHeartbeats 4000000 in
set_option maxRecDepth 100000 in
theorem t_Fi_order_b72 {p : Program} {l : Launch} {e : Env} {s : State} {m : MethodId} {args : Array Value} {below : List Frame} {meth : Method} {c : Code} {D : va_G} {ct : Nat → ClassId} (C : CX p s m args meth c RX1 cX1_order 4 none D ct) {A : Nat → Prop} (hA : ∀ q : Nat, s.heap.size ≤ q → A q) (a_this a_pieceFits a_inOrder a_p1 a_p1_odds a_p1_lengths a_p1_letters a_p1_alike a_p1_oddsTogether : Nat) (f_pieceCount : Int32) (f_songFits : Int32) (f_p1_fault : Int32) (F : Nat) (f_allFit : Int32) (f_p1_size : Int32) (f_p1_odds : Nat → Int32) (r_ordered : Int32) (r_inOrder : Nat → Int32) (rec8 : Int32 → Int32 → (Nat → Int32) → Option (Int32 × (Nat → Int32))) (rec15 : Int32 → Int32 → Int32 → (Nat → Int32) → Option (Int32 × (Nat → Int32))) (hr8 : ∀ (x2 : Int32) (f_ordered : Int32) (f_inOrder : Nat → Int32), rec8 x2 f_ordered f_inOrder = some (r_ordered, r_inOrder) → ∀ (H : Heap) (locs : List Loc), va_P D vwCl (w_Fi_order ct a_this a_pieceFits a_inOrder a_p1 a_p1_odds a_p1_lengths a_p1_letters a_p1_alike a_p1_oddsTogether f_pieceCount f_songFits f_allFit f_ordered f_inOrder f_p1_size f_p1_fault f_p1_odds) H → va_D A (w_Fi_order ct a_this a_pieceFits a_inOrder a_p1 a_p1_odds a_p1_lengths a_p1_letters a_p1_alike a_p1_oddsTogether f_pieceCount f_songFits f_allFit f_ordered f_inOrder f_p1_size f_p1_fault f_p1_odds) → va_S A s.heap H locs → ∀ ls : Array Slot, lv_has ls 4 [(0, .ref a_this), (1, .ref a_p1), (2, .int x2)] → W p l e RM_Fi_order s m args below meth c H locs 0 0 (MQ below (QM D none (w_Fi_order ct a_this a_pieceFits a_inOrder a_p1 a_p1_odds a_p1_lengths a_p1_letters a_p1_alike a_p1_oddsTogether f_pieceCount f_songFits f_allFit r_ordered r_inOrder f_p1_size f_p1_fault f_p1_odds) A) args s 0 0 A) (F0 m 8 ls [])) (hr15 : ∀ (x2 : Int32) (x3 : Int32) (f_ordered : Int32) (f_inOrder : Nat → Int32), rec15 x2 x3 f_ordered f_inOrder = some (r_ordered, r_inOrder) → ∀ (H : Heap) (locs : List Loc), va_P D vwCl (w_Fi_order ct a_this a_pieceFits a_inOrder a_p1 a_p1_odds a_p1_lengths a_p1_letters a_p1_alike a_p1_oddsTogether f_pieceCount f_songFits f_allFit f_ordered f_inOrder f_p1_size f_p1_fault f_p1_odds) H → va_D A (w_Fi_order ct a_this a_pieceFits a_inOrder a_p1 a_p1_odds a_p1_lengths a_p1_letters a_p1_alike a_p1_oddsTogether f_pieceCount f_songFits f_allFit f_ordered f_inOrder f_p1_size f_p1_fault f_p1_odds) → va_S A s.heap H locs → ∀ ls : Array Slot, lv_has ls 4 [(0, .ref a_this), (1, .ref a_p1), (2, .int x2), (3, .int x3)] → W p l e RM_Fi_order s m args below meth c H locs 0 0 (MQ below (QM D none (w_Fi_order ct a_this a_pieceFits a_inOrder a_p1 a_p1_odds a_p1_lengths a_p1_letters a_p1_alike a_p1_oddsTogether f_pieceCount f_songFits f_allFit r_ordered r_inOrder f_p1_size f_p1_fault f_p1_odds) A) args s 0 0 A) (F0 m 15 ls [])) : ∀ (x2 : Int32) (x3 : Int32) (f_ordered : Int32) (f_inOrder : Nat → Int32), Fi_order_b72 F f_allFit f_p1_size f_p1_odds rec8 rec15 x2 x3 f_ordered f_inOrder = some (r_ordered, r_inOrder) → ∀ (H : Heap) (locs : List Loc), va_P D vwCl (w_Fi_order ct a_this a_pieceFits a_inOrder a_p1 a_p1_odds a_p1_lengths a_p1_letters a_p1_alike a_p1_oddsTogether f_pieceCount f_songFits f_allFit f_ordered f_inOrder f_p1_size f_p1_fault f_p1_odds) H → va_D A (w_Fi_order ct a_this a_pieceFits a_inOrder a_p1 a_p1_odds a_p1_lengths a_p1_letters a_p1_alike a_p1_oddsTogether f_pieceCount f_songFits f_allFit f_ordered f_inOrder f_p1_size f_p1_fault f_p1_odds) → va_S A s.heap H locs → ∀ ls : Array Slot, lv_has ls 4 [(0, .ref a_this), (1, .ref a_p1), (2, .int x2), (3, .int x3)] → W p l e RM_Fi_order s m args below meth c H locs 0 0 (MQ below (QM D none (w_Fi_order ct a_this a_pieceFits a_inOrder a_p1 a_p1_odds a_p1_lengths a_p1_letters a_p1_alike a_p1_oddsTogether f_pieceCount f_songFits f_allFit r_ordered r_inOrder f_p1_size f_p1_fault f_p1_odds) A) args s 0 0 A) (F0 m 72 ls []) := by
  obtain ⟨hx, hb, hr, hml, hown, hts, hlk, hK, hN⟩ := id C
  intro x2 x3 f_ordered f_inOrder hf H locs hP hD hS ls hl
  unfold Fi_order_b72 at hf
  refine lv_iinc (v := x3 + 1) (lv' := [(3, .int (x3 + 1)), (0, .ref a_this), (1, .ref a_p1), (2, .int x2)]) hx hb dX1_order_72 hl (k := 3) rfl rfl (by decide) rfl (fun ls hl => ?_)
  refine lv_goto (tgt := 15) hx hb dX1_order_75 (by decide) ?_
  exact hr15 x2 (x3 + 1) f_ordered f_inOrder hf _ _ hP hD hS _ (lv_sub hl [1, 2, 3, 0] rfl)
set_option maxHeartbeats 4000000 in
set_option maxRecDepth 100000 in
theorem t_Fi_order_b15 {p : Program} {l : Launch} {e : Env} {s : State} {m : MethodId} {args : Array Value} {below : List Frame} {meth : Method} {c : Code} {D : va_G} {ct : Nat → ClassId} (C : CX p s m args meth c RX1 cX1_order 4 none D ct) {A : Nat → Prop} (hA : ∀ q : Nat, s.heap.size ≤ q → A q) (a_this a_pieceFits a_inOrder a_p1 a_p1_odds a_p1_lengths a_p1_letters a_p1_alike a_p1_oddsTogether : Nat) (f_pieceCount : Int32) (f_songFits : Int32) (f_p1_fault : Int32) (F : Nat) (f_allFit : Int32) (f_p1_size : Int32) (f_p1_odds : Nat → Int32) (r_ordered : Int32) (r_inOrder : Nat → Int32) (rec8 : Int32 → Int32 → (Nat → Int32) → Option (Int32 × (Nat → Int32))) (rec15 : Int32 → Int32 → Int32 → (Nat → Int32) → Option (Int32 × (Nat → Int32))) (hr8 : ∀ (x2 : Int32) (f_ordered : Int32) (f_inOrder : Nat → Int32), rec8 x2 f_ordered f_inOrder = some (r_ordered, r_inOrder) → ∀ (H : Heap) (locs : List Loc), va_P D vwCl (w_Fi_order ct a_this a_pieceFits a_inOrder a_p1 a_p1_odds a_p1_lengths a_p1_letters a_p1_alike a_p1_oddsTogether f_pieceCount f_songFits f_allFit f_ordered f_inOrder f_p1_size f_p1_fault f_p1_odds) H → va_D A (w_Fi_order ct a_this a_pieceFits a_inOrder a_p1 a_p1_odds a_p1_lengths a_p1_letters a_p1_alike a_p1_oddsTogether f_pieceCount f_songFits f_allFit f_ordered f_inOrder f_p1_size f_p1_fault f_p1_odds) → va_S A s.heap H locs → ∀ ls : Array Slot, lv_has ls 4 [(0, .ref a_this), (1, .ref a_p1), (2, .int x2)] → W p l e RM_Fi_order s m args below meth c H locs 0 0 (MQ below (QM D none (w_Fi_order ct a_this a_pieceFits a_inOrder a_p1 a_p1_odds a_p1_lengths a_p1_letters a_p1_alike a_p1_oddsTogether f_pieceCount f_songFits f_allFit r_ordered r_inOrder f_p1_size f_p1_fault f_p1_odds) A) args s 0 0 A) (F0 m 8 ls [])) (hr15 : ∀ (x2 : Int32) (x3 : Int32) (f_ordered : Int32) (f_inOrder : Nat → Int32), rec15 x2 x3 f_ordered f_inOrder = some (r_ordered, r_inOrder) → ∀ (H : Heap) (locs : List Loc), va_P D vwCl (w_Fi_order ct a_this a_pieceFits a_inOrder a_p1 a_p1_odds a_p1_lengths a_p1_letters a_p1_alike a_p1_oddsTogether f_pieceCount f_songFits f_allFit f_ordered f_inOrder f_p1_size f_p1_fault f_p1_odds) H → va_D A (w_Fi_order ct a_this a_pieceFits a_inOrder a_p1 a_p1_odds a_p1_lengths a_p1_letters a_p1_alike a_p1_oddsTogether f_pieceCount f_songFits f_allFit f_ordered f_inOrder f_p1_size f_p1_fault f_p1_odds) → va_S A s.heap H locs → ∀ ls : Array Slot, lv_has ls 4 [(0, .ref a_this), (1, .ref a_p1), (2, .int x2), (3, .int x3)] → W p l e RM_Fi_order s m args below meth c H locs 0 0 (MQ below (QM D none (w_Fi_order ct a_this a_pieceFits a_inOrder a_p1 a_p1_odds a_p1_lengths a_p1_letters a_p1_alike a_p1_oddsTogether f_pieceCount f_songFits f_allFit r_ordered r_inOrder f_p1_size f_p1_fault f_p1_odds) A) args s 0 0 A) (F0 m 15 ls [])) : ∀ (x2 : Int32) (x3 : Int32) (f_ordered : Int32) (f_inOrder : Nat → Int32), Fi_order_b15 F f_allFit f_p1_size f_p1_odds rec8 rec15 x2 x3 f_ordered f_inOrder = some (r_ordered, r_inOrder) → ∀ (H : Heap) (locs : List Loc), va_P D vwCl (w_Fi_order ct a_this a_pieceFits a_inOrder a_p1 a_p1_odds a_p1_lengths a_p1_letters a_p1_alike a_p1_oddsTogether f_pieceCount f_songFits f_allFit f_ordered f_inOrder f_p1_size f_p1_fault f_p1_odds) H → va_D A (w_Fi_order ct a_this a_pieceFits a_inOrder a_p1 a_p1_odds a_p1_lengths a_p1_letters a_p1_alike a_p1_oddsTogether f_pieceCount f_songFits f_allFit f_ordered f_inOrder f_p1_size f_p1_fault f_p1_odds) → va_S A s.heap H locs → ∀ ls : Array Slot, lv_has ls 4 [(0, .ref a_this), (1, .ref a_p1), (2, .int x2), (3, .int x3)] → W p l e RM_Fi_order s m args below meth c H locs 0 0 (MQ below (QM D none (w_Fi_order ct a_this a_pieceFits a_inOrder a_p1 a_p1_odds a_p1_lengths a_p1_letters a_p1_alike a_p1_oddsTogether f_pieceCount f_songFits f_allFit r_ordered r_inOrder f_p1_size f_p1_fault f_p1_odds) A) args s 0 0 A) (F0 m 15 ls []) := by
  obtain ⟨hx, hb, hr, hml, hown, hts, hlk, hK, hN⟩ := id C
  intro x2 x3 f_ordered f_inOrder hf H locs hP hD hS ls hl
  unfold Fi_order_b15 at hf
  refine lv_iload_n hx hb dX1_order_15 rfl (lv_at hl 3 rfl) ?_
  refine lv_aload_n hx hb dX1_order_16 rfl (lv_at hl 1 rfl) ?_
  obtain ⟨v17, hc17, hf⟩ := cb1_some hf
  refine kcRV (q0 := 2) (ci := 3) (As := []) (rest := [.int x3]) (st1 := [.int v17, .int x3]) C (c_Na_size l D ct a_p1 a_p1_odds a_p1_lengths a_p1_letters a_p1_alike a_p1_oddsTogether f_p1_fault f_p1_size v17 hc17) ⟨rfl, rfl⟩ yn_yX3_size tw_445 tw_446 tw_444 ⟨Nat.le_of_ble_eq_true rfl, Nat.le_of_ble_eq_true rfl⟩ ⟨Nat.zero_le _, Nat.zero_le _⟩ hP [2] rfl rfl rfl rfl hl.1 rfl rfl (Nat.le_of_ble_eq_true rfl) dX1_order_17 rfl ?_
  refine lv_icmp_ge (tgt := 78) hx hb dX1_order_20 (by decide) (fun hc => ?_) (fun hc => ?_)
  · have hf := kpos hc hf
    exact t_Fi_order_b78 C hA a_this a_pieceFits a_inOrder a_p1 a_p1_odds a_p1_lengths a_p1_letters a_p1_alike a_p1_oddsTogether f_pieceCount f_songFits f_p1_fault F f_allFit f_p1_size f_p1_odds r_ordered r_inOrder rec8 hr8 x2 f_ordered f_inOrder hf _ _ hP hD hS _ (lv_sub hl [0, 1, 2] rfl)
  · have hf := kneg hc hf
    refine lv_aload_n hx hb dX1_order_23 rfl (lv_at hl 0 rfl) ?_
    refine va_get (ci := 1) (v := .int f_allFit) (C := RX1) (T := TX1) (N := 6) hx hb hts inX1 hown hK hP 0 rfl rfl 4 (by decide) (hts _ tw_190) (fun _ h9 => h9) rfl dX1_order_24 ?_
    refine lv_iconst (v := 1) hx hb dX1_order_27 (by decide) ?_
    refine lv_iload_n hx hb dX1_order_28 rfl (lv_at hl 3 rfl) ?_
    refine lv_ishl hx hb dX1_order_29 ?_
    refine lv_iand hx hb dX1_order_30 ?_
    refine lv_if_eq (tgt := 72) hx hb dX1_order_31 (by decide) (fun hc => ?_) (fun hc => ?_)
    · have hf := kpos hc hf
      exact t_Fi_order_b72 C hA a_this a_pieceFits a_inOrder a_p1 a_p1_odds a_p1_lengths a_p1_letters a_p1_alike a_p1_oddsTogether f_pieceCount f_songFits f_p1_fault F f_allFit f_p1_size f_p1_odds r_ordered r_inOrder rec8 rec15 hr8 hr15 x2 x3 f_ordered f_inOrder hf _ _ hP hD hS _ (lv_sub hl [0, 1, 2, 3] rfl)
    · have hf := kneg hc hf
      refine lv_aload_n hx hb dX1_order_34 rfl (lv_at hl 1 rfl) ?_
      refine lv_iload_n hx hb dX1_order_35 rfl (lv_at hl 3 rfl) ?_
      obtain ⟨v36, hc36, hf⟩ := cb1_some hf
      refine kcRV (q0 := 2) (ci := 3) (As := [.int x3]) (rest := []) (st1 := [.int v36]) C (c_Na_oddsOf l D ct a_p1 a_p1_odds a_p1_lengths a_p1_letters a_p1_alike a_p1_oddsTogether f_p1_fault f_p1_size f_p1_odds x3 v36 hc36) ⟨rfl, rfl⟩ yn_yX3_oddsOf tw_476 tw_477 tw_475 ⟨Nat.le_of_ble_eq_true rfl, Nat.le_of_ble_eq_true rfl⟩ ⟨Nat.zero_le _, Nat.zero_le _⟩ hP [2, 3] rfl rfl rfl rfl hl.1 rfl rfl (Nat.le_of_ble_eq_true rfl) dX1_order_36 rfl ?_
      refine lv_iload_n hx hb dX1_order_39 rfl (lv_at hl 2 rfl) ?_
      refine lv_icmp_ne (tgt := 72) hx hb dX1_order_40 (by decide) (fun hc => ?_) (fun hc => ?_)
      · have hf := kneg hc hf
        exact t_Fi_order_b72 C hA a_this a_pieceFits a_inOrder a_p1 a_p1_odds a_p1_lengths a_p1_letters a_p1_alike a_p1_oddsTogether f_pieceCount f_songFits f_p1_fault F f_allFit f_p1_size f_p1_odds r_ordered r_inOrder rec8 rec15 hr8 hr15 x2 x3 f_ordered f_inOrder hf _ _ hP hD hS _ (lv_sub hl [0, 1, 2, 3] rfl)
      · have hf := kpos hc hf
        refine lv_aload_n hx hb dX1_order_43 rfl (lv_at hl 0 rfl) ?_
        refine va_get (ci := 1) (v := .int f_ordered) (C := RX1) (T := TX1) (N := 6) hx hb hts inX1 hown hK hP 0 rfl rfl 5 (by decide) (hts _ tw_191) (fun _ h9 => h9) rfl dX1_order_44 ?_
        refine lv_bipush (v := 10) hx hb dX1_order_47 (by decide) ?_
        refine lv_icmp_ge (tgt := 72) hx hb dX1_order_49 (by decide) (fun hc => ?_) (fun hc => ?_)
        · have hf := kpos hc hf
          exact t_Fi_order_b72 C hA a_this a_pieceFits a_inOrder a_p1 a_p1_odds a_p1_lengths a_p1_letters a_p1_alike a_p1_oddsTogether f_pieceCount f_songFits f_p1_fault F f_allFit f_p1_size f_p1_odds r_ordered r_inOrder rec8 rec15 hr8 hr15 x2 x3 f_ordered f_inOrder hf _ _ hP hD hS _ (lv_sub hl [0, 1, 2, 3] rfl)
        · have hf := kneg hc hf
          refine lv_aload_n hx hb dX1_order_52 rfl (lv_at hl 0 rfl) ?_
          refine va_get (ci := 1) (v := .ref a_inOrder) (C := RX1) (T := TX1) (N := 6) hx hb hts inX1 hown hK hP 0 rfl rfl 1 (by decide) (hts _ tw_187) (fun _ h9 => h9) rfl dX1_order_53 ?_
          refine lv_aload_n hx hb dX1_order_56 rfl (lv_at hl 0 rfl) ?_
          refine va_get (ci := 1) (v := .int f_ordered) (C := RX1) (T := TX1) (N := 6) hx hb hts inX1 hown hK hP 0 rfl rfl 5 (by decide) (hts _ tw_191) (fun _ h9 => h9) rfl dX1_order_57 ?_
          refine lv_iload_n hx hb dX1_order_60 rfl (lv_at hl 3 rfl) ?_
          obtain ⟨hin, f_inOrder_61, ev61, hf⟩ := wr_ex hf
          refine kiast hx hb hK hP hD hS 1 0 rfl rfl hin ev61 dX1_order_61 (fun H locs hP hD hS => ?_)
          have hP : va_P D vwCl (w_Fi_order ct a_this a_pieceFits a_inOrder a_p1 a_p1_odds a_p1_lengths a_p1_letters a_p1_alike a_p1_oddsTogether f_pieceCount f_songFits f_allFit f_ordered f_inOrder_61 f_p1_size f_p1_fault f_p1_odds) H := hP
          have hD : va_D A (w_Fi_order ct a_this a_pieceFits a_inOrder a_p1 a_p1_odds a_p1_lengths a_p1_letters a_p1_alike a_p1_oddsTogether f_pieceCount f_songFits f_allFit f_ordered f_inOrder_61 f_p1_size f_p1_fault f_p1_odds) := hD
          refine lv_aload_n hx hb dX1_order_62 rfl (lv_at hl 0 rfl) ?_
          refine lv_dup hx hb dX1_order_63 rfl ?_
          refine va_get (ci := 1) (v := .int f_ordered) (C := RX1) (T := TX1) (N := 6) hx hb hts inX1 hown hK hP 0 rfl rfl 5 (by decide) (hts _ tw_191) (fun _ h9 => h9) rfl dX1_order_64 ?_
          refine lv_iconst (v := 1) hx hb dX1_order_67 (by decide) ?_
          refine lv_iadd hx hb dX1_order_68 ?_
          refine va_put (ci := 1) (v := .int (f_ordered + 1)) (ty := .int) (C := RX1) (T := TX1) (N := 6) hx hb hts inX1 tyX1 tyX1_ok nmX1 hown hK hP hD hS 0 rfl rfl 5 (by decide) (hts _ tw_191) (fun _ h9 => h9) rfl (tyX1_ok 5 (by decide)) rfl rfl (Nat.le_of_ble_eq_true rfl) dX1_order_69 (fun H locs hP hD hS => ?_)
          have hP : va_P D vwCl (w_Fi_order ct a_this a_pieceFits a_inOrder a_p1 a_p1_odds a_p1_lengths a_p1_letters a_p1_alike a_p1_oddsTogether f_pieceCount f_songFits f_allFit (f_ordered + 1) f_inOrder_61 f_p1_size f_p1_fault f_p1_odds) H := hP
          have hD : va_D A (w_Fi_order ct a_this a_pieceFits a_inOrder a_p1 a_p1_odds a_p1_lengths a_p1_letters a_p1_alike a_p1_oddsTogether f_pieceCount f_songFits f_allFit (f_ordered + 1) f_inOrder_61 f_p1_size f_p1_fault f_p1_odds) := hD
          exact t_Fi_order_b72 C hA a_this a_pieceFits a_inOrder a_p1 a_p1_odds a_p1_lengths a_p1_letters a_p1_alike a_p1_oddsTogether f_pieceCount f_songFits f_p1_fault F f_allFit f_p1_size f_p1_odds r_ordered r_inOrder rec8 rec15 hr8 hr15 x2 x3 (f_ordered + 1) f_inOrder_61 hf _ _ hP hD hS _ (lv_sub hl [0, 1, 2, 3] rfl)
set_option maxHeartbeats 4000000 in
set_option maxRecDepth 100000 in
theorem t_Fi_order_l15 {p : Program} {l : Launch} {e : Env} {s : State} {m : MethodId} {args : Array Value} {below : List Frame} {meth : Method} {c : Code} {D : va_G} {ct : Nat → ClassId} (C : CX p s m args meth c RX1 cX1_order 4 none D ct) {A : Nat → Prop} (hA : ∀ q : Nat, s.heap.size ≤ q → A q) (a_this a_pieceFits a_inOrder a_p1 a_p1_odds a_p1_lengths a_p1_letters a_p1_alike a_p1_oddsTogether : Nat) (f_pieceCount : Int32) (f_songFits : Int32) (f_p1_fault : Int32) (F : Nat) (f_allFit : Int32) (f_p1_size : Int32) (f_p1_odds : Nat → Int32) (r_ordered : Int32) (r_inOrder : Nat → Int32) (rec8 : Int32 → Int32 → (Nat → Int32) → Option (Int32 × (Nat → Int32))) (hr8 : ∀ (x2 : Int32) (f_ordered : Int32) (f_inOrder : Nat → Int32), rec8 x2 f_ordered f_inOrder = some (r_ordered, r_inOrder) → ∀ (H : Heap) (locs : List Loc), va_P D vwCl (w_Fi_order ct a_this a_pieceFits a_inOrder a_p1 a_p1_odds a_p1_lengths a_p1_letters a_p1_alike a_p1_oddsTogether f_pieceCount f_songFits f_allFit f_ordered f_inOrder f_p1_size f_p1_fault f_p1_odds) H → va_D A (w_Fi_order ct a_this a_pieceFits a_inOrder a_p1 a_p1_odds a_p1_lengths a_p1_letters a_p1_alike a_p1_oddsTogether f_pieceCount f_songFits f_allFit f_ordered f_inOrder f_p1_size f_p1_fault f_p1_odds) → va_S A s.heap H locs → ∀ ls : Array Slot, lv_has ls 4 [(0, .ref a_this), (1, .ref a_p1), (2, .int x2)] → W p l e RM_Fi_order s m args below meth c H locs 0 0 (MQ below (QM D none (w_Fi_order ct a_this a_pieceFits a_inOrder a_p1 a_p1_odds a_p1_lengths a_p1_letters a_p1_alike a_p1_oddsTogether f_pieceCount f_songFits f_allFit r_ordered r_inOrder f_p1_size f_p1_fault f_p1_odds) A) args s 0 0 A) (F0 m 8 ls [])) : ∀ (n : Nat) (x2 : Int32) (x3 : Int32) (f_ordered : Int32) (f_inOrder : Nat → Int32), Fi_order_l15 F f_allFit f_p1_size f_p1_odds rec8 n x2 x3 f_ordered f_inOrder = some (r_ordered, r_inOrder) → ∀ (H : Heap) (locs : List Loc), va_P D vwCl (w_Fi_order ct a_this a_pieceFits a_inOrder a_p1 a_p1_odds a_p1_lengths a_p1_letters a_p1_alike a_p1_oddsTogether f_pieceCount f_songFits f_allFit f_ordered f_inOrder f_p1_size f_p1_fault f_p1_odds) H → va_D A (w_Fi_order ct a_this a_pieceFits a_inOrder a_p1 a_p1_odds a_p1_lengths a_p1_letters a_p1_alike a_p1_oddsTogether f_pieceCount f_songFits f_allFit f_ordered f_inOrder f_p1_size f_p1_fault f_p1_odds) → va_S A s.heap H locs → ∀ ls : Array Slot, lv_has ls 4 [(0, .ref a_this), (1, .ref a_p1), (2, .int x2), (3, .int x3)] → W p l e RM_Fi_order s m args below meth c H locs 0 0 (MQ below (QM D none (w_Fi_order ct a_this a_pieceFits a_inOrder a_p1 a_p1_odds a_p1_lengths a_p1_letters a_p1_alike a_p1_oddsTogether f_pieceCount f_songFits f_allFit r_ordered r_inOrder f_p1_size f_p1_fault f_p1_odds) A) args s 0 0 A) (F0 m 15 ls []) := by
  intro n
  induction n with
  | zero =>
    intro x2 x3 f_ordered f_inOrder hf
    exact absurd hf (by simp [Fi_order_l15])
  | succ n ih =>
    intro x2 x3 f_ordered f_inOrder hf
    exact t_Fi_order_b15 C hA a_this a_pieceFits a_inOrder a_p1 a_p1_odds a_p1_lengths a_p1_letters a_p1_alike a_p1_oddsTogether f_pieceCount f_songFits f_p1_fault F f_allFit f_p1_size f_p1_odds r_ordered r_inOrder rec8 (Fi_order_l15 F f_allFit f_p1_size f_p1_odds rec8 n) hr8 ih x2 x3 f_ordered f_inOrder hf
set_option maxHeartbeats 4000000 in
set_option maxRecDepth 100000 in
theorem t_Fi_order_b8 {p : Program} {l : Launch} {e : Env} {s : State} {m : MethodId} {args : Array Value} {below : List Frame} {meth : Method} {c : Code} {D : va_G} {ct : Nat → ClassId} (C : CX p s m args meth c RX1 cX1_order 4 none D ct) {A : Nat → Prop} (hA : ∀ q : Nat, s.heap.size ≤ q → A q) (a_this a_pieceFits a_inOrder a_p1 a_p1_odds a_p1_lengths a_p1_letters a_p1_alike a_p1_oddsTogether : Nat) (f_pieceCount : Int32) (f_songFits : Int32) (f_p1_fault : Int32) (F : Nat) (f_allFit : Int32) (f_p1_size : Int32) (f_p1_odds : Nat → Int32) (r_ordered : Int32) (r_inOrder : Nat → Int32) (rec8 : Int32 → Int32 → (Nat → Int32) → Option (Int32 × (Nat → Int32))) (hr8 : ∀ (x2 : Int32) (f_ordered : Int32) (f_inOrder : Nat → Int32), rec8 x2 f_ordered f_inOrder = some (r_ordered, r_inOrder) → ∀ (H : Heap) (locs : List Loc), va_P D vwCl (w_Fi_order ct a_this a_pieceFits a_inOrder a_p1 a_p1_odds a_p1_lengths a_p1_letters a_p1_alike a_p1_oddsTogether f_pieceCount f_songFits f_allFit f_ordered f_inOrder f_p1_size f_p1_fault f_p1_odds) H → va_D A (w_Fi_order ct a_this a_pieceFits a_inOrder a_p1 a_p1_odds a_p1_lengths a_p1_letters a_p1_alike a_p1_oddsTogether f_pieceCount f_songFits f_allFit f_ordered f_inOrder f_p1_size f_p1_fault f_p1_odds) → va_S A s.heap H locs → ∀ ls : Array Slot, lv_has ls 4 [(0, .ref a_this), (1, .ref a_p1), (2, .int x2)] → W p l e RM_Fi_order s m args below meth c H locs 0 0 (MQ below (QM D none (w_Fi_order ct a_this a_pieceFits a_inOrder a_p1 a_p1_odds a_p1_lengths a_p1_letters a_p1_alike a_p1_oddsTogether f_pieceCount f_songFits f_allFit r_ordered r_inOrder f_p1_size f_p1_fault f_p1_odds) A) args s 0 0 A) (F0 m 8 ls [])) : ∀ (x2 : Int32) (f_ordered : Int32) (f_inOrder : Nat → Int32), Fi_order_b8 F f_allFit f_p1_size f_p1_odds rec8 x2 f_ordered f_inOrder = some (r_ordered, r_inOrder) → ∀ (H : Heap) (locs : List Loc), va_P D vwCl (w_Fi_order ct a_this a_pieceFits a_inOrder a_p1 a_p1_odds a_p1_lengths a_p1_letters a_p1_alike a_p1_oddsTogether f_pieceCount f_songFits f_allFit f_ordered f_inOrder f_p1_size f_p1_fault f_p1_odds) H → va_D A (w_Fi_order ct a_this a_pieceFits a_inOrder a_p1 a_p1_odds a_p1_lengths a_p1_letters a_p1_alike a_p1_oddsTogether f_pieceCount f_songFits f_allFit f_ordered f_inOrder f_p1_size f_p1_fault f_p1_odds) → va_S A s.heap H locs → ∀ ls : Array Slot, lv_has ls 4 [(0, .ref a_this), (1, .ref a_p1), (2, .int x2)] → W p l e RM_Fi_order s m args below meth c H locs 0 0 (MQ below (QM D none (w_Fi_order ct a_this a_pieceFits a_inOrder a_p1 a_p1_odds a_p1_lengths a_p1_letters a_p1_alike a_p1_oddsTogether f_pieceCount f_songFits f_allFit r_ordered r_inOrder f_p1_size f_p1_fault f_p1_odds) A) args s 0 0 A) (F0 m 8 ls []) := by
  obtain ⟨hx, hb, hr, hml, hown, hts, hlk, hK, hN⟩ := id C
  intro x2 f_ordered f_inOrder hf H locs hP hD hS ls hl
  unfold Fi_order_b8 at hf
  refine lv_iload_n hx hb dX1_order_8 rfl (lv_at hl 2 rfl) ?_
  refine lv_iconst (v := 1) hx hb dX1_order_9 (by decide) ?_
  refine lv_icmp_lt (tgt := 84) hx hb dX1_order_10 (by decide) (fun hc => ?_) (fun hc => ?_)
  · have hf := kpos hc hf
    obtain ⟨e1, e2⟩ := ti2 hf
    subst e1; subst e2
    exact kretMv C hP hD hS dX1_order_84
  · have hf := kneg hc hf
    refine lv_iconst (v := 0) hx hb dX1_order_13 (by decide) ?_
    refine lv_istore_n (lv' := [(3, .int 0), (0, .ref a_this), (1, .ref a_p1), (2, .int x2)]) hx hb dX1_order_14 rfl hl (by decide) rfl (fun ls hl => ?_)
    exact t_Fi_order_l15 C hA a_this a_pieceFits a_inOrder a_p1 a_p1_odds a_p1_lengths a_p1_letters a_p1_alike a_p1_oddsTogether f_pieceCount f_songFits f_p1_fault F f_allFit f_p1_size f_p1_odds r_ordered r_inOrder rec8 hr8 F x2 0 f_ordered f_inOrder hf _ _ hP hD hS _ (lv_sub hl [1, 2, 3, 0] rfl)
set_option maxHeartbeats 4000000 in
set_option maxRecDepth 100000 in
theorem t_Fi_order_l8 {p : Program} {l : Launch} {e : Env} {s : State} {m : MethodId} {args : Array Value} {below : List Frame} {meth : Method} {c : Code} {D : va_G} {ct : Nat → ClassId} (C : CX p s m args meth c RX1 cX1_order 4 none D ct) {A : Nat → Prop} (hA : ∀ q : Nat, s.heap.size ≤ q → A q) (a_this a_pieceFits a_inOrder a_p1 a_p1_odds a_p1_lengths a_p1_letters a_p1_alike a_p1_oddsTogether : Nat) (f_pieceCount : Int32) (f_songFits : Int32) (f_p1_fault : Int32) (F : Nat) (f_allFit : Int32) (f_p1_size : Int32) (f_p1_odds : Nat → Int32) (r_ordered : Int32) (r_inOrder : Nat → Int32) : ∀ (n : Nat) (x2 : Int32) (f_ordered : Int32) (f_inOrder : Nat → Int32), Fi_order_l8 F f_allFit f_p1_size f_p1_odds n x2 f_ordered f_inOrder = some (r_ordered, r_inOrder) → ∀ (H : Heap) (locs : List Loc), va_P D vwCl (w_Fi_order ct a_this a_pieceFits a_inOrder a_p1 a_p1_odds a_p1_lengths a_p1_letters a_p1_alike a_p1_oddsTogether f_pieceCount f_songFits f_allFit f_ordered f_inOrder f_p1_size f_p1_fault f_p1_odds) H → va_D A (w_Fi_order ct a_this a_pieceFits a_inOrder a_p1 a_p1_odds a_p1_lengths a_p1_letters a_p1_alike a_p1_oddsTogether f_pieceCount f_songFits f_allFit f_ordered f_inOrder f_p1_size f_p1_fault f_p1_odds) → va_S A s.heap H locs → ∀ ls : Array Slot, lv_has ls 4 [(0, .ref a_this), (1, .ref a_p1), (2, .int x2)] → W p l e RM_Fi_order s m args below meth c H locs 0 0 (MQ below (QM D none (w_Fi_order ct a_this a_pieceFits a_inOrder a_p1 a_p1_odds a_p1_lengths a_p1_letters a_p1_alike a_p1_oddsTogether f_pieceCount f_songFits f_allFit r_ordered r_inOrder f_p1_size f_p1_fault f_p1_odds) A) args s 0 0 A) (F0 m 8 ls []) := by
  intro n
  induction n with
  | zero =>
    intro x2 f_ordered f_inOrder hf
    exact absurd hf (by simp [Fi_order_l8])
  | succ n ih =>
    intro x2 f_ordered f_inOrder hf
    exact t_Fi_order_b8 C hA a_this a_pieceFits a_inOrder a_p1 a_p1_odds a_p1_lengths a_p1_letters a_p1_alike a_p1_oddsTogether f_pieceCount f_songFits f_p1_fault F f_allFit f_p1_size f_p1_odds r_ordered r_inOrder (Fi_order_l8 F f_allFit f_p1_size f_p1_odds n) ih x2 f_ordered f_inOrder hf
set_option maxHeartbeats 4000000 in
set_option maxRecDepth 100000 in
theorem c_Fi_order (l : Launch) (D : va_G) (ct : Nat → ClassId) (a_this a_pieceFits a_inOrder a_p1 a_p1_odds a_p1_lengths a_p1_letters a_p1_alike a_p1_oddsTogether : Nat) (f_pieceCount : Int32) (f_songFits : Int32) (f_p1_fault : Int32) (F : Nat) (f_allFit : Int32) (f_p1_size : Int32) (f_p1_odds : Nat → Int32) (f_ordered : Int32) (f_inOrder : Nat → Int32) (r_ordered : Int32) (r_inOrder : Nat → Int32) (sz : Nat) (hf : Fi_order F f_allFit f_p1_size f_p1_odds f_ordered f_inOrder = some (r_ordered, r_inOrder)) : Met l yX1_order (WS yX1_order cX1_order 4 none) RM_Fi_order (va_Pc [.ref a_this, .ref a_p1] (PM D ct sz (w_Fi_order ct a_this a_pieceFits a_inOrder a_p1 a_p1_odds a_p1_lengths a_p1_letters a_p1_alike a_p1_oddsTogether f_pieceCount f_songFits f_allFit f_ordered f_inOrder f_p1_size f_p1_fault f_p1_odds))) (QM D none (w_Fi_order ct a_this a_pieceFits a_inOrder a_p1 a_p1_odds a_p1_lengths a_p1_letters a_p1_alike a_p1_oddsTogether f_pieceCount f_songFits f_allFit r_ordered r_inOrder f_p1_size f_p1_fault f_p1_odds) (va_A (w_Fi_order ct a_this a_pieceFits a_inOrder a_p1 a_p1_odds a_p1_lengths a_p1_letters a_p1_alike a_p1_oddsTogether f_pieceCount f_songFits f_allFit f_ordered f_inOrder f_p1_size f_p1_fault f_p1_odds) sz)) 0 0 (va_A (w_Fi_order ct a_this a_pieceFits a_inOrder a_p1 a_p1_odds a_p1_lengths a_p1_letters a_p1_alike a_p1_oddsTogether f_pieceCount f_songFits f_allFit f_ordered f_inOrder f_p1_size f_p1_fault f_p1_odds) sz) := by
  refine kMetM yn_yX1_order rfl (Nat.le_of_ble_eq_true rfl) ?_
  intro p e s m args below meth c A C hA hP hD ls hl
  have hl : lv_has ls 4 [(0, .ref a_this), (1, .ref a_p1)] := hl
  have hS : va_S A s.heap s.heap [] := va_S.rf
  obtain ⟨hx, hb, hr, hml, hown, hts, hlk, hK, hN⟩ := id C
  unfold Fi_order at hf
  refine lv_aload_n hx hb dX1_order_0 rfl (lv_at hl 0 rfl) ?_
  refine lv_iconst (v := 0) hx hb dX1_order_1 (by decide) ?_
  refine va_put (ci := 1) (v := .int 0) (ty := .int) (C := RX1) (T := TX1) (N := 6) hx hb hts inX1 tyX1 tyX1_ok nmX1 hown hK hP hD hS 0 rfl rfl 5 (by decide) (hts _ tw_191) (fun _ h9 => h9) rfl (tyX1_ok 5 (by decide)) rfl rfl (Nat.le_of_ble_eq_true rfl) dX1_order_2 (fun H locs hP hD hS => ?_)
  have hP : va_P D vwCl (w_Fi_order ct a_this a_pieceFits a_inOrder a_p1 a_p1_odds a_p1_lengths a_p1_letters a_p1_alike a_p1_oddsTogether f_pieceCount f_songFits f_allFit 0 f_inOrder f_p1_size f_p1_fault f_p1_odds) H := hP
  have hD : va_D A (w_Fi_order ct a_this a_pieceFits a_inOrder a_p1 a_p1_odds a_p1_lengths a_p1_letters a_p1_alike a_p1_oddsTogether f_pieceCount f_songFits f_allFit 0 f_inOrder f_p1_size f_p1_fault f_p1_odds) := hD
  refine lv_bipush (v := 9) hx hb dX1_order_5 (by decide) ?_
  refine lv_istore_n (lv' := [(2, .int 9), (0, .ref a_this), (1, .ref a_p1)]) hx hb dX1_order_7 rfl hl (by decide) rfl (fun ls hl => ?_)
  exact t_Fi_order_l8 C hA a_this a_pieceFits a_inOrder a_p1 a_p1_odds a_p1_lengths a_p1_letters a_p1_alike a_p1_oddsTogether f_pieceCount f_songFits f_p1_fault F f_allFit f_p1_size f_p1_odds r_ordered r_inOrder F 9 0 f_inOrder hf _ _ hP hD hS _ (lv_sub hl [1, 2, 0] rfl)
def RM_Fi_update : Room := { frames := 3, cells := 0, slots := 0, locals := 72 }
set_option maxHeartbeats 4000000 in
set_option maxRecDepth 100000 in
theorem t_Fi_update_b106 {p : Program} {l : Launch} {e : Env} {s : State} {m : MethodId} {args : Array Value} {below : List Frame} {meth : Method} {c : Code} {D : va_G} {ct : Nat → ClassId} (C : CX p s m args meth c RX1 cX1_update 6 none D ct) {A : Nat → Prop} (hA : ∀ q : Nat, s.heap.size ≤ q → A q) (a_this a_pieceFits a_inOrder a_p1 a_p1_odds a_p1_lengths a_p1_letters a_p1_alike a_p1_oddsTogether a_p2 a_p2_inside a_p2_lengths a_p2_letters a_p3 a_p3_letters : Nat) (f_p1_fault : Int32) (f_p2_fault : Int32) (f_p3_fault : Int32) (F : Nat) (f_p1_size : Int32) (f_p1_odds : Nat → Int32) (f_p1_lengths : Nat → Int32) (f_p1_letters : Nat → Int32) (f_p2_size : Int32) (f_p2_inside : Nat → Int32) (f_p2_lengths : Nat → Int32) (f_p2_letters : Nat → Int32) (f_p3_size : Int32) (f_p3_letters : Nat → Int32) (r_pieceCount : Int32) (r_songFits : Int32) (r_allFit : Int32) (r_ordered : Int32) (r_pieceFits : Nat → Int32) (r_inOrder : Nat → Int32) : ∀ (f_pieceCount : Int32) (f_songFits : Int32) (f_allFit : Int32) (f_ordered : Int32) (f_pieceFits : Nat → Int32) (f_inOrder : Nat → Int32), Fi_update_b106 F f_p1_size f_p1_odds f_p1_lengths f_p1_letters f_p2_size f_p2_inside f_p2_lengths f_p2_letters f_p3_size f_p3_letters f_pieceCount f_songFits f_allFit f_ordered f_pieceFits f_inOrder = some (r_pieceCount, r_songFits, r_allFit, r_ordered, r_pieceFits, r_inOrder) → ∀ (H : Heap) (locs : List Loc), va_P D vwCl (w_Fi_update ct a_this a_pieceFits a_inOrder a_p1 a_p1_odds a_p1_lengths a_p1_letters a_p1_alike a_p1_oddsTogether a_p2 a_p2_inside a_p2_lengths a_p2_letters a_p3 a_p3_letters f_pieceCount f_songFits f_allFit f_ordered f_pieceFits f_inOrder f_p1_size f_p1_fault f_p1_odds f_p1_lengths f_p1_letters f_p2_size f_p2_fault f_p2_inside f_p2_lengths f_p2_letters f_p3_size f_p3_fault f_p3_letters) H → va_D A (w_Fi_update ct a_this a_pieceFits a_inOrder a_p1 a_p1_odds a_p1_lengths a_p1_letters a_p1_alike a_p1_oddsTogether a_p2 a_p2_inside a_p2_lengths a_p2_letters a_p3 a_p3_letters f_pieceCount f_songFits f_allFit f_ordered f_pieceFits f_inOrder f_p1_size f_p1_fault f_p1_odds f_p1_lengths f_p1_letters f_p2_size f_p2_fault f_p2_inside f_p2_lengths f_p2_letters f_p3_size f_p3_fault f_p3_letters) → va_S A s.heap H locs → ∀ ls : Array Slot, lv_has ls 6 [(0, .ref a_this), (1, .ref a_p1)] → W p l e RM_Fi_update s m args below meth c H locs 0 0 (MQ below (QM D none (w_Fi_update ct a_this a_pieceFits a_inOrder a_p1 a_p1_odds a_p1_lengths a_p1_letters a_p1_alike a_p1_oddsTogether a_p2 a_p2_inside a_p2_lengths a_p2_letters a_p3 a_p3_letters r_pieceCount r_songFits r_allFit r_ordered r_pieceFits r_inOrder f_p1_size f_p1_fault f_p1_odds f_p1_lengths f_p1_letters f_p2_size f_p2_fault f_p2_inside f_p2_lengths f_p2_letters f_p3_size f_p3_fault f_p3_letters) A) args s 0 0 A) (F0 m 106 ls []) := by
  obtain ⟨hx, hb, hr, hml, hown, hts, hlk, hK, hN⟩ := id C
  intro f_pieceCount f_songFits f_allFit f_ordered f_pieceFits f_inOrder hf H locs hP hD hS ls hl
  unfold Fi_update_b106 at hf
  refine lv_aload_n hx hb dX1_update_106 rfl (lv_at hl 0 rfl) ?_
  refine lv_aload_n hx hb dX1_update_107 rfl (lv_at hl 0 rfl) ?_
  refine lv_bipush (v := 63) hx hb dX1_update_108 (by decide) ?_
  obtain ⟨v110, hc110, hf⟩ := cb1_some hf
  refine kcRV (q0 := 0) (ci := 1) (As := [.int 63]) (rest := [.ref a_this]) (st1 := [.int v110, .ref a_this]) C (c_Fi_by l D ct a_this a_pieceFits a_inOrder f_allFit f_ordered F f_pieceCount f_songFits f_pieceFits 63 v110 hc110) ⟨rfl, rfl⟩ yn_yX1_by tw_468 tw_469 tw_467 ⟨Nat.le_of_ble_eq_true rfl, Nat.le_of_ble_eq_true rfl⟩ ⟨Nat.zero_le _, Nat.zero_le _⟩ hP [0, 1] rfl rfl rfl rfl hl.1 rfl rfl (Nat.le_of_ble_eq_true rfl) dX1_update_110 rfl ?_
  refine va_put (ci := 1) (v := .int v110) (ty := .int) (C := RX1) (T := TX1) (N := 6) hx hb hts inX1 tyX1 tyX1_ok nmX1 hown hK hP hD hS 0 rfl rfl 4 (by decide) (hts _ tw_190) (fun _ h9 => h9) rfl (tyX1_ok 4 (by decide)) rfl rfl (Nat.le_of_ble_eq_true rfl) dX1_update_113 (fun H locs hP hD hS => ?_)
  have hP : va_P D vwCl (w_Fi_update ct a_this a_pieceFits a_inOrder a_p1 a_p1_odds a_p1_lengths a_p1_letters a_p1_alike a_p1_oddsTogether a_p2 a_p2_inside a_p2_lengths a_p2_letters a_p3 a_p3_letters f_pieceCount f_songFits v110 f_ordered f_pieceFits f_inOrder f_p1_size f_p1_fault f_p1_odds f_p1_lengths f_p1_letters f_p2_size f_p2_fault f_p2_inside f_p2_lengths f_p2_letters f_p3_size f_p3_fault f_p3_letters) H := hP
  have hD : va_D A (w_Fi_update ct a_this a_pieceFits a_inOrder a_p1 a_p1_odds a_p1_lengths a_p1_letters a_p1_alike a_p1_oddsTogether a_p2 a_p2_inside a_p2_lengths a_p2_letters a_p3 a_p3_letters f_pieceCount f_songFits v110 f_ordered f_pieceFits f_inOrder f_p1_size f_p1_fault f_p1_odds f_p1_lengths f_p1_letters f_p2_size f_p2_fault f_p2_inside f_p2_lengths f_p2_letters f_p3_size f_p3_fault f_p3_letters) := hD
  refine lv_aload_n hx hb dX1_update_116 rfl (lv_at hl 0 rfl) ?_
  refine lv_aload_n hx hb dX1_update_117 rfl (lv_at hl 1 rfl) ?_
  obtain ⟨f_ordered_118, f_inOrder_118, hc118, hf⟩ := cb2_some hf
  refine kcMV (q0 := 0) (ci := 1) (As := [.ref a_p1]) (rest := []) (st1 := []) (wf := (w_Fi_update ct a_this a_pieceFits a_inOrder a_p1 a_p1_odds a_p1_lengths a_p1_letters a_p1_alike a_p1_oddsTogether a_p2 a_p2_inside a_p2_lengths a_p2_letters a_p3 a_p3_letters f_pieceCount f_songFits v110 f_ordered_118 f_pieceFits f_inOrder_118 f_p1_size f_p1_fault f_p1_odds f_p1_lengths f_p1_letters f_p2_size f_p2_fault f_p2_inside f_p2_lengths f_p2_letters f_p3_size f_p3_fault f_p3_letters)) C (c_Fi_order l D ct a_this a_pieceFits a_inOrder a_p1 a_p1_odds a_p1_lengths a_p1_letters a_p1_alike a_p1_oddsTogether f_pieceCount f_songFits f_p1_fault F v110 f_p1_size f_p1_odds f_ordered f_inOrder f_ordered_118 f_inOrder_118 _ hc118) ⟨rfl, rfl⟩ yn_yX1_order tw_473 tw_9 tw_471 ⟨Nat.le_of_ble_eq_true rfl, Nat.le_of_ble_eq_true rfl⟩ ⟨Nat.zero_le _, Nat.zero_le _⟩ hP hD hS hA [0, 2, 3, 4] [1, 5, 6, 7, 8, 9, 10, 11, 12] [9, 0, 10, 11, 12, 1, 2, 3, 4, 5, 6, 7, 8] rfl rfl rfl rfl rfl (by decide) rfl rfl rfl rfl rfl rfl hl.1 rfl rfl (Nat.le_of_ble_eq_true rfl) dX1_update_118 rfl (fun H locs hP hD hS => ?_)
  obtain ⟨e1, e2, e3, e4, e5, e6⟩ := ti6 hf
  subst e1; subst e2; subst e3; subst e4; subst e5; subst e6
  exact kretMv C hP hD hS dX1_update_121
set_option maxHeartbeats 4000000 in
set_option maxRecDepth 100000 in
theorem t_Fi_update_b100 {p : Program} {l : Launch} {e : Env} {s : State} {m : MethodId} {args : Array Value} {below : List Frame} {meth : Method} {c : Code} {D : va_G} {ct : Nat → ClassId} (C : CX p s m args meth c RX1 cX1_update 6 none D ct) {A : Nat → Prop} (hA : ∀ q : Nat, s.heap.size ≤ q → A q) (a_this a_pieceFits a_inOrder a_p1 a_p1_odds a_p1_lengths a_p1_letters a_p1_alike a_p1_oddsTogether a_p2 a_p2_inside a_p2_lengths a_p2_letters a_p3 a_p3_letters : Nat) (f_p1_fault : Int32) (f_p2_fault : Int32) (f_p3_fault : Int32) (F : Nat) (f_p1_size : Int32) (f_p1_odds : Nat → Int32) (f_p1_lengths : Nat → Int32) (f_p1_letters : Nat → Int32) (f_p2_size : Int32) (f_p2_inside : Nat → Int32) (f_p2_lengths : Nat → Int32) (f_p2_letters : Nat → Int32) (f_p3_size : Int32) (f_p3_letters : Nat → Int32) (r_pieceCount : Int32) (r_songFits : Int32) (r_allFit : Int32) (r_ordered : Int32) (r_pieceFits : Nat → Int32) (r_inOrder : Nat → Int32) (rec24 : Int32 → Int32 → Int32 → Int32 → Int32 → (Nat → Int32) → (Nat → Int32) → Option (Int32 × Int32 × Int32 × Int32 × (Nat → Int32) × (Nat → Int32))) (hr24 : ∀ (x4 : Int32) (f_pieceCount : Int32) (f_songFits : Int32) (f_allFit : Int32) (f_ordered : Int32) (f_pieceFits : Nat → Int32) (f_inOrder : Nat → Int32), rec24 x4 f_pieceCount f_songFits f_allFit f_ordered f_pieceFits f_inOrder = some (r_pieceCount, r_songFits, r_allFit, r_ordered, r_pieceFits, r_inOrder) → ∀ (H : Heap) (locs : List Loc), va_P D vwCl (w_Fi_update ct a_this a_pieceFits a_inOrder a_p1 a_p1_odds a_p1_lengths a_p1_letters a_p1_alike a_p1_oddsTogether a_p2 a_p2_inside a_p2_lengths a_p2_letters a_p3 a_p3_letters f_pieceCount f_songFits f_allFit f_ordered f_pieceFits f_inOrder f_p1_size f_p1_fault f_p1_odds f_p1_lengths f_p1_letters f_p2_size f_p2_fault f_p2_inside f_p2_lengths f_p2_letters f_p3_size f_p3_fault f_p3_letters) H → va_D A (w_Fi_update ct a_this a_pieceFits a_inOrder a_p1 a_p1_odds a_p1_lengths a_p1_letters a_p1_alike a_p1_oddsTogether a_p2 a_p2_inside a_p2_lengths a_p2_letters a_p3 a_p3_letters f_pieceCount f_songFits f_allFit f_ordered f_pieceFits f_inOrder f_p1_size f_p1_fault f_p1_odds f_p1_lengths f_p1_letters f_p2_size f_p2_fault f_p2_inside f_p2_lengths f_p2_letters f_p3_size f_p3_fault f_p3_letters) → va_S A s.heap H locs → ∀ ls : Array Slot, lv_has ls 6 [(0, .ref a_this), (1, .ref a_p1), (2, .ref a_p2), (3, .ref a_p3), (4, .int x4)] → W p l e RM_Fi_update s m args below meth c H locs 0 0 (MQ below (QM D none (w_Fi_update ct a_this a_pieceFits a_inOrder a_p1 a_p1_odds a_p1_lengths a_p1_letters a_p1_alike a_p1_oddsTogether a_p2 a_p2_inside a_p2_lengths a_p2_letters a_p3 a_p3_letters r_pieceCount r_songFits r_allFit r_ordered r_pieceFits r_inOrder f_p1_size f_p1_fault f_p1_odds f_p1_lengths f_p1_letters f_p2_size f_p2_fault f_p2_inside f_p2_lengths f_p2_letters f_p3_size f_p3_fault f_p3_letters) A) args s 0 0 A) (F0 m 24 ls [])) : ∀ (x4 : Int32) (f_pieceCount : Int32) (f_songFits : Int32) (f_allFit : Int32) (f_ordered : Int32) (f_pieceFits : Nat → Int32) (f_inOrder : Nat → Int32), Fi_update_b100 F f_p1_size f_p1_odds f_p1_lengths f_p1_letters f_p2_size f_p2_inside f_p2_lengths f_p2_letters f_p3_size f_p3_letters rec24 x4 f_pieceCount f_songFits f_allFit f_ordered f_pieceFits f_inOrder = some (r_pieceCount, r_songFits, r_allFit, r_ordered, r_pieceFits, r_inOrder) → ∀ (H : Heap) (locs : List Loc), va_P D vwCl (w_Fi_update ct a_this a_pieceFits a_inOrder a_p1 a_p1_odds a_p1_lengths a_p1_letters a_p1_alike a_p1_oddsTogether a_p2 a_p2_inside a_p2_lengths a_p2_letters a_p3 a_p3_letters f_pieceCount f_songFits f_allFit f_ordered f_pieceFits f_inOrder f_p1_size f_p1_fault f_p1_odds f_p1_lengths f_p1_letters f_p2_size f_p2_fault f_p2_inside f_p2_lengths f_p2_letters f_p3_size f_p3_fault f_p3_letters) H → va_D A (w_Fi_update ct a_this a_pieceFits a_inOrder a_p1 a_p1_odds a_p1_lengths a_p1_letters a_p1_alike a_p1_oddsTogether a_p2 a_p2_inside a_p2_lengths a_p2_letters a_p3 a_p3_letters f_pieceCount f_songFits f_allFit f_ordered f_pieceFits f_inOrder f_p1_size f_p1_fault f_p1_odds f_p1_lengths f_p1_letters f_p2_size f_p2_fault f_p2_inside f_p2_lengths f_p2_letters f_p3_size f_p3_fault f_p3_letters) → va_S A s.heap H locs → ∀ ls : Array Slot, lv_has ls 6 [(0, .ref a_this), (1, .ref a_p1), (2, .ref a_p2), (3, .ref a_p3), (4, .int x4)] → W p l e RM_Fi_update s m args below meth c H locs 0 0 (MQ below (QM D none (w_Fi_update ct a_this a_pieceFits a_inOrder a_p1 a_p1_odds a_p1_lengths a_p1_letters a_p1_alike a_p1_oddsTogether a_p2 a_p2_inside a_p2_lengths a_p2_letters a_p3 a_p3_letters r_pieceCount r_songFits r_allFit r_ordered r_pieceFits r_inOrder f_p1_size f_p1_fault f_p1_odds f_p1_lengths f_p1_letters f_p2_size f_p2_fault f_p2_inside f_p2_lengths f_p2_letters f_p3_size f_p3_fault f_p3_letters) A) args s 0 0 A) (F0 m 100 ls []) := by
  obtain ⟨hx, hb, hr, hml, hown, hts, hlk, hK, hN⟩ := id C
  intro x4 f_pieceCount f_songFits f_allFit f_ordered f_pieceFits f_inOrder hf H locs hP hD hS ls hl
  unfold Fi_update_b100 at hf
  refine lv_iinc (v := x4 + 1) (lv' := [(4, .int (x4 + 1)), (0, .ref a_this), (1, .ref a_p1), (2, .ref a_p2), (3, .ref a_p3)]) hx hb dX1_update_100 hl (k := 4) rfl rfl (by decide) rfl (fun ls hl => ?_)
  refine lv_goto (tgt := 24) hx hb dX1_update_103 (by decide) ?_
  exact hr24 (x4 + 1) f_pieceCount f_songFits f_allFit f_ordered f_pieceFits f_inOrder hf _ _ hP hD hS _ (lv_sub hl [1, 2, 3, 4, 0] rfl)
set_option maxHeartbeats 4000000 in
set_option maxRecDepth 100000 in
theorem t_Fi_update_b94 {p : Program} {l : Launch} {e : Env} {s : State} {m : MethodId} {args : Array Value} {below : List Frame} {meth : Method} {c : Code} {D : va_G} {ct : Nat → ClassId} (C : CX p s m args meth c RX1 cX1_update 6 none D ct) {A : Nat → Prop} (hA : ∀ q : Nat, s.heap.size ≤ q → A q) (a_this a_pieceFits a_inOrder a_p1 a_p1_odds a_p1_lengths a_p1_letters a_p1_alike a_p1_oddsTogether a_p2 a_p2_inside a_p2_lengths a_p2_letters a_p3 a_p3_letters : Nat) (f_p1_fault : Int32) (f_p2_fault : Int32) (f_p3_fault : Int32) (F : Nat) (f_p1_size : Int32) (f_p1_odds : Nat → Int32) (f_p1_lengths : Nat → Int32) (f_p1_letters : Nat → Int32) (f_p2_size : Int32) (f_p2_inside : Nat → Int32) (f_p2_lengths : Nat → Int32) (f_p2_letters : Nat → Int32) (f_p3_size : Int32) (f_p3_letters : Nat → Int32) (r_pieceCount : Int32) (r_songFits : Int32) (r_allFit : Int32) (r_ordered : Int32) (r_pieceFits : Nat → Int32) (r_inOrder : Nat → Int32) (rec24 : Int32 → Int32 → Int32 → Int32 → Int32 → (Nat → Int32) → (Nat → Int32) → Option (Int32 × Int32 × Int32 × Int32 × (Nat → Int32) × (Nat → Int32))) (rec59 : Int32 → Int32 → Int32 → Int32 → Int32 → Int32 → (Nat → Int32) → (Nat → Int32) → Option (Int32 × Int32 × Int32 × Int32 × (Nat → Int32) × (Nat → Int32))) (hr24 : ∀ (x4 : Int32) (f_pieceCount : Int32) (f_songFits : Int32) (f_allFit : Int32) (f_ordered : Int32) (f_pieceFits : Nat → Int32) (f_inOrder : Nat → Int32), rec24 x4 f_pieceCount f_songFits f_allFit f_ordered f_pieceFits f_inOrder = some (r_pieceCount, r_songFits, r_allFit, r_ordered, r_pieceFits, r_inOrder) → ∀ (H : Heap) (locs : List Loc), va_P D vwCl (w_Fi_update ct a_this a_pieceFits a_inOrder a_p1 a_p1_odds a_p1_lengths a_p1_letters a_p1_alike a_p1_oddsTogether a_p2 a_p2_inside a_p2_lengths a_p2_letters a_p3 a_p3_letters f_pieceCount f_songFits f_allFit f_ordered f_pieceFits f_inOrder f_p1_size f_p1_fault f_p1_odds f_p1_lengths f_p1_letters f_p2_size f_p2_fault f_p2_inside f_p2_lengths f_p2_letters f_p3_size f_p3_fault f_p3_letters) H → va_D A (w_Fi_update ct a_this a_pieceFits a_inOrder a_p1 a_p1_odds a_p1_lengths a_p1_letters a_p1_alike a_p1_oddsTogether a_p2 a_p2_inside a_p2_lengths a_p2_letters a_p3 a_p3_letters f_pieceCount f_songFits f_allFit f_ordered f_pieceFits f_inOrder f_p1_size f_p1_fault f_p1_odds f_p1_lengths f_p1_letters f_p2_size f_p2_fault f_p2_inside f_p2_lengths f_p2_letters f_p3_size f_p3_fault f_p3_letters) → va_S A s.heap H locs → ∀ ls : Array Slot, lv_has ls 6 [(0, .ref a_this), (1, .ref a_p1), (2, .ref a_p2), (3, .ref a_p3), (4, .int x4)] → W p l e RM_Fi_update s m args below meth c H locs 0 0 (MQ below (QM D none (w_Fi_update ct a_this a_pieceFits a_inOrder a_p1 a_p1_odds a_p1_lengths a_p1_letters a_p1_alike a_p1_oddsTogether a_p2 a_p2_inside a_p2_lengths a_p2_letters a_p3 a_p3_letters r_pieceCount r_songFits r_allFit r_ordered r_pieceFits r_inOrder f_p1_size f_p1_fault f_p1_odds f_p1_lengths f_p1_letters f_p2_size f_p2_fault f_p2_inside f_p2_lengths f_p2_letters f_p3_size f_p3_fault f_p3_letters) A) args s 0 0 A) (F0 m 24 ls [])) (hr59 : ∀ (x4 : Int32) (x5 : Int32) (f_pieceCount : Int32) (f_songFits : Int32) (f_allFit : Int32) (f_ordered : Int32) (f_pieceFits : Nat → Int32) (f_inOrder : Nat → Int32), rec59 x4 x5 f_pieceCount f_songFits f_allFit f_ordered f_pieceFits f_inOrder = some (r_pieceCount, r_songFits, r_allFit, r_ordered, r_pieceFits, r_inOrder) → ∀ (H : Heap) (locs : List Loc), va_P D vwCl (w_Fi_update ct a_this a_pieceFits a_inOrder a_p1 a_p1_odds a_p1_lengths a_p1_letters a_p1_alike a_p1_oddsTogether a_p2 a_p2_inside a_p2_lengths a_p2_letters a_p3 a_p3_letters f_pieceCount f_songFits f_allFit f_ordered f_pieceFits f_inOrder f_p1_size f_p1_fault f_p1_odds f_p1_lengths f_p1_letters f_p2_size f_p2_fault f_p2_inside f_p2_lengths f_p2_letters f_p3_size f_p3_fault f_p3_letters) H → va_D A (w_Fi_update ct a_this a_pieceFits a_inOrder a_p1 a_p1_odds a_p1_lengths a_p1_letters a_p1_alike a_p1_oddsTogether a_p2 a_p2_inside a_p2_lengths a_p2_letters a_p3 a_p3_letters f_pieceCount f_songFits f_allFit f_ordered f_pieceFits f_inOrder f_p1_size f_p1_fault f_p1_odds f_p1_lengths f_p1_letters f_p2_size f_p2_fault f_p2_inside f_p2_lengths f_p2_letters f_p3_size f_p3_fault f_p3_letters) → va_S A s.heap H locs → ∀ ls : Array Slot, lv_has ls 6 [(0, .ref a_this), (1, .ref a_p1), (2, .ref a_p2), (3, .ref a_p3), (4, .int x4), (5, .int x5)] → W p l e RM_Fi_update s m args below meth c H locs 0 0 (MQ below (QM D none (w_Fi_update ct a_this a_pieceFits a_inOrder a_p1 a_p1_odds a_p1_lengths a_p1_letters a_p1_alike a_p1_oddsTogether a_p2 a_p2_inside a_p2_lengths a_p2_letters a_p3 a_p3_letters r_pieceCount r_songFits r_allFit r_ordered r_pieceFits r_inOrder f_p1_size f_p1_fault f_p1_odds f_p1_lengths f_p1_letters f_p2_size f_p2_fault f_p2_inside f_p2_lengths f_p2_letters f_p3_size f_p3_fault f_p3_letters) A) args s 0 0 A) (F0 m 59 ls [])) : ∀ (x4 : Int32) (x5 : Int32) (f_pieceCount : Int32) (f_songFits : Int32) (f_allFit : Int32) (f_ordered : Int32) (f_pieceFits : Nat → Int32) (f_inOrder : Nat → Int32), Fi_update_b94 F f_p1_size f_p1_odds f_p1_lengths f_p1_letters f_p2_size f_p2_inside f_p2_lengths f_p2_letters f_p3_size f_p3_letters rec24 rec59 x4 x5 f_pieceCount f_songFits f_allFit f_ordered f_pieceFits f_inOrder = some (r_pieceCount, r_songFits, r_allFit, r_ordered, r_pieceFits, r_inOrder) → ∀ (H : Heap) (locs : List Loc), va_P D vwCl (w_Fi_update ct a_this a_pieceFits a_inOrder a_p1 a_p1_odds a_p1_lengths a_p1_letters a_p1_alike a_p1_oddsTogether a_p2 a_p2_inside a_p2_lengths a_p2_letters a_p3 a_p3_letters f_pieceCount f_songFits f_allFit f_ordered f_pieceFits f_inOrder f_p1_size f_p1_fault f_p1_odds f_p1_lengths f_p1_letters f_p2_size f_p2_fault f_p2_inside f_p2_lengths f_p2_letters f_p3_size f_p3_fault f_p3_letters) H → va_D A (w_Fi_update ct a_this a_pieceFits a_inOrder a_p1 a_p1_odds a_p1_lengths a_p1_letters a_p1_alike a_p1_oddsTogether a_p2 a_p2_inside a_p2_lengths a_p2_letters a_p3 a_p3_letters f_pieceCount f_songFits f_allFit f_ordered f_pieceFits f_inOrder f_p1_size f_p1_fault f_p1_odds f_p1_lengths f_p1_letters f_p2_size f_p2_fault f_p2_inside f_p2_lengths f_p2_letters f_p3_size f_p3_fault f_p3_letters) → va_S A s.heap H locs → ∀ ls : Array Slot, lv_has ls 6 [(0, .ref a_this), (1, .ref a_p1), (2, .ref a_p2), (3, .ref a_p3), (4, .int x4), (5, .int x5)] → W p l e RM_Fi_update s m args below meth c H locs 0 0 (MQ below (QM D none (w_Fi_update ct a_this a_pieceFits a_inOrder a_p1 a_p1_odds a_p1_lengths a_p1_letters a_p1_alike a_p1_oddsTogether a_p2 a_p2_inside a_p2_lengths a_p2_letters a_p3 a_p3_letters r_pieceCount r_songFits r_allFit r_ordered r_pieceFits r_inOrder f_p1_size f_p1_fault f_p1_odds f_p1_lengths f_p1_letters f_p2_size f_p2_fault f_p2_inside f_p2_lengths f_p2_letters f_p3_size f_p3_fault f_p3_letters) A) args s 0 0 A) (F0 m 94 ls []) := by
  obtain ⟨hx, hb, hr, hml, hown, hts, hlk, hK, hN⟩ := id C
  intro x4 x5 f_pieceCount f_songFits f_allFit f_ordered f_pieceFits f_inOrder hf H locs hP hD hS ls hl
  unfold Fi_update_b94 at hf
  refine lv_iinc (v := x5 + 1) (lv' := [(5, .int (x5 + 1)), (0, .ref a_this), (1, .ref a_p1), (2, .ref a_p2), (3, .ref a_p3), (4, .int x4)]) hx hb dX1_update_94 hl (k := 5) rfl rfl (by decide) rfl (fun ls hl => ?_)
  refine lv_goto (tgt := 59) hx hb dX1_update_97 (by decide) ?_
  exact hr59 x4 (x5 + 1) f_pieceCount f_songFits f_allFit f_ordered f_pieceFits f_inOrder hf _ _ hP hD hS _ (lv_sub hl [1, 2, 3, 4, 5, 0] rfl)
set_option maxHeartbeats 4000000 in
set_option maxRecDepth 100000 in
theorem t_Fi_update_b59 {p : Program} {l : Launch} {e : Env} {s : State} {m : MethodId} {args : Array Value} {below : List Frame} {meth : Method} {c : Code} {D : va_G} {ct : Nat → ClassId} (C : CX p s m args meth c RX1 cX1_update 6 none D ct) {A : Nat → Prop} (hA : ∀ q : Nat, s.heap.size ≤ q → A q) (a_this a_pieceFits a_inOrder a_p1 a_p1_odds a_p1_lengths a_p1_letters a_p1_alike a_p1_oddsTogether a_p2 a_p2_inside a_p2_lengths a_p2_letters a_p3 a_p3_letters : Nat) (f_p1_fault : Int32) (f_p2_fault : Int32) (f_p3_fault : Int32) (F : Nat) (f_p1_size : Int32) (f_p1_odds : Nat → Int32) (f_p1_lengths : Nat → Int32) (f_p1_letters : Nat → Int32) (f_p2_size : Int32) (f_p2_inside : Nat → Int32) (f_p2_lengths : Nat → Int32) (f_p2_letters : Nat → Int32) (f_p3_size : Int32) (f_p3_letters : Nat → Int32) (r_pieceCount : Int32) (r_songFits : Int32) (r_allFit : Int32) (r_ordered : Int32) (r_pieceFits : Nat → Int32) (r_inOrder : Nat → Int32) (rec24 : Int32 → Int32 → Int32 → Int32 → Int32 → (Nat → Int32) → (Nat → Int32) → Option (Int32 × Int32 × Int32 × Int32 × (Nat → Int32) × (Nat → Int32))) (rec59 : Int32 → Int32 → Int32 → Int32 → Int32 → Int32 → (Nat → Int32) → (Nat → Int32) → Option (Int32 × Int32 × Int32 × Int32 × (Nat → Int32) × (Nat → Int32))) (hr24 : ∀ (x4 : Int32) (f_pieceCount : Int32) (f_songFits : Int32) (f_allFit : Int32) (f_ordered : Int32) (f_pieceFits : Nat → Int32) (f_inOrder : Nat → Int32), rec24 x4 f_pieceCount f_songFits f_allFit f_ordered f_pieceFits f_inOrder = some (r_pieceCount, r_songFits, r_allFit, r_ordered, r_pieceFits, r_inOrder) → ∀ (H : Heap) (locs : List Loc), va_P D vwCl (w_Fi_update ct a_this a_pieceFits a_inOrder a_p1 a_p1_odds a_p1_lengths a_p1_letters a_p1_alike a_p1_oddsTogether a_p2 a_p2_inside a_p2_lengths a_p2_letters a_p3 a_p3_letters f_pieceCount f_songFits f_allFit f_ordered f_pieceFits f_inOrder f_p1_size f_p1_fault f_p1_odds f_p1_lengths f_p1_letters f_p2_size f_p2_fault f_p2_inside f_p2_lengths f_p2_letters f_p3_size f_p3_fault f_p3_letters) H → va_D A (w_Fi_update ct a_this a_pieceFits a_inOrder a_p1 a_p1_odds a_p1_lengths a_p1_letters a_p1_alike a_p1_oddsTogether a_p2 a_p2_inside a_p2_lengths a_p2_letters a_p3 a_p3_letters f_pieceCount f_songFits f_allFit f_ordered f_pieceFits f_inOrder f_p1_size f_p1_fault f_p1_odds f_p1_lengths f_p1_letters f_p2_size f_p2_fault f_p2_inside f_p2_lengths f_p2_letters f_p3_size f_p3_fault f_p3_letters) → va_S A s.heap H locs → ∀ ls : Array Slot, lv_has ls 6 [(0, .ref a_this), (1, .ref a_p1), (2, .ref a_p2), (3, .ref a_p3), (4, .int x4)] → W p l e RM_Fi_update s m args below meth c H locs 0 0 (MQ below (QM D none (w_Fi_update ct a_this a_pieceFits a_inOrder a_p1 a_p1_odds a_p1_lengths a_p1_letters a_p1_alike a_p1_oddsTogether a_p2 a_p2_inside a_p2_lengths a_p2_letters a_p3 a_p3_letters r_pieceCount r_songFits r_allFit r_ordered r_pieceFits r_inOrder f_p1_size f_p1_fault f_p1_odds f_p1_lengths f_p1_letters f_p2_size f_p2_fault f_p2_inside f_p2_lengths f_p2_letters f_p3_size f_p3_fault f_p3_letters) A) args s 0 0 A) (F0 m 24 ls [])) (hr59 : ∀ (x4 : Int32) (x5 : Int32) (f_pieceCount : Int32) (f_songFits : Int32) (f_allFit : Int32) (f_ordered : Int32) (f_pieceFits : Nat → Int32) (f_inOrder : Nat → Int32), rec59 x4 x5 f_pieceCount f_songFits f_allFit f_ordered f_pieceFits f_inOrder = some (r_pieceCount, r_songFits, r_allFit, r_ordered, r_pieceFits, r_inOrder) → ∀ (H : Heap) (locs : List Loc), va_P D vwCl (w_Fi_update ct a_this a_pieceFits a_inOrder a_p1 a_p1_odds a_p1_lengths a_p1_letters a_p1_alike a_p1_oddsTogether a_p2 a_p2_inside a_p2_lengths a_p2_letters a_p3 a_p3_letters f_pieceCount f_songFits f_allFit f_ordered f_pieceFits f_inOrder f_p1_size f_p1_fault f_p1_odds f_p1_lengths f_p1_letters f_p2_size f_p2_fault f_p2_inside f_p2_lengths f_p2_letters f_p3_size f_p3_fault f_p3_letters) H → va_D A (w_Fi_update ct a_this a_pieceFits a_inOrder a_p1 a_p1_odds a_p1_lengths a_p1_letters a_p1_alike a_p1_oddsTogether a_p2 a_p2_inside a_p2_lengths a_p2_letters a_p3 a_p3_letters f_pieceCount f_songFits f_allFit f_ordered f_pieceFits f_inOrder f_p1_size f_p1_fault f_p1_odds f_p1_lengths f_p1_letters f_p2_size f_p2_fault f_p2_inside f_p2_lengths f_p2_letters f_p3_size f_p3_fault f_p3_letters) → va_S A s.heap H locs → ∀ ls : Array Slot, lv_has ls 6 [(0, .ref a_this), (1, .ref a_p1), (2, .ref a_p2), (3, .ref a_p3), (4, .int x4), (5, .int x5)] → W p l e RM_Fi_update s m args below meth c H locs 0 0 (MQ below (QM D none (w_Fi_update ct a_this a_pieceFits a_inOrder a_p1 a_p1_odds a_p1_lengths a_p1_letters a_p1_alike a_p1_oddsTogether a_p2 a_p2_inside a_p2_lengths a_p2_letters a_p3 a_p3_letters r_pieceCount r_songFits r_allFit r_ordered r_pieceFits r_inOrder f_p1_size f_p1_fault f_p1_odds f_p1_lengths f_p1_letters f_p2_size f_p2_fault f_p2_inside f_p2_lengths f_p2_letters f_p3_size f_p3_fault f_p3_letters) A) args s 0 0 A) (F0 m 59 ls [])) : ∀ (x4 : Int32) (x5 : Int32) (f_pieceCount : Int32) (f_songFits : Int32) (f_allFit : Int32) (f_ordered : Int32) (f_pieceFits : Nat → Int32) (f_inOrder : Nat → Int32), Fi_update_b59 F f_p1_size f_p1_odds f_p1_lengths f_p1_letters f_p2_size f_p2_inside f_p2_lengths f_p2_letters f_p3_size f_p3_letters rec24 rec59 x4 x5 f_pieceCount f_songFits f_allFit f_ordered f_pieceFits f_inOrder = some (r_pieceCount, r_songFits, r_allFit, r_ordered, r_pieceFits, r_inOrder) → ∀ (H : Heap) (locs : List Loc), va_P D vwCl (w_Fi_update ct a_this a_pieceFits a_inOrder a_p1 a_p1_odds a_p1_lengths a_p1_letters a_p1_alike a_p1_oddsTogether a_p2 a_p2_inside a_p2_lengths a_p2_letters a_p3 a_p3_letters f_pieceCount f_songFits f_allFit f_ordered f_pieceFits f_inOrder f_p1_size f_p1_fault f_p1_odds f_p1_lengths f_p1_letters f_p2_size f_p2_fault f_p2_inside f_p2_lengths f_p2_letters f_p3_size f_p3_fault f_p3_letters) H → va_D A (w_Fi_update ct a_this a_pieceFits a_inOrder a_p1 a_p1_odds a_p1_lengths a_p1_letters a_p1_alike a_p1_oddsTogether a_p2 a_p2_inside a_p2_lengths a_p2_letters a_p3 a_p3_letters f_pieceCount f_songFits f_allFit f_ordered f_pieceFits f_inOrder f_p1_size f_p1_fault f_p1_odds f_p1_lengths f_p1_letters f_p2_size f_p2_fault f_p2_inside f_p2_lengths f_p2_letters f_p3_size f_p3_fault f_p3_letters) → va_S A s.heap H locs → ∀ ls : Array Slot, lv_has ls 6 [(0, .ref a_this), (1, .ref a_p1), (2, .ref a_p2), (3, .ref a_p3), (4, .int x4), (5, .int x5)] → W p l e RM_Fi_update s m args below meth c H locs 0 0 (MQ below (QM D none (w_Fi_update ct a_this a_pieceFits a_inOrder a_p1 a_p1_odds a_p1_lengths a_p1_letters a_p1_alike a_p1_oddsTogether a_p2 a_p2_inside a_p2_lengths a_p2_letters a_p3 a_p3_letters r_pieceCount r_songFits r_allFit r_ordered r_pieceFits r_inOrder f_p1_size f_p1_fault f_p1_odds f_p1_lengths f_p1_letters f_p2_size f_p2_fault f_p2_inside f_p2_lengths f_p2_letters f_p3_size f_p3_fault f_p3_letters) A) args s 0 0 A) (F0 m 59 ls []) := by
  obtain ⟨hx, hb, hr, hml, hown, hts, hlk, hK, hN⟩ := id C
  intro x4 x5 f_pieceCount f_songFits f_allFit f_ordered f_pieceFits f_inOrder hf H locs hP hD hS ls hl
  unfold Fi_update_b59 at hf
  refine lv_iload hx hb dX1_update_59 (lv_at hl 5 rfl) ?_
  refine lv_aload_n hx hb dX1_update_61 rfl (lv_at hl 0 rfl) ?_
  refine va_get (ci := 1) (v := .int f_pieceCount) (C := RX1) (T := TX1) (N := 6) hx hb hts inX1 hown hK hP 0 rfl rfl 2 (by decide) (hts _ tw_188) (fun _ h9 => h9) rfl dX1_update_62 ?_
  refine lv_icmp_ge (tgt := 100) hx hb dX1_update_65 (by decide) (fun hc => ?_) (fun hc => ?_)
  · have hf := kpos hc hf
    exact t_Fi_update_b100 C hA a_this a_pieceFits a_inOrder a_p1 a_p1_odds a_p1_lengths a_p1_letters a_p1_alike a_p1_oddsTogether a_p2 a_p2_inside a_p2_lengths a_p2_letters a_p3 a_p3_letters f_p1_fault f_p2_fault f_p3_fault F f_p1_size f_p1_odds f_p1_lengths f_p1_letters f_p2_size f_p2_inside f_p2_lengths f_p2_letters f_p3_size f_p3_letters r_pieceCount r_songFits r_allFit r_ordered r_pieceFits r_inOrder rec24 hr24 x4 f_pieceCount f_songFits f_allFit f_ordered f_pieceFits f_inOrder hf _ _ hP hD hS _ (lv_sub hl [0, 1, 2, 3, 4] rfl)
  · have hf := kneg hc hf
    refine lv_aload_n hx hb dX1_update_68 rfl (lv_at hl 2 rfl) ?_
    refine lv_iload hx hb dX1_update_69 (lv_at hl 5 rfl) ?_
    refine lv_aload_n hx hb dX1_update_71 rfl (lv_at hl 1 rfl) ?_
    refine lv_iload hx hb dX1_update_72 (lv_at hl 4 rfl) ?_
    obtain ⟨v74, hc74, hf⟩ := cb1_some hf
    refine kcRV (q0 := 7) (ci := 4) (As := [.int x5, .ref a_p1, .int x4]) (rest := []) (st1 := [.int v74]) C (c_Pi_isTrueOf l D ct a_p2 a_p2_inside a_p2_lengths a_p2_letters a_p1 a_p1_odds a_p1_lengths a_p1_letters a_p1_alike a_p1_oddsTogether f_p2_fault f_p1_fault F f_p2_size f_p2_inside f_p2_lengths f_p2_letters f_p1_size f_p1_lengths f_p1_letters x5 x4 v74 hc74) ⟨rfl, rfl⟩ yn_yX4_isTrueOf tw_458 tw_459 tw_457 ⟨Nat.le_of_ble_eq_true rfl, Nat.le_of_ble_eq_true rfl⟩ ⟨Nat.zero_le _, Nat.zero_le _⟩ hP [7, 8, 9, 10, 3, 5, 6] rfl rfl rfl rfl hl.1 rfl rfl (Nat.le_of_ble_eq_true rfl) dX1_update_74 rfl ?_
    refine lv_if_eq (tgt := 94) hx hb dX1_update_77 (by decide) (fun hc => ?_) (fun hc => ?_)
    · have hf := kpos hc hf
      exact t_Fi_update_b94 C hA a_this a_pieceFits a_inOrder a_p1 a_p1_odds a_p1_lengths a_p1_letters a_p1_alike a_p1_oddsTogether a_p2 a_p2_inside a_p2_lengths a_p2_letters a_p3 a_p3_letters f_p1_fault f_p2_fault f_p3_fault F f_p1_size f_p1_odds f_p1_lengths f_p1_letters f_p2_size f_p2_inside f_p2_lengths f_p2_letters f_p3_size f_p3_letters r_pieceCount r_songFits r_allFit r_ordered r_pieceFits r_inOrder rec24 rec59 hr24 hr59 x4 x5 f_pieceCount f_songFits f_allFit f_ordered f_pieceFits f_inOrder hf _ _ hP hD hS _ (lv_sub hl [0, 1, 2, 3, 4, 5] rfl)
    · have hf := kneg hc hf
      refine lv_aload_n hx hb dX1_update_80 rfl (lv_at hl 0 rfl) ?_
      refine va_get (ci := 1) (v := .ref a_pieceFits) (C := RX1) (T := TX1) (N := 6) hx hb hts inX1 hown hK hP 0 rfl rfl 0 (by decide) (hts _ tw_186) (fun _ h9 => h9) rfl dX1_update_81 ?_
      refine lv_iload hx hb dX1_update_84 (lv_at hl 5 rfl) ?_
      refine lv_dup2_11 hx hb dX1_update_86 rfl rfl ?_
      obtain ⟨hin, hf⟩ := rd_some hf
      generalize ev87 : f_pieceFits (Int32.toNatClampNeg x5) = v87 at hf
      refine kiald hx hb hK hP 1 0 rfl rfl hin ev87 dX1_update_87 ?_
      refine lv_iconst (v := 1) hx hb dX1_update_88 (by decide) ?_
      refine lv_iload hx hb dX1_update_89 (lv_at hl 4 rfl) ?_
      refine lv_ishl hx hb dX1_update_91 ?_
      refine lv_ior hx hb dX1_update_92 ?_
      obtain ⟨hin, f_pieceFits_93, ev93, hf⟩ := wr_ex hf
      refine kiast hx hb hK hP hD hS 1 0 rfl rfl hin ev93 dX1_update_93 (fun H locs hP hD hS => ?_)
      have hP : va_P D vwCl (w_Fi_update ct a_this a_pieceFits a_inOrder a_p1 a_p1_odds a_p1_lengths a_p1_letters a_p1_alike a_p1_oddsTogether a_p2 a_p2_inside a_p2_lengths a_p2_letters a_p3 a_p3_letters f_pieceCount f_songFits f_allFit f_ordered f_pieceFits_93 f_inOrder f_p1_size f_p1_fault f_p1_odds f_p1_lengths f_p1_letters f_p2_size f_p2_fault f_p2_inside f_p2_lengths f_p2_letters f_p3_size f_p3_fault f_p3_letters) H := hP
      have hD : va_D A (w_Fi_update ct a_this a_pieceFits a_inOrder a_p1 a_p1_odds a_p1_lengths a_p1_letters a_p1_alike a_p1_oddsTogether a_p2 a_p2_inside a_p2_lengths a_p2_letters a_p3 a_p3_letters f_pieceCount f_songFits f_allFit f_ordered f_pieceFits_93 f_inOrder f_p1_size f_p1_fault f_p1_odds f_p1_lengths f_p1_letters f_p2_size f_p2_fault f_p2_inside f_p2_lengths f_p2_letters f_p3_size f_p3_fault f_p3_letters) := hD
      exact t_Fi_update_b94 C hA a_this a_pieceFits a_inOrder a_p1 a_p1_odds a_p1_lengths a_p1_letters a_p1_alike a_p1_oddsTogether a_p2 a_p2_inside a_p2_lengths a_p2_letters a_p3 a_p3_letters f_p1_fault f_p2_fault f_p3_fault F f_p1_size f_p1_odds f_p1_lengths f_p1_letters f_p2_size f_p2_inside f_p2_lengths f_p2_letters f_p3_size f_p3_letters r_pieceCount r_songFits r_allFit r_ordered r_pieceFits r_inOrder rec24 rec59 hr24 hr59 x4 x5 f_pieceCount f_songFits f_allFit f_ordered f_pieceFits_93 f_inOrder hf _ _ hP hD hS _ (lv_sub hl [0, 1, 2, 3, 4, 5] rfl)
set_option maxHeartbeats 4000000 in
set_option maxRecDepth 100000 in
theorem t_Fi_update_l59 {p : Program} {l : Launch} {e : Env} {s : State} {m : MethodId} {args : Array Value} {below : List Frame} {meth : Method} {c : Code} {D : va_G} {ct : Nat → ClassId} (C : CX p s m args meth c RX1 cX1_update 6 none D ct) {A : Nat → Prop} (hA : ∀ q : Nat, s.heap.size ≤ q → A q) (a_this a_pieceFits a_inOrder a_p1 a_p1_odds a_p1_lengths a_p1_letters a_p1_alike a_p1_oddsTogether a_p2 a_p2_inside a_p2_lengths a_p2_letters a_p3 a_p3_letters : Nat) (f_p1_fault : Int32) (f_p2_fault : Int32) (f_p3_fault : Int32) (F : Nat) (f_p1_size : Int32) (f_p1_odds : Nat → Int32) (f_p1_lengths : Nat → Int32) (f_p1_letters : Nat → Int32) (f_p2_size : Int32) (f_p2_inside : Nat → Int32) (f_p2_lengths : Nat → Int32) (f_p2_letters : Nat → Int32) (f_p3_size : Int32) (f_p3_letters : Nat → Int32) (r_pieceCount : Int32) (r_songFits : Int32) (r_allFit : Int32) (r_ordered : Int32) (r_pieceFits : Nat → Int32) (r_inOrder : Nat → Int32) (rec24 : Int32 → Int32 → Int32 → Int32 → Int32 → (Nat → Int32) → (Nat → Int32) → Option (Int32 × Int32 × Int32 × Int32 × (Nat → Int32) × (Nat → Int32))) (hr24 : ∀ (x4 : Int32) (f_pieceCount : Int32) (f_songFits : Int32) (f_allFit : Int32) (f_ordered : Int32) (f_pieceFits : Nat → Int32) (f_inOrder : Nat → Int32), rec24 x4 f_pieceCount f_songFits f_allFit f_ordered f_pieceFits f_inOrder = some (r_pieceCount, r_songFits, r_allFit, r_ordered, r_pieceFits, r_inOrder) → ∀ (H : Heap) (locs : List Loc), va_P D vwCl (w_Fi_update ct a_this a_pieceFits a_inOrder a_p1 a_p1_odds a_p1_lengths a_p1_letters a_p1_alike a_p1_oddsTogether a_p2 a_p2_inside a_p2_lengths a_p2_letters a_p3 a_p3_letters f_pieceCount f_songFits f_allFit f_ordered f_pieceFits f_inOrder f_p1_size f_p1_fault f_p1_odds f_p1_lengths f_p1_letters f_p2_size f_p2_fault f_p2_inside f_p2_lengths f_p2_letters f_p3_size f_p3_fault f_p3_letters) H → va_D A (w_Fi_update ct a_this a_pieceFits a_inOrder a_p1 a_p1_odds a_p1_lengths a_p1_letters a_p1_alike a_p1_oddsTogether a_p2 a_p2_inside a_p2_lengths a_p2_letters a_p3 a_p3_letters f_pieceCount f_songFits f_allFit f_ordered f_pieceFits f_inOrder f_p1_size f_p1_fault f_p1_odds f_p1_lengths f_p1_letters f_p2_size f_p2_fault f_p2_inside f_p2_lengths f_p2_letters f_p3_size f_p3_fault f_p3_letters) → va_S A s.heap H locs → ∀ ls : Array Slot, lv_has ls 6 [(0, .ref a_this), (1, .ref a_p1), (2, .ref a_p2), (3, .ref a_p3), (4, .int x4)] → W p l e RM_Fi_update s m args below meth c H locs 0 0 (MQ below (QM D none (w_Fi_update ct a_this a_pieceFits a_inOrder a_p1 a_p1_odds a_p1_lengths a_p1_letters a_p1_alike a_p1_oddsTogether a_p2 a_p2_inside a_p2_lengths a_p2_letters a_p3 a_p3_letters r_pieceCount r_songFits r_allFit r_ordered r_pieceFits r_inOrder f_p1_size f_p1_fault f_p1_odds f_p1_lengths f_p1_letters f_p2_size f_p2_fault f_p2_inside f_p2_lengths f_p2_letters f_p3_size f_p3_fault f_p3_letters) A) args s 0 0 A) (F0 m 24 ls [])) : ∀ (n : Nat) (x4 : Int32) (x5 : Int32) (f_pieceCount : Int32) (f_songFits : Int32) (f_allFit : Int32) (f_ordered : Int32) (f_pieceFits : Nat → Int32) (f_inOrder : Nat → Int32), Fi_update_l59 F f_p1_size f_p1_odds f_p1_lengths f_p1_letters f_p2_size f_p2_inside f_p2_lengths f_p2_letters f_p3_size f_p3_letters rec24 n x4 x5 f_pieceCount f_songFits f_allFit f_ordered f_pieceFits f_inOrder = some (r_pieceCount, r_songFits, r_allFit, r_ordered, r_pieceFits, r_inOrder) → ∀ (H : Heap) (locs : List Loc), va_P D vwCl (w_Fi_update ct a_this a_pieceFits a_inOrder a_p1 a_p1_odds a_p1_lengths a_p1_letters a_p1_alike a_p1_oddsTogether a_p2 a_p2_inside a_p2_lengths a_p2_letters a_p3 a_p3_letters f_pieceCount f_songFits f_allFit f_ordered f_pieceFits f_inOrder f_p1_size f_p1_fault f_p1_odds f_p1_lengths f_p1_letters f_p2_size f_p2_fault f_p2_inside f_p2_lengths f_p2_letters f_p3_size f_p3_fault f_p3_letters) H → va_D A (w_Fi_update ct a_this a_pieceFits a_inOrder a_p1 a_p1_odds a_p1_lengths a_p1_letters a_p1_alike a_p1_oddsTogether a_p2 a_p2_inside a_p2_lengths a_p2_letters a_p3 a_p3_letters f_pieceCount f_songFits f_allFit f_ordered f_pieceFits f_inOrder f_p1_size f_p1_fault f_p1_odds f_p1_lengths f_p1_letters f_p2_size f_p2_fault f_p2_inside f_p2_lengths f_p2_letters f_p3_size f_p3_fault f_p3_letters) → va_S A s.heap H locs → ∀ ls : Array Slot, lv_has ls 6 [(0, .ref a_this), (1, .ref a_p1), (2, .ref a_p2), (3, .ref a_p3), (4, .int x4), (5, .int x5)] → W p l e RM_Fi_update s m args below meth c H locs 0 0 (MQ below (QM D none (w_Fi_update ct a_this a_pieceFits a_inOrder a_p1 a_p1_odds a_p1_lengths a_p1_letters a_p1_alike a_p1_oddsTogether a_p2 a_p2_inside a_p2_lengths a_p2_letters a_p3 a_p3_letters r_pieceCount r_songFits r_allFit r_ordered r_pieceFits r_inOrder f_p1_size f_p1_fault f_p1_odds f_p1_lengths f_p1_letters f_p2_size f_p2_fault f_p2_inside f_p2_lengths f_p2_letters f_p3_size f_p3_fault f_p3_letters) A) args s 0 0 A) (F0 m 59 ls []) := by
  intro n
  induction n with
  | zero =>
    intro x4 x5 f_pieceCount f_songFits f_allFit f_ordered f_pieceFits f_inOrder hf
    exact absurd hf (by simp [Fi_update_l59])
  | succ n ih =>
    intro x4 x5 f_pieceCount f_songFits f_allFit f_ordered f_pieceFits f_inOrder hf
    exact t_Fi_update_b59 C hA a_this a_pieceFits a_inOrder a_p1 a_p1_odds a_p1_lengths a_p1_letters a_p1_alike a_p1_oddsTogether a_p2 a_p2_inside a_p2_lengths a_p2_letters a_p3 a_p3_letters f_p1_fault f_p2_fault f_p3_fault F f_p1_size f_p1_odds f_p1_lengths f_p1_letters f_p2_size f_p2_inside f_p2_lengths f_p2_letters f_p3_size f_p3_letters r_pieceCount r_songFits r_allFit r_ordered r_pieceFits r_inOrder rec24 (Fi_update_l59 F f_p1_size f_p1_odds f_p1_lengths f_p1_letters f_p2_size f_p2_inside f_p2_lengths f_p2_letters f_p3_size f_p3_letters rec24 n) hr24 ih x4 x5 f_pieceCount f_songFits f_allFit f_ordered f_pieceFits f_inOrder hf
set_option maxHeartbeats 4000000 in
set_option maxRecDepth 100000 in
theorem t_Fi_update_b56 {p : Program} {l : Launch} {e : Env} {s : State} {m : MethodId} {args : Array Value} {below : List Frame} {meth : Method} {c : Code} {D : va_G} {ct : Nat → ClassId} (C : CX p s m args meth c RX1 cX1_update 6 none D ct) {A : Nat → Prop} (hA : ∀ q : Nat, s.heap.size ≤ q → A q) (a_this a_pieceFits a_inOrder a_p1 a_p1_odds a_p1_lengths a_p1_letters a_p1_alike a_p1_oddsTogether a_p2 a_p2_inside a_p2_lengths a_p2_letters a_p3 a_p3_letters : Nat) (f_p1_fault : Int32) (f_p2_fault : Int32) (f_p3_fault : Int32) (F : Nat) (f_p1_size : Int32) (f_p1_odds : Nat → Int32) (f_p1_lengths : Nat → Int32) (f_p1_letters : Nat → Int32) (f_p2_size : Int32) (f_p2_inside : Nat → Int32) (f_p2_lengths : Nat → Int32) (f_p2_letters : Nat → Int32) (f_p3_size : Int32) (f_p3_letters : Nat → Int32) (r_pieceCount : Int32) (r_songFits : Int32) (r_allFit : Int32) (r_ordered : Int32) (r_pieceFits : Nat → Int32) (r_inOrder : Nat → Int32) (rec24 : Int32 → Int32 → Int32 → Int32 → Int32 → (Nat → Int32) → (Nat → Int32) → Option (Int32 × Int32 × Int32 × Int32 × (Nat → Int32) × (Nat → Int32))) (hr24 : ∀ (x4 : Int32) (f_pieceCount : Int32) (f_songFits : Int32) (f_allFit : Int32) (f_ordered : Int32) (f_pieceFits : Nat → Int32) (f_inOrder : Nat → Int32), rec24 x4 f_pieceCount f_songFits f_allFit f_ordered f_pieceFits f_inOrder = some (r_pieceCount, r_songFits, r_allFit, r_ordered, r_pieceFits, r_inOrder) → ∀ (H : Heap) (locs : List Loc), va_P D vwCl (w_Fi_update ct a_this a_pieceFits a_inOrder a_p1 a_p1_odds a_p1_lengths a_p1_letters a_p1_alike a_p1_oddsTogether a_p2 a_p2_inside a_p2_lengths a_p2_letters a_p3 a_p3_letters f_pieceCount f_songFits f_allFit f_ordered f_pieceFits f_inOrder f_p1_size f_p1_fault f_p1_odds f_p1_lengths f_p1_letters f_p2_size f_p2_fault f_p2_inside f_p2_lengths f_p2_letters f_p3_size f_p3_fault f_p3_letters) H → va_D A (w_Fi_update ct a_this a_pieceFits a_inOrder a_p1 a_p1_odds a_p1_lengths a_p1_letters a_p1_alike a_p1_oddsTogether a_p2 a_p2_inside a_p2_lengths a_p2_letters a_p3 a_p3_letters f_pieceCount f_songFits f_allFit f_ordered f_pieceFits f_inOrder f_p1_size f_p1_fault f_p1_odds f_p1_lengths f_p1_letters f_p2_size f_p2_fault f_p2_inside f_p2_lengths f_p2_letters f_p3_size f_p3_fault f_p3_letters) → va_S A s.heap H locs → ∀ ls : Array Slot, lv_has ls 6 [(0, .ref a_this), (1, .ref a_p1), (2, .ref a_p2), (3, .ref a_p3), (4, .int x4)] → W p l e RM_Fi_update s m args below meth c H locs 0 0 (MQ below (QM D none (w_Fi_update ct a_this a_pieceFits a_inOrder a_p1 a_p1_odds a_p1_lengths a_p1_letters a_p1_alike a_p1_oddsTogether a_p2 a_p2_inside a_p2_lengths a_p2_letters a_p3 a_p3_letters r_pieceCount r_songFits r_allFit r_ordered r_pieceFits r_inOrder f_p1_size f_p1_fault f_p1_odds f_p1_lengths f_p1_letters f_p2_size f_p2_fault f_p2_inside f_p2_lengths f_p2_letters f_p3_size f_p3_fault f_p3_letters) A) args s 0 0 A) (F0 m 24 ls [])) : ∀ (x4 : Int32) (f_pieceCount : Int32) (f_songFits : Int32) (f_allFit : Int32) (f_ordered : Int32) (f_pieceFits : Nat → Int32) (f_inOrder : Nat → Int32), Fi_update_b56 F f_p1_size f_p1_odds f_p1_lengths f_p1_letters f_p2_size f_p2_inside f_p2_lengths f_p2_letters f_p3_size f_p3_letters rec24 x4 f_pieceCount f_songFits f_allFit f_ordered f_pieceFits f_inOrder = some (r_pieceCount, r_songFits, r_allFit, r_ordered, r_pieceFits, r_inOrder) → ∀ (H : Heap) (locs : List Loc), va_P D vwCl (w_Fi_update ct a_this a_pieceFits a_inOrder a_p1 a_p1_odds a_p1_lengths a_p1_letters a_p1_alike a_p1_oddsTogether a_p2 a_p2_inside a_p2_lengths a_p2_letters a_p3 a_p3_letters f_pieceCount f_songFits f_allFit f_ordered f_pieceFits f_inOrder f_p1_size f_p1_fault f_p1_odds f_p1_lengths f_p1_letters f_p2_size f_p2_fault f_p2_inside f_p2_lengths f_p2_letters f_p3_size f_p3_fault f_p3_letters) H → va_D A (w_Fi_update ct a_this a_pieceFits a_inOrder a_p1 a_p1_odds a_p1_lengths a_p1_letters a_p1_alike a_p1_oddsTogether a_p2 a_p2_inside a_p2_lengths a_p2_letters a_p3 a_p3_letters f_pieceCount f_songFits f_allFit f_ordered f_pieceFits f_inOrder f_p1_size f_p1_fault f_p1_odds f_p1_lengths f_p1_letters f_p2_size f_p2_fault f_p2_inside f_p2_lengths f_p2_letters f_p3_size f_p3_fault f_p3_letters) → va_S A s.heap H locs → ∀ ls : Array Slot, lv_has ls 6 [(0, .ref a_this), (1, .ref a_p1), (2, .ref a_p2), (3, .ref a_p3), (4, .int x4)] → W p l e RM_Fi_update s m args below meth c H locs 0 0 (MQ below (QM D none (w_Fi_update ct a_this a_pieceFits a_inOrder a_p1 a_p1_odds a_p1_lengths a_p1_letters a_p1_alike a_p1_oddsTogether a_p2 a_p2_inside a_p2_lengths a_p2_letters a_p3 a_p3_letters r_pieceCount r_songFits r_allFit r_ordered r_pieceFits r_inOrder f_p1_size f_p1_fault f_p1_odds f_p1_lengths f_p1_letters f_p2_size f_p2_fault f_p2_inside f_p2_lengths f_p2_letters f_p3_size f_p3_fault f_p3_letters) A) args s 0 0 A) (F0 m 56 ls []) := by
  obtain ⟨hx, hb, hr, hml, hown, hts, hlk, hK, hN⟩ := id C
  intro x4 f_pieceCount f_songFits f_allFit f_ordered f_pieceFits f_inOrder hf H locs hP hD hS ls hl
  unfold Fi_update_b56 at hf
  refine lv_iconst (v := 0) hx hb dX1_update_56 (by decide) ?_
  refine lv_istore (lv' := [(5, .int 0), (0, .ref a_this), (1, .ref a_p1), (2, .ref a_p2), (3, .ref a_p3), (4, .int x4)]) hx hb dX1_update_57 hl (by decide) rfl (fun ls hl => ?_)
  exact t_Fi_update_l59 C hA a_this a_pieceFits a_inOrder a_p1 a_p1_odds a_p1_lengths a_p1_letters a_p1_alike a_p1_oddsTogether a_p2 a_p2_inside a_p2_lengths a_p2_letters a_p3 a_p3_letters f_p1_fault f_p2_fault f_p3_fault F f_p1_size f_p1_odds f_p1_lengths f_p1_letters f_p2_size f_p2_inside f_p2_lengths f_p2_letters f_p3_size f_p3_letters r_pieceCount r_songFits r_allFit r_ordered r_pieceFits r_inOrder rec24 hr24 F x4 0 f_pieceCount f_songFits f_allFit f_ordered f_pieceFits f_inOrder hf _ _ hP hD hS _ (lv_sub hl [1, 2, 3, 4, 5, 0] rfl)
set_option maxHeartbeats 4000000 in
set_option maxRecDepth 100000 in
theorem t_Fi_update_b24 {p : Program} {l : Launch} {e : Env} {s : State} {m : MethodId} {args : Array Value} {below : List Frame} {meth : Method} {c : Code} {D : va_G} {ct : Nat → ClassId} (C : CX p s m args meth c RX1 cX1_update 6 none D ct) {A : Nat → Prop} (hA : ∀ q : Nat, s.heap.size ≤ q → A q) (a_this a_pieceFits a_inOrder a_p1 a_p1_odds a_p1_lengths a_p1_letters a_p1_alike a_p1_oddsTogether a_p2 a_p2_inside a_p2_lengths a_p2_letters a_p3 a_p3_letters : Nat) (f_p1_fault : Int32) (f_p2_fault : Int32) (f_p3_fault : Int32) (F : Nat) (f_p1_size : Int32) (f_p1_odds : Nat → Int32) (f_p1_lengths : Nat → Int32) (f_p1_letters : Nat → Int32) (f_p2_size : Int32) (f_p2_inside : Nat → Int32) (f_p2_lengths : Nat → Int32) (f_p2_letters : Nat → Int32) (f_p3_size : Int32) (f_p3_letters : Nat → Int32) (r_pieceCount : Int32) (r_songFits : Int32) (r_allFit : Int32) (r_ordered : Int32) (r_pieceFits : Nat → Int32) (r_inOrder : Nat → Int32) (rec24 : Int32 → Int32 → Int32 → Int32 → Int32 → (Nat → Int32) → (Nat → Int32) → Option (Int32 × Int32 × Int32 × Int32 × (Nat → Int32) × (Nat → Int32))) (hr24 : ∀ (x4 : Int32) (f_pieceCount : Int32) (f_songFits : Int32) (f_allFit : Int32) (f_ordered : Int32) (f_pieceFits : Nat → Int32) (f_inOrder : Nat → Int32), rec24 x4 f_pieceCount f_songFits f_allFit f_ordered f_pieceFits f_inOrder = some (r_pieceCount, r_songFits, r_allFit, r_ordered, r_pieceFits, r_inOrder) → ∀ (H : Heap) (locs : List Loc), va_P D vwCl (w_Fi_update ct a_this a_pieceFits a_inOrder a_p1 a_p1_odds a_p1_lengths a_p1_letters a_p1_alike a_p1_oddsTogether a_p2 a_p2_inside a_p2_lengths a_p2_letters a_p3 a_p3_letters f_pieceCount f_songFits f_allFit f_ordered f_pieceFits f_inOrder f_p1_size f_p1_fault f_p1_odds f_p1_lengths f_p1_letters f_p2_size f_p2_fault f_p2_inside f_p2_lengths f_p2_letters f_p3_size f_p3_fault f_p3_letters) H → va_D A (w_Fi_update ct a_this a_pieceFits a_inOrder a_p1 a_p1_odds a_p1_lengths a_p1_letters a_p1_alike a_p1_oddsTogether a_p2 a_p2_inside a_p2_lengths a_p2_letters a_p3 a_p3_letters f_pieceCount f_songFits f_allFit f_ordered f_pieceFits f_inOrder f_p1_size f_p1_fault f_p1_odds f_p1_lengths f_p1_letters f_p2_size f_p2_fault f_p2_inside f_p2_lengths f_p2_letters f_p3_size f_p3_fault f_p3_letters) → va_S A s.heap H locs → ∀ ls : Array Slot, lv_has ls 6 [(0, .ref a_this), (1, .ref a_p1), (2, .ref a_p2), (3, .ref a_p3), (4, .int x4)] → W p l e RM_Fi_update s m args below meth c H locs 0 0 (MQ below (QM D none (w_Fi_update ct a_this a_pieceFits a_inOrder a_p1 a_p1_odds a_p1_lengths a_p1_letters a_p1_alike a_p1_oddsTogether a_p2 a_p2_inside a_p2_lengths a_p2_letters a_p3 a_p3_letters r_pieceCount r_songFits r_allFit r_ordered r_pieceFits r_inOrder f_p1_size f_p1_fault f_p1_odds f_p1_lengths f_p1_letters f_p2_size f_p2_fault f_p2_inside f_p2_lengths f_p2_letters f_p3_size f_p3_fault f_p3_letters) A) args s 0 0 A) (F0 m 24 ls [])) : ∀ (x4 : Int32) (f_pieceCount : Int32) (f_songFits : Int32) (f_allFit : Int32) (f_ordered : Int32) (f_pieceFits : Nat → Int32) (f_inOrder : Nat → Int32), Fi_update_b24 F f_p1_size f_p1_odds f_p1_lengths f_p1_letters f_p2_size f_p2_inside f_p2_lengths f_p2_letters f_p3_size f_p3_letters rec24 x4 f_pieceCount f_songFits f_allFit f_ordered f_pieceFits f_inOrder = some (r_pieceCount, r_songFits, r_allFit, r_ordered, r_pieceFits, r_inOrder) → ∀ (H : Heap) (locs : List Loc), va_P D vwCl (w_Fi_update ct a_this a_pieceFits a_inOrder a_p1 a_p1_odds a_p1_lengths a_p1_letters a_p1_alike a_p1_oddsTogether a_p2 a_p2_inside a_p2_lengths a_p2_letters a_p3 a_p3_letters f_pieceCount f_songFits f_allFit f_ordered f_pieceFits f_inOrder f_p1_size f_p1_fault f_p1_odds f_p1_lengths f_p1_letters f_p2_size f_p2_fault f_p2_inside f_p2_lengths f_p2_letters f_p3_size f_p3_fault f_p3_letters) H → va_D A (w_Fi_update ct a_this a_pieceFits a_inOrder a_p1 a_p1_odds a_p1_lengths a_p1_letters a_p1_alike a_p1_oddsTogether a_p2 a_p2_inside a_p2_lengths a_p2_letters a_p3 a_p3_letters f_pieceCount f_songFits f_allFit f_ordered f_pieceFits f_inOrder f_p1_size f_p1_fault f_p1_odds f_p1_lengths f_p1_letters f_p2_size f_p2_fault f_p2_inside f_p2_lengths f_p2_letters f_p3_size f_p3_fault f_p3_letters) → va_S A s.heap H locs → ∀ ls : Array Slot, lv_has ls 6 [(0, .ref a_this), (1, .ref a_p1), (2, .ref a_p2), (3, .ref a_p3), (4, .int x4)] → W p l e RM_Fi_update s m args below meth c H locs 0 0 (MQ below (QM D none (w_Fi_update ct a_this a_pieceFits a_inOrder a_p1 a_p1_odds a_p1_lengths a_p1_letters a_p1_alike a_p1_oddsTogether a_p2 a_p2_inside a_p2_lengths a_p2_letters a_p3 a_p3_letters r_pieceCount r_songFits r_allFit r_ordered r_pieceFits r_inOrder f_p1_size f_p1_fault f_p1_odds f_p1_lengths f_p1_letters f_p2_size f_p2_fault f_p2_inside f_p2_lengths f_p2_letters f_p3_size f_p3_fault f_p3_letters) A) args s 0 0 A) (F0 m 24 ls []) := by
  obtain ⟨hx, hb, hr, hml, hown, hts, hlk, hK, hN⟩ := id C
  intro x4 f_pieceCount f_songFits f_allFit f_ordered f_pieceFits f_inOrder hf H locs hP hD hS ls hl
  unfold Fi_update_b24 at hf
  refine lv_iload hx hb dX1_update_24 (lv_at hl 4 rfl) ?_
  refine lv_aload_n hx hb dX1_update_26 rfl (lv_at hl 1 rfl) ?_
  obtain ⟨v27, hc27, hf⟩ := cb1_some hf
  refine kcRV (q0 := 3) (ci := 3) (As := []) (rest := [.int x4]) (st1 := [.int v27, .int x4]) C (c_Na_size l D ct a_p1 a_p1_odds a_p1_lengths a_p1_letters a_p1_alike a_p1_oddsTogether f_p1_fault f_p1_size v27 hc27) ⟨rfl, rfl⟩ yn_yX3_size tw_445 tw_446 tw_444 ⟨Nat.le_of_ble_eq_true rfl, Nat.le_of_ble_eq_true rfl⟩ ⟨Nat.zero_le _, Nat.zero_le _⟩ hP [3] rfl rfl rfl rfl hl.1 rfl rfl (Nat.le_of_ble_eq_true rfl) dX1_update_27 rfl ?_
  refine lv_icmp_ge (tgt := 106) hx hb dX1_update_30 (by decide) (fun hc => ?_) (fun hc => ?_)
  · have hf := kpos hc hf
    exact t_Fi_update_b106 C hA a_this a_pieceFits a_inOrder a_p1 a_p1_odds a_p1_lengths a_p1_letters a_p1_alike a_p1_oddsTogether a_p2 a_p2_inside a_p2_lengths a_p2_letters a_p3 a_p3_letters f_p1_fault f_p2_fault f_p3_fault F f_p1_size f_p1_odds f_p1_lengths f_p1_letters f_p2_size f_p2_inside f_p2_lengths f_p2_letters f_p3_size f_p3_letters r_pieceCount r_songFits r_allFit r_ordered r_pieceFits r_inOrder f_pieceCount f_songFits f_allFit f_ordered f_pieceFits f_inOrder hf _ _ hP hD hS _ (lv_sub hl [0, 1] rfl)
  · have hf := kneg hc hf
    refine lv_aload_n hx hb dX1_update_33 rfl (lv_at hl 3 rfl) ?_
    refine lv_aload_n hx hb dX1_update_34 rfl (lv_at hl 1 rfl) ?_
    refine lv_iload hx hb dX1_update_35 (lv_at hl 4 rfl) ?_
    obtain ⟨v37, hc37, hf⟩ := cb1_some hf
    refine kcRV (q0 := 11) (ci := 6) (As := [.ref a_p1, .int x4]) (rest := []) (st1 := [.int v37]) C (c_So_isTrueOf l D ct a_p3 a_p3_letters a_p1 a_p1_odds a_p1_lengths a_p1_letters a_p1_alike a_p1_oddsTogether f_p3_fault f_p1_fault F f_p3_size f_p3_letters f_p1_size f_p1_lengths f_p1_letters x4 v37 hc37) ⟨rfl, rfl⟩ yn_yX6_isTrueOf tw_449 tw_450 tw_448 ⟨Nat.le_of_ble_eq_true rfl, Nat.le_of_ble_eq_true rfl⟩ ⟨Nat.zero_le _, Nat.zero_le _⟩ hP [11, 12, 3, 5, 6] rfl rfl rfl rfl hl.1 rfl rfl (Nat.le_of_ble_eq_true rfl) dX1_update_37 rfl ?_
    refine lv_if_eq (tgt := 56) hx hb dX1_update_40 (by decide) (fun hc => ?_) (fun hc => ?_)
    · have hf := kpos hc hf
      exact t_Fi_update_b56 C hA a_this a_pieceFits a_inOrder a_p1 a_p1_odds a_p1_lengths a_p1_letters a_p1_alike a_p1_oddsTogether a_p2 a_p2_inside a_p2_lengths a_p2_letters a_p3 a_p3_letters f_p1_fault f_p2_fault f_p3_fault F f_p1_size f_p1_odds f_p1_lengths f_p1_letters f_p2_size f_p2_inside f_p2_lengths f_p2_letters f_p3_size f_p3_letters r_pieceCount r_songFits r_allFit r_ordered r_pieceFits r_inOrder rec24 hr24 x4 f_pieceCount f_songFits f_allFit f_ordered f_pieceFits f_inOrder hf _ _ hP hD hS _ (lv_sub hl [0, 1, 2, 3, 4] rfl)
    · have hf := kneg hc hf
      refine lv_aload_n hx hb dX1_update_43 rfl (lv_at hl 0 rfl) ?_
      refine lv_dup hx hb dX1_update_44 rfl ?_
      refine va_get (ci := 1) (v := .int f_songFits) (C := RX1) (T := TX1) (N := 6) hx hb hts inX1 hown hK hP 0 rfl rfl 3 (by decide) (hts _ tw_189) (fun _ h9 => h9) rfl dX1_update_45 ?_
      refine lv_iconst (v := 1) hx hb dX1_update_48 (by decide) ?_
      refine lv_iload hx hb dX1_update_49 (lv_at hl 4 rfl) ?_
      refine lv_ishl hx hb dX1_update_51 ?_
      refine lv_ior hx hb dX1_update_52 ?_
      refine va_put (ci := 1) (v := .int (f_songFits ||| ((1 : Int32) <<< (x4 &&& 31)))) (ty := .int) (C := RX1) (T := TX1) (N := 6) hx hb hts inX1 tyX1 tyX1_ok nmX1 hown hK hP hD hS 0 rfl rfl 3 (by decide) (hts _ tw_189) (fun _ h9 => h9) rfl (tyX1_ok 3 (by decide)) rfl rfl (Nat.le_of_ble_eq_true rfl) dX1_update_53 (fun H locs hP hD hS => ?_)
      have hP : va_P D vwCl (w_Fi_update ct a_this a_pieceFits a_inOrder a_p1 a_p1_odds a_p1_lengths a_p1_letters a_p1_alike a_p1_oddsTogether a_p2 a_p2_inside a_p2_lengths a_p2_letters a_p3 a_p3_letters f_pieceCount (f_songFits ||| ((1 : Int32) <<< (x4 &&& 31))) f_allFit f_ordered f_pieceFits f_inOrder f_p1_size f_p1_fault f_p1_odds f_p1_lengths f_p1_letters f_p2_size f_p2_fault f_p2_inside f_p2_lengths f_p2_letters f_p3_size f_p3_fault f_p3_letters) H := hP
      have hD : va_D A (w_Fi_update ct a_this a_pieceFits a_inOrder a_p1 a_p1_odds a_p1_lengths a_p1_letters a_p1_alike a_p1_oddsTogether a_p2 a_p2_inside a_p2_lengths a_p2_letters a_p3 a_p3_letters f_pieceCount (f_songFits ||| ((1 : Int32) <<< (x4 &&& 31))) f_allFit f_ordered f_pieceFits f_inOrder f_p1_size f_p1_fault f_p1_odds f_p1_lengths f_p1_letters f_p2_size f_p2_fault f_p2_inside f_p2_lengths f_p2_letters f_p3_size f_p3_fault f_p3_letters) := hD
      exact t_Fi_update_b56 C hA a_this a_pieceFits a_inOrder a_p1 a_p1_odds a_p1_lengths a_p1_letters a_p1_alike a_p1_oddsTogether a_p2 a_p2_inside a_p2_lengths a_p2_letters a_p3 a_p3_letters f_p1_fault f_p2_fault f_p3_fault F f_p1_size f_p1_odds f_p1_lengths f_p1_letters f_p2_size f_p2_inside f_p2_lengths f_p2_letters f_p3_size f_p3_letters r_pieceCount r_songFits r_allFit r_ordered r_pieceFits r_inOrder rec24 hr24 x4 f_pieceCount (f_songFits ||| ((1 : Int32) <<< (x4 &&& 31))) f_allFit f_ordered f_pieceFits f_inOrder hf _ _ hP hD hS _ (lv_sub hl [0, 1, 2, 3, 4] rfl)
set_option maxHeartbeats 4000000 in
set_option maxRecDepth 100000 in
theorem t_Fi_update_l24 {p : Program} {l : Launch} {e : Env} {s : State} {m : MethodId} {args : Array Value} {below : List Frame} {meth : Method} {c : Code} {D : va_G} {ct : Nat → ClassId} (C : CX p s m args meth c RX1 cX1_update 6 none D ct) {A : Nat → Prop} (hA : ∀ q : Nat, s.heap.size ≤ q → A q) (a_this a_pieceFits a_inOrder a_p1 a_p1_odds a_p1_lengths a_p1_letters a_p1_alike a_p1_oddsTogether a_p2 a_p2_inside a_p2_lengths a_p2_letters a_p3 a_p3_letters : Nat) (f_p1_fault : Int32) (f_p2_fault : Int32) (f_p3_fault : Int32) (F : Nat) (f_p1_size : Int32) (f_p1_odds : Nat → Int32) (f_p1_lengths : Nat → Int32) (f_p1_letters : Nat → Int32) (f_p2_size : Int32) (f_p2_inside : Nat → Int32) (f_p2_lengths : Nat → Int32) (f_p2_letters : Nat → Int32) (f_p3_size : Int32) (f_p3_letters : Nat → Int32) (r_pieceCount : Int32) (r_songFits : Int32) (r_allFit : Int32) (r_ordered : Int32) (r_pieceFits : Nat → Int32) (r_inOrder : Nat → Int32) : ∀ (n : Nat) (x4 : Int32) (f_pieceCount : Int32) (f_songFits : Int32) (f_allFit : Int32) (f_ordered : Int32) (f_pieceFits : Nat → Int32) (f_inOrder : Nat → Int32), Fi_update_l24 F f_p1_size f_p1_odds f_p1_lengths f_p1_letters f_p2_size f_p2_inside f_p2_lengths f_p2_letters f_p3_size f_p3_letters n x4 f_pieceCount f_songFits f_allFit f_ordered f_pieceFits f_inOrder = some (r_pieceCount, r_songFits, r_allFit, r_ordered, r_pieceFits, r_inOrder) → ∀ (H : Heap) (locs : List Loc), va_P D vwCl (w_Fi_update ct a_this a_pieceFits a_inOrder a_p1 a_p1_odds a_p1_lengths a_p1_letters a_p1_alike a_p1_oddsTogether a_p2 a_p2_inside a_p2_lengths a_p2_letters a_p3 a_p3_letters f_pieceCount f_songFits f_allFit f_ordered f_pieceFits f_inOrder f_p1_size f_p1_fault f_p1_odds f_p1_lengths f_p1_letters f_p2_size f_p2_fault f_p2_inside f_p2_lengths f_p2_letters f_p3_size f_p3_fault f_p3_letters) H → va_D A (w_Fi_update ct a_this a_pieceFits a_inOrder a_p1 a_p1_odds a_p1_lengths a_p1_letters a_p1_alike a_p1_oddsTogether a_p2 a_p2_inside a_p2_lengths a_p2_letters a_p3 a_p3_letters f_pieceCount f_songFits f_allFit f_ordered f_pieceFits f_inOrder f_p1_size f_p1_fault f_p1_odds f_p1_lengths f_p1_letters f_p2_size f_p2_fault f_p2_inside f_p2_lengths f_p2_letters f_p3_size f_p3_fault f_p3_letters) → va_S A s.heap H locs → ∀ ls : Array Slot, lv_has ls 6 [(0, .ref a_this), (1, .ref a_p1), (2, .ref a_p2), (3, .ref a_p3), (4, .int x4)] → W p l e RM_Fi_update s m args below meth c H locs 0 0 (MQ below (QM D none (w_Fi_update ct a_this a_pieceFits a_inOrder a_p1 a_p1_odds a_p1_lengths a_p1_letters a_p1_alike a_p1_oddsTogether a_p2 a_p2_inside a_p2_lengths a_p2_letters a_p3 a_p3_letters r_pieceCount r_songFits r_allFit r_ordered r_pieceFits r_inOrder f_p1_size f_p1_fault f_p1_odds f_p1_lengths f_p1_letters f_p2_size f_p2_fault f_p2_inside f_p2_lengths f_p2_letters f_p3_size f_p3_fault f_p3_letters) A) args s 0 0 A) (F0 m 24 ls []) := by
  intro n
  induction n with
  | zero =>
    intro x4 f_pieceCount f_songFits f_allFit f_ordered f_pieceFits f_inOrder hf
    exact absurd hf (by simp [Fi_update_l24])
  | succ n ih =>
    intro x4 f_pieceCount f_songFits f_allFit f_ordered f_pieceFits f_inOrder hf
    exact t_Fi_update_b24 C hA a_this a_pieceFits a_inOrder a_p1 a_p1_odds a_p1_lengths a_p1_letters a_p1_alike a_p1_oddsTogether a_p2 a_p2_inside a_p2_lengths a_p2_letters a_p3 a_p3_letters f_p1_fault f_p2_fault f_p3_fault F f_p1_size f_p1_odds f_p1_lengths f_p1_letters f_p2_size f_p2_inside f_p2_lengths f_p2_letters f_p3_size f_p3_letters r_pieceCount r_songFits r_allFit r_ordered r_pieceFits r_inOrder (Fi_update_l24 F f_p1_size f_p1_odds f_p1_lengths f_p1_letters f_p2_size f_p2_inside f_p2_lengths f_p2_letters f_p3_size f_p3_letters n) ih x4 f_pieceCount f_songFits f_allFit f_ordered f_pieceFits f_inOrder hf
set_option maxHeartbeats 4000000 in
set_option maxRecDepth 100000 in
theorem c_Fi_update (l : Launch) (D : va_G) (ct : Nat → ClassId) (a_this a_pieceFits a_inOrder a_p1 a_p1_odds a_p1_lengths a_p1_letters a_p1_alike a_p1_oddsTogether a_p2 a_p2_inside a_p2_lengths a_p2_letters a_p3 a_p3_letters : Nat) (f_p1_fault : Int32) (f_p2_fault : Int32) (f_p3_fault : Int32) (F : Nat) (f_p1_size : Int32) (f_p1_odds : Nat → Int32) (f_p1_lengths : Nat → Int32) (f_p1_letters : Nat → Int32) (f_p2_size : Int32) (f_p2_inside : Nat → Int32) (f_p2_lengths : Nat → Int32) (f_p2_letters : Nat → Int32) (f_p3_size : Int32) (f_p3_letters : Nat → Int32) (f_pieceCount : Int32) (f_songFits : Int32) (f_allFit : Int32) (f_ordered : Int32) (f_pieceFits : Nat → Int32) (f_inOrder : Nat → Int32) (r_pieceCount : Int32) (r_songFits : Int32) (r_allFit : Int32) (r_ordered : Int32) (r_pieceFits : Nat → Int32) (r_inOrder : Nat → Int32) (sz : Nat) (hf : Fi_update F f_p1_size f_p1_odds f_p1_lengths f_p1_letters f_p2_size f_p2_inside f_p2_lengths f_p2_letters f_p3_size f_p3_letters f_pieceCount f_songFits f_allFit f_ordered f_pieceFits f_inOrder = some (r_pieceCount, r_songFits, r_allFit, r_ordered, r_pieceFits, r_inOrder)) : Met l yX1_update (WS yX1_update cX1_update 6 none) RM_Fi_update (va_Pc [.ref a_this, .ref a_p1, .ref a_p2, .ref a_p3] (PM D ct sz (w_Fi_update ct a_this a_pieceFits a_inOrder a_p1 a_p1_odds a_p1_lengths a_p1_letters a_p1_alike a_p1_oddsTogether a_p2 a_p2_inside a_p2_lengths a_p2_letters a_p3 a_p3_letters f_pieceCount f_songFits f_allFit f_ordered f_pieceFits f_inOrder f_p1_size f_p1_fault f_p1_odds f_p1_lengths f_p1_letters f_p2_size f_p2_fault f_p2_inside f_p2_lengths f_p2_letters f_p3_size f_p3_fault f_p3_letters))) (QM D none (w_Fi_update ct a_this a_pieceFits a_inOrder a_p1 a_p1_odds a_p1_lengths a_p1_letters a_p1_alike a_p1_oddsTogether a_p2 a_p2_inside a_p2_lengths a_p2_letters a_p3 a_p3_letters r_pieceCount r_songFits r_allFit r_ordered r_pieceFits r_inOrder f_p1_size f_p1_fault f_p1_odds f_p1_lengths f_p1_letters f_p2_size f_p2_fault f_p2_inside f_p2_lengths f_p2_letters f_p3_size f_p3_fault f_p3_letters) (va_A (w_Fi_update ct a_this a_pieceFits a_inOrder a_p1 a_p1_odds a_p1_lengths a_p1_letters a_p1_alike a_p1_oddsTogether a_p2 a_p2_inside a_p2_lengths a_p2_letters a_p3 a_p3_letters f_pieceCount f_songFits f_allFit f_ordered f_pieceFits f_inOrder f_p1_size f_p1_fault f_p1_odds f_p1_lengths f_p1_letters f_p2_size f_p2_fault f_p2_inside f_p2_lengths f_p2_letters f_p3_size f_p3_fault f_p3_letters) sz)) 0 0 (va_A (w_Fi_update ct a_this a_pieceFits a_inOrder a_p1 a_p1_odds a_p1_lengths a_p1_letters a_p1_alike a_p1_oddsTogether a_p2 a_p2_inside a_p2_lengths a_p2_letters a_p3 a_p3_letters f_pieceCount f_songFits f_allFit f_ordered f_pieceFits f_inOrder f_p1_size f_p1_fault f_p1_odds f_p1_lengths f_p1_letters f_p2_size f_p2_fault f_p2_inside f_p2_lengths f_p2_letters f_p3_size f_p3_fault f_p3_letters) sz) := by
  refine kMetM yn_yX1_update rfl (Nat.le_of_ble_eq_true rfl) ?_
  intro p e s m args below meth c A C hA hP hD ls hl
  have hl : lv_has ls 6 [(0, .ref a_this), (1, .ref a_p1), (2, .ref a_p2), (3, .ref a_p3)] := hl
  have hS : va_S A s.heap s.heap [] := va_S.rf
  obtain ⟨hx, hb, hr, hml, hown, hts, hlk, hK, hN⟩ := id C
  unfold Fi_update at hf
  refine lv_aload_n hx hb dX1_update_0 rfl (lv_at hl 0 rfl) ?_
  refine va_get (ci := 1) (v := .ref a_pieceFits) (C := RX1) (T := TX1) (N := 6) hx hb hts inX1 hown hK hP 0 rfl rfl 0 (by decide) (hts _ tw_186) (fun _ h9 => h9) rfl dX1_update_1 ?_
  refine lv_iconst (v := 0) hx hb dX1_update_4 (by decide) ?_
  obtain ⟨f_pieceFits_5, hc5, hf⟩ := cb1_some hf
  refine kcMS (As := [.ref a_pieceFits, .int 0]) (rest := []) (st1 := []) (wf := (w_Fi_update ct a_this a_pieceFits a_inOrder a_p1 a_p1_odds a_p1_lengths a_p1_letters a_p1_alike a_p1_oddsTogether a_p2 a_p2_inside a_p2_lengths a_p2_letters a_p3 a_p3_letters f_pieceCount f_songFits f_allFit f_ordered f_pieceFits_5 f_inOrder f_p1_size f_p1_fault f_p1_odds f_p1_lengths f_p1_letters f_p2_size f_p2_fault f_p2_inside f_p2_lengths f_p2_letters f_p3_size f_p3_fault f_p3_letters)) C (c_Jarr_fill l D ct a_pieceFits 6 F f_pieceFits 0 f_pieceFits_5 _ hc5) ⟨rfl, rfl⟩ yn_yJ7_fill_53178 tw_400 tw_439 ⟨Nat.le_of_ble_eq_true rfl, Nat.le_of_ble_eq_true rfl⟩ ⟨Nat.zero_le _, Nat.zero_le _⟩ hP hD hS hA [1] [0, 2, 3, 4, 5, 6, 7, 8, 9, 10, 11, 12] [0, 12, 1, 2, 3, 4, 5, 6, 7, 8, 9, 10, 11] rfl rfl rfl rfl rfl (by decide) rfl rfl rfl hl.1 rfl rfl (Nat.le_of_ble_eq_true rfl) dX1_update_5 rfl (fun H locs hP hD hS => ?_)
  refine lv_aload_n hx hb dX1_update_8 rfl (lv_at hl 0 rfl) ?_
  refine lv_aload_n hx hb dX1_update_9 rfl (lv_at hl 2 rfl) ?_
  obtain ⟨v10, hc10, hf⟩ := cb1_some hf
  refine kcRV (q0 := 7) (ci := 4) (As := []) (rest := [.ref a_this]) (st1 := [.int v10, .ref a_this]) C (c_Pi_size l D ct a_p2 a_p2_inside a_p2_lengths a_p2_letters f_p2_fault f_p2_size v10 hc10) ⟨rfl, rfl⟩ yn_yX4_size tw_441 tw_442 tw_440 ⟨Nat.le_of_ble_eq_true rfl, Nat.le_of_ble_eq_true rfl⟩ ⟨Nat.zero_le _, Nat.zero_le _⟩ hP [7] rfl rfl rfl rfl hl.1 rfl rfl (Nat.le_of_ble_eq_true rfl) dX1_update_10 rfl ?_
  refine va_put (ci := 1) (v := .int v10) (ty := .int) (C := RX1) (T := TX1) (N := 6) hx hb hts inX1 tyX1 tyX1_ok nmX1 hown hK hP hD hS 0 rfl rfl 2 (by decide) (hts _ tw_188) (fun _ h9 => h9) rfl (tyX1_ok 2 (by decide)) rfl rfl (Nat.le_of_ble_eq_true rfl) dX1_update_13 (fun H locs hP hD hS => ?_)
  have hP : va_P D vwCl (w_Fi_update ct a_this a_pieceFits a_inOrder a_p1 a_p1_odds a_p1_lengths a_p1_letters a_p1_alike a_p1_oddsTogether a_p2 a_p2_inside a_p2_lengths a_p2_letters a_p3 a_p3_letters v10 f_songFits f_allFit f_ordered f_pieceFits_5 f_inOrder f_p1_size f_p1_fault f_p1_odds f_p1_lengths f_p1_letters f_p2_size f_p2_fault f_p2_inside f_p2_lengths f_p2_letters f_p3_size f_p3_fault f_p3_letters) H := hP
  have hD : va_D A (w_Fi_update ct a_this a_pieceFits a_inOrder a_p1 a_p1_odds a_p1_lengths a_p1_letters a_p1_alike a_p1_oddsTogether a_p2 a_p2_inside a_p2_lengths a_p2_letters a_p3 a_p3_letters v10 f_songFits f_allFit f_ordered f_pieceFits_5 f_inOrder f_p1_size f_p1_fault f_p1_odds f_p1_lengths f_p1_letters f_p2_size f_p2_fault f_p2_inside f_p2_lengths f_p2_letters f_p3_size f_p3_fault f_p3_letters) := hD
  refine lv_aload_n hx hb dX1_update_16 rfl (lv_at hl 0 rfl) ?_
  refine lv_iconst (v := 0) hx hb dX1_update_17 (by decide) ?_
  refine va_put (ci := 1) (v := .int 0) (ty := .int) (C := RX1) (T := TX1) (N := 6) hx hb hts inX1 tyX1 tyX1_ok nmX1 hown hK hP hD hS 0 rfl rfl 3 (by decide) (hts _ tw_189) (fun _ h9 => h9) rfl (tyX1_ok 3 (by decide)) rfl rfl (Nat.le_of_ble_eq_true rfl) dX1_update_18 (fun H locs hP hD hS => ?_)
  have hP : va_P D vwCl (w_Fi_update ct a_this a_pieceFits a_inOrder a_p1 a_p1_odds a_p1_lengths a_p1_letters a_p1_alike a_p1_oddsTogether a_p2 a_p2_inside a_p2_lengths a_p2_letters a_p3 a_p3_letters v10 0 f_allFit f_ordered f_pieceFits_5 f_inOrder f_p1_size f_p1_fault f_p1_odds f_p1_lengths f_p1_letters f_p2_size f_p2_fault f_p2_inside f_p2_lengths f_p2_letters f_p3_size f_p3_fault f_p3_letters) H := hP
  have hD : va_D A (w_Fi_update ct a_this a_pieceFits a_inOrder a_p1 a_p1_odds a_p1_lengths a_p1_letters a_p1_alike a_p1_oddsTogether a_p2 a_p2_inside a_p2_lengths a_p2_letters a_p3 a_p3_letters v10 0 f_allFit f_ordered f_pieceFits_5 f_inOrder f_p1_size f_p1_fault f_p1_odds f_p1_lengths f_p1_letters f_p2_size f_p2_fault f_p2_inside f_p2_lengths f_p2_letters f_p3_size f_p3_fault f_p3_letters) := hD
  refine lv_iconst (v := 0) hx hb dX1_update_21 (by decide) ?_
  refine lv_istore (lv' := [(4, .int 0), (0, .ref a_this), (1, .ref a_p1), (2, .ref a_p2), (3, .ref a_p3)]) hx hb dX1_update_22 hl (by decide) rfl (fun ls hl => ?_)
  exact t_Fi_update_l24 C hA a_this a_pieceFits a_inOrder a_p1 a_p1_odds a_p1_lengths a_p1_letters a_p1_alike a_p1_oddsTogether a_p2 a_p2_inside a_p2_lengths a_p2_letters a_p3 a_p3_letters f_p1_fault f_p2_fault f_p3_fault F f_p1_size f_p1_odds f_p1_lengths f_p1_letters f_p2_size f_p2_inside f_p2_lengths f_p2_letters f_p3_size f_p3_letters r_pieceCount r_songFits r_allFit r_ordered r_pieceFits r_inOrder F 0 v10 0 f_allFit f_ordered f_pieceFits_5 f_inOrder hf _ _ hP hD hS _ (lv_sub hl [1, 2, 3, 4, 0] rfl)
def RM_ND_refresh : Room := { frames := 4, cells := 0, slots := 0, locals := 97 }
set_option maxHeartbeats 4000000 in
set_option maxRecDepth 100000 in
theorem c_ND_refresh (l : Launch) (D : va_G) (ct : Nat → ClassId) (a_this a_texts a_names a_pieces a_song a_fitting a_deal a_guesses a_wise a_spy a_sheets a_texts0 a_texts1 a_texts2 a_texts0_bytes a_texts1_bytes a_texts2_bytes a_names_odds a_names_lengths a_names_letters a_names_alike a_names_oddsTogether a_pieces_inside a_pieces_lengths a_pieces_letters a_song_letters a_fitting_pieceFits a_fitting_inOrder : Nat) (f_finding : Int32) (F : Nat) (f_texts0_size : Int32) (f_texts0_bytes : Nat → Int32) (f_texts1_size : Int32) (f_texts1_bytes : Nat → Int32) (f_texts2_size : Int32) (f_texts2_bytes : Nat → Int32) (f_stale : Int32) (f_names_size : Int32) (f_names_fault : Int32) (f_names_odds : Nat → Int32) (f_names_lengths : Nat → Int32) (f_names_letters : Nat → Int32) (f_names_alike : Nat → Int32) (f_names_oddsTogether : Nat → Int32) (f_pieces_size : Int32) (f_pieces_fault : Int32) (f_pieces_inside : Nat → Int32) (f_pieces_lengths : Nat → Int32) (f_pieces_letters : Nat → Int32) (f_song_size : Int32) (f_song_fault : Int32) (f_song_letters : Nat → Int32) (f_fitting_pieceCount : Int32) (f_fitting_songFits : Int32) (f_fitting_allFit : Int32) (f_fitting_ordered : Int32) (f_fitting_pieceFits : Nat → Int32) (f_fitting_inOrder : Nat → Int32) (r_stale : Int32) (r_names_size : Int32) (r_names_fault : Int32) (r_names_odds : Nat → Int32) (r_names_lengths : Nat → Int32) (r_names_letters : Nat → Int32) (r_names_alike : Nat → Int32) (r_names_oddsTogether : Nat → Int32) (r_pieces_size : Int32) (r_pieces_fault : Int32) (r_pieces_inside : Nat → Int32) (r_pieces_lengths : Nat → Int32) (r_pieces_letters : Nat → Int32) (r_song_size : Int32) (r_song_fault : Int32) (r_song_letters : Nat → Int32) (r_fitting_pieceCount : Int32) (r_fitting_songFits : Int32) (r_fitting_allFit : Int32) (r_fitting_ordered : Int32) (r_fitting_pieceFits : Nat → Int32) (r_fitting_inOrder : Nat → Int32) (sz : Nat) (hf : ND_refresh F f_texts0_size f_texts0_bytes f_texts1_size f_texts1_bytes f_texts2_size f_texts2_bytes f_stale f_names_size f_names_fault f_names_odds f_names_lengths f_names_letters f_names_alike f_names_oddsTogether f_pieces_size f_pieces_fault f_pieces_inside f_pieces_lengths f_pieces_letters f_song_size f_song_fault f_song_letters f_fitting_pieceCount f_fitting_songFits f_fitting_allFit f_fitting_ordered f_fitting_pieceFits f_fitting_inOrder = some (r_stale, r_names_size, r_names_fault, r_names_odds, r_names_lengths, r_names_letters, r_names_alike, r_names_oddsTogether, r_pieces_size, r_pieces_fault, r_pieces_inside, r_pieces_lengths, r_pieces_letters, r_song_size, r_song_fault, r_song_letters, r_fitting_pieceCount, r_fitting_songFits, r_fitting_allFit, r_fitting_ordered, r_fitting_pieceFits, r_fitting_inOrder)) : Met l yX10_refresh (WS yX10_refresh cX10_refresh 1 none) RM_ND_refresh (va_Pc [.ref a_this] (PM D ct sz (w_ND_refresh ct a_this a_texts a_names a_pieces a_song a_fitting a_deal a_guesses a_wise a_spy a_sheets a_texts0 a_texts1 a_texts2 a_texts0_bytes a_texts1_bytes a_texts2_bytes a_names_odds a_names_lengths a_names_letters a_names_alike a_names_oddsTogether a_pieces_inside a_pieces_lengths a_pieces_letters a_song_letters a_fitting_pieceFits a_fitting_inOrder f_stale f_finding f_texts0_size f_texts0_bytes f_texts1_size f_texts1_bytes f_texts2_size f_texts2_bytes f_names_size f_names_fault f_names_odds f_names_lengths f_names_letters f_names_alike f_names_oddsTogether f_pieces_size f_pieces_fault f_pieces_inside f_pieces_lengths f_pieces_letters f_song_size f_song_fault f_song_letters f_fitting_pieceCount f_fitting_songFits f_fitting_allFit f_fitting_ordered f_fitting_pieceFits f_fitting_inOrder))) (QM D none (w_ND_refresh ct a_this a_texts a_names a_pieces a_song a_fitting a_deal a_guesses a_wise a_spy a_sheets a_texts0 a_texts1 a_texts2 a_texts0_bytes a_texts1_bytes a_texts2_bytes a_names_odds a_names_lengths a_names_letters a_names_alike a_names_oddsTogether a_pieces_inside a_pieces_lengths a_pieces_letters a_song_letters a_fitting_pieceFits a_fitting_inOrder r_stale f_finding f_texts0_size f_texts0_bytes f_texts1_size f_texts1_bytes f_texts2_size f_texts2_bytes r_names_size r_names_fault r_names_odds r_names_lengths r_names_letters r_names_alike r_names_oddsTogether r_pieces_size r_pieces_fault r_pieces_inside r_pieces_lengths r_pieces_letters r_song_size r_song_fault r_song_letters r_fitting_pieceCount r_fitting_songFits r_fitting_allFit r_fitting_ordered r_fitting_pieceFits r_fitting_inOrder) (va_A (w_ND_refresh ct a_this a_texts a_names a_pieces a_song a_fitting a_deal a_guesses a_wise a_spy a_sheets a_texts0 a_texts1 a_texts2 a_texts0_bytes a_texts1_bytes a_texts2_bytes a_names_odds a_names_lengths a_names_letters a_names_alike a_names_oddsTogether a_pieces_inside a_pieces_lengths a_pieces_letters a_song_letters a_fitting_pieceFits a_fitting_inOrder f_stale f_finding f_texts0_size f_texts0_bytes f_texts1_size f_texts1_bytes f_texts2_size f_texts2_bytes f_names_size f_names_fault f_names_odds f_names_lengths f_names_letters f_names_alike f_names_oddsTogether f_pieces_size f_pieces_fault f_pieces_inside f_pieces_lengths f_pieces_letters f_song_size f_song_fault f_song_letters f_fitting_pieceCount f_fitting_songFits f_fitting_allFit f_fitting_ordered f_fitting_pieceFits f_fitting_inOrder) sz)) 0 0 (va_A (w_ND_refresh ct a_this a_texts a_names a_pieces a_song a_fitting a_deal a_guesses a_wise a_spy a_sheets a_texts0 a_texts1 a_texts2 a_texts0_bytes a_texts1_bytes a_texts2_bytes a_names_odds a_names_lengths a_names_letters a_names_alike a_names_oddsTogether a_pieces_inside a_pieces_lengths a_pieces_letters a_song_letters a_fitting_pieceFits a_fitting_inOrder f_stale f_finding f_texts0_size f_texts0_bytes f_texts1_size f_texts1_bytes f_texts2_size f_texts2_bytes f_names_size f_names_fault f_names_odds f_names_lengths f_names_letters f_names_alike f_names_oddsTogether f_pieces_size f_pieces_fault f_pieces_inside f_pieces_lengths f_pieces_letters f_song_size f_song_fault f_song_letters f_fitting_pieceCount f_fitting_songFits f_fitting_allFit f_fitting_ordered f_fitting_pieceFits f_fitting_inOrder) sz) := by
  refine kMetM yn_yX10_refresh rfl (Nat.le_of_ble_eq_true rfl) ?_
  intro p e s m args below meth c A C hA hP hD ls hl
  have hl : lv_has ls 1 [(0, .ref a_this)] := hl
  have hS : va_S A s.heap s.heap [] := va_S.rf
  obtain ⟨hx, hb, hr, hml, hown, hts, hlk, hK, hN⟩ := id C
  unfold ND_refresh at hf
  refine lv_aload_n hx hb dX10_refresh_0 rfl (lv_at hl 0 rfl) ?_
  refine va_get (ci := 10) (v := .int f_stale) (C := RX10) (T := TX10) (N := 12) hx hb hts inX10 hown hK hP 0 rfl rfl 10 (by decide) (hts _ tw_293) (fun _ h9 => h9) rfl dX10_refresh_1 ?_
  refine lv_if_eq (tgt := 70) hx hb dX10_refresh_4 (by decide) (fun hc => ?_) (fun hc => ?_)
  · have hf := kpos hc hf
    obtain ⟨e1, e2, e3, e4, e5, e6, e7, e8, e9, e10, e11, e12, e13, e14, e15, e16, e17, e18, e19, e20, e21, e22⟩ := ti22 hf
    subst e1; subst e2; subst e3; subst e4; subst e5; subst e6; subst e7; subst e8; subst e9; subst e10; subst e11; subst e12; subst e13; subst e14; subst e15; subst e16; subst e17; subst e18; subst e19; subst e20; subst e21; subst e22
    exact kretMv C hP hD hS dX10_refresh_70
  · have hf := kneg hc hf
    refine lv_aload_n hx hb dX10_refresh_7 rfl (lv_at hl 0 rfl) ?_
    refine lv_iconst (v := 0) hx hb dX10_refresh_8 (by decide) ?_
    refine va_put (ci := 10) (v := .int 0) (ty := .boolean) (C := RX10) (T := TX10) (N := 12) hx hb hts inX10 tyX10 tyX10_ok nmX10 hown hK hP hD hS 0 rfl rfl 10 (by decide) (hts _ tw_293) (fun _ h9 => h9) rfl (tyX10_ok 10 (by decide)) rfl rfl (Nat.le_of_ble_eq_true rfl) dX10_refresh_9 (fun H locs hP hD hS => ?_)
    have hP : va_P D vwCl (w_ND_refresh ct a_this a_texts a_names a_pieces a_song a_fitting a_deal a_guesses a_wise a_spy a_sheets a_texts0 a_texts1 a_texts2 a_texts0_bytes a_texts1_bytes a_texts2_bytes a_names_odds a_names_lengths a_names_letters a_names_alike a_names_oddsTogether a_pieces_inside a_pieces_lengths a_pieces_letters a_song_letters a_fitting_pieceFits a_fitting_inOrder 0 f_finding f_texts0_size f_texts0_bytes f_texts1_size f_texts1_bytes f_texts2_size f_texts2_bytes f_names_size f_names_fault f_names_odds f_names_lengths f_names_letters f_names_alike f_names_oddsTogether f_pieces_size f_pieces_fault f_pieces_inside f_pieces_lengths f_pieces_letters f_song_size f_song_fault f_song_letters f_fitting_pieceCount f_fitting_songFits f_fitting_allFit f_fitting_ordered f_fitting_pieceFits f_fitting_inOrder) H := hP
    have hD : va_D A (w_ND_refresh ct a_this a_texts a_names a_pieces a_song a_fitting a_deal a_guesses a_wise a_spy a_sheets a_texts0 a_texts1 a_texts2 a_texts0_bytes a_texts1_bytes a_texts2_bytes a_names_odds a_names_lengths a_names_letters a_names_alike a_names_oddsTogether a_pieces_inside a_pieces_lengths a_pieces_letters a_song_letters a_fitting_pieceFits a_fitting_inOrder 0 f_finding f_texts0_size f_texts0_bytes f_texts1_size f_texts1_bytes f_texts2_size f_texts2_bytes f_names_size f_names_fault f_names_odds f_names_lengths f_names_letters f_names_alike f_names_oddsTogether f_pieces_size f_pieces_fault f_pieces_inside f_pieces_lengths f_pieces_letters f_song_size f_song_fault f_song_letters f_fitting_pieceCount f_fitting_songFits f_fitting_allFit f_fitting_ordered f_fitting_pieceFits f_fitting_inOrder) := hD
    refine lv_aload_n hx hb dX10_refresh_12 rfl (lv_at hl 0 rfl) ?_
    refine va_get (ci := 10) (v := .ref a_names) (C := RX10) (T := TX10) (N := 12) hx hb hts inX10 hown hK hP 0 rfl rfl 1 (by decide) (hts _ tw_284) (fun _ h9 => h9) rfl dX10_refresh_13 ?_
    refine lv_aload_n hx hb dX10_refresh_16 rfl (lv_at hl 0 rfl) ?_
    refine va_get (ci := 10) (v := .ref a_texts) (C := RX10) (T := TX10) (N := 12) hx hb hts inX10 hown hK hP 0 rfl rfl 0 (by decide) (hts _ tw_283) (fun _ h9 => h9) rfl dX10_refresh_17 ?_
    refine lv_iconst (v := 0) hx hb dX10_refresh_20 (by decide) ?_
    refine kaald hx hb hK hP 1 3 rfl rfl (k := 0) (by rfl) rfl (by decide) dX10_refresh_21 ?_
    obtain ⟨f_names_size_22, f_names_fault_22, f_names_odds_22, f_names_lengths_22, f_names_letters_22, f_names_alike_22, f_names_oddsTogether_22, hc22, hf⟩ := cb7_some hf
    refine kcMV (q0 := 8) (ci := 3) (As := [.ref a_texts0]) (rest := []) (st1 := []) (wf := (w_ND_refresh ct a_this a_texts a_names a_pieces a_song a_fitting a_deal a_guesses a_wise a_spy a_sheets a_texts0 a_texts1 a_texts2 a_texts0_bytes a_texts1_bytes a_texts2_bytes a_names_odds a_names_lengths a_names_letters a_names_alike a_names_oddsTogether a_pieces_inside a_pieces_lengths a_pieces_letters a_song_letters a_fitting_pieceFits a_fitting_inOrder 0 f_finding f_texts0_size f_texts0_bytes f_texts1_size f_texts1_bytes f_texts2_size f_texts2_bytes f_names_size_22 f_names_fault_22 f_names_odds_22 f_names_lengths_22 f_names_letters_22 f_names_alike_22 f_names_oddsTogether_22 f_pieces_size f_pieces_fault f_pieces_inside f_pieces_lengths f_pieces_letters f_song_size f_song_fault f_song_letters f_fitting_pieceCount f_fitting_songFits f_fitting_allFit f_fitting_ordered f_fitting_pieceFits f_fitting_inOrder)) C (c_Na_parse l D ct a_names a_names_odds a_names_lengths a_names_letters a_names_alike a_names_oddsTogether a_texts0 a_texts0_bytes 80 F f_texts0_size f_texts0_bytes f_names_size f_names_fault f_names_odds f_names_lengths f_names_letters f_names_alike f_names_oddsTogether f_names_size_22 f_names_fault_22 f_names_odds_22 f_names_lengths_22 f_names_letters_22 f_names_alike_22 f_names_oddsTogether_22 _ hc22) ⟨rfl, rfl⟩ yn_yX3_parse tw_376 tw_377 tw_375 ⟨Nat.le_of_ble_eq_true rfl, Nat.le_of_ble_eq_true rfl⟩ ⟨Nat.zero_le _, Nat.zero_le _⟩ hP hD hS hA [8, 9, 10, 11, 12, 13, 2, 3] [0, 1, 4, 5, 6, 7, 14, 15, 16, 17, 18, 19, 20, 21, 22] [0, 1, 21, 22, 2, 3, 4, 5, 15, 16, 17, 18, 19, 20, 6, 7, 8, 9, 10, 11, 12, 13, 14] rfl rfl rfl rfl rfl (by decide) rfl rfl rfl rfl rfl rfl hl.1 rfl rfl (Nat.le_of_ble_eq_true rfl) dX10_refresh_22 rfl (fun H locs hP hD hS => ?_)
    refine lv_aload_n hx hb dX10_refresh_25 rfl (lv_at hl 0 rfl) ?_
    refine va_get (ci := 10) (v := .ref a_pieces) (C := RX10) (T := TX10) (N := 12) hx hb hts inX10 hown hK hP 0 rfl rfl 2 (by decide) (hts _ tw_285) (fun _ h9 => h9) rfl dX10_refresh_26 ?_
    refine lv_aload_n hx hb dX10_refresh_29 rfl (lv_at hl 0 rfl) ?_
    refine va_get (ci := 10) (v := .ref a_texts) (C := RX10) (T := TX10) (N := 12) hx hb hts inX10 hown hK hP 0 rfl rfl 0 (by decide) (hts _ tw_283) (fun _ h9 => h9) rfl dX10_refresh_30 ?_
    refine lv_iconst (v := 1) hx hb dX10_refresh_33 (by decide) ?_
    refine kaald hx hb hK hP 1 3 rfl rfl (k := 1) (by rfl) rfl (by decide) dX10_refresh_34 ?_
    obtain ⟨f_pieces_size_35, f_pieces_fault_35, f_pieces_inside_35, f_pieces_lengths_35, f_pieces_letters_35, hc35, hf⟩ := cb5_some hf
    refine kcMV (q0 := 14) (ci := 4) (As := [.ref a_texts1]) (rest := []) (st1 := []) (wf := (w_ND_refresh ct a_this a_texts a_names a_pieces a_song a_fitting a_deal a_guesses a_wise a_spy a_sheets a_texts0 a_texts1 a_texts2 a_texts0_bytes a_texts1_bytes a_texts2_bytes a_names_odds a_names_lengths a_names_letters a_names_alike a_names_oddsTogether a_pieces_inside a_pieces_lengths a_pieces_letters a_song_letters a_fitting_pieceFits a_fitting_inOrder 0 f_finding f_texts0_size f_texts0_bytes f_texts1_size f_texts1_bytes f_texts2_size f_texts2_bytes f_names_size_22 f_names_fault_22 f_names_odds_22 f_names_lengths_22 f_names_letters_22 f_names_alike_22 f_names_oddsTogether_22 f_pieces_size_35 f_pieces_fault_35 f_pieces_inside_35 f_pieces_lengths_35 f_pieces_letters_35 f_song_size f_song_fault f_song_letters f_fitting_pieceCount f_fitting_songFits f_fitting_allFit f_fitting_ordered f_fitting_pieceFits f_fitting_inOrder)) C (c_Pi_parse l D ct a_pieces a_pieces_inside a_pieces_lengths a_pieces_letters a_texts1 a_texts1_bytes 40 F f_texts1_size f_texts1_bytes f_pieces_size f_pieces_fault f_pieces_inside f_pieces_lengths f_pieces_letters f_pieces_size_35 f_pieces_fault_35 f_pieces_inside_35 f_pieces_lengths_35 f_pieces_letters_35 _ hc35) ⟨rfl, rfl⟩ yn_yX4_parse tw_411 tw_412 tw_410 ⟨Nat.le_of_ble_eq_true rfl, Nat.le_of_ble_eq_true rfl⟩ ⟨Nat.zero_le _, Nat.zero_le _⟩ hP hD hS hA [14, 15, 16, 17, 4, 5] [0, 1, 2, 3, 6, 7, 8, 9, 10, 11, 12, 13, 18, 19, 20, 21, 22] [0, 1, 2, 3, 21, 22, 4, 5, 6, 7, 8, 9, 10, 11, 17, 18, 19, 20, 12, 13, 14, 15, 16] rfl rfl rfl rfl rfl (by decide) rfl rfl rfl rfl rfl rfl hl.1 rfl rfl (Nat.le_of_ble_eq_true rfl) dX10_refresh_35 rfl (fun H locs hP hD hS => ?_)
    refine lv_aload_n hx hb dX10_refresh_38 rfl (lv_at hl 0 rfl) ?_
    refine va_get (ci := 10) (v := .ref a_song) (C := RX10) (T := TX10) (N := 12) hx hb hts inX10 hown hK hP 0 rfl rfl 3 (by decide) (hts _ tw_286) (fun _ h9 => h9) rfl dX10_refresh_39 ?_
    refine lv_aload_n hx hb dX10_refresh_42 rfl (lv_at hl 0 rfl) ?_
    refine va_get (ci := 10) (v := .ref a_texts) (C := RX10) (T := TX10) (N := 12) hx hb hts inX10 hown hK hP 0 rfl rfl 0 (by decide) (hts _ tw_283) (fun _ h9 => h9) rfl dX10_refresh_43 ?_
    refine lv_iconst (v := 2) hx hb dX10_refresh_46 (by decide) ?_
    refine kaald hx hb hK hP 1 3 rfl rfl (k := 2) (by rfl) rfl (by decide) dX10_refresh_47 ?_
    obtain ⟨f_song_size_48, f_song_fault_48, f_song_letters_48, hc48, hf⟩ := cb3_some hf
    refine kcMV (q0 := 18) (ci := 6) (As := [.ref a_texts2]) (rest := []) (st1 := []) (wf := (w_ND_refresh ct a_this a_texts a_names a_pieces a_song a_fitting a_deal a_guesses a_wise a_spy a_sheets a_texts0 a_texts1 a_texts2 a_texts0_bytes a_texts1_bytes a_texts2_bytes a_names_odds a_names_lengths a_names_letters a_names_alike a_names_oddsTogether a_pieces_inside a_pieces_lengths a_pieces_letters a_song_letters a_fitting_pieceFits a_fitting_inOrder 0 f_finding f_texts0_size f_texts0_bytes f_texts1_size f_texts1_bytes f_texts2_size f_texts2_bytes f_names_size_22 f_names_fault_22 f_names_odds_22 f_names_lengths_22 f_names_letters_22 f_names_alike_22 f_names_oddsTogether_22 f_pieces_size_35 f_pieces_fault_35 f_pieces_inside_35 f_pieces_lengths_35 f_pieces_letters_35 f_song_size_48 f_song_fault_48 f_song_letters_48 f_fitting_pieceCount f_fitting_songFits f_fitting_allFit f_fitting_ordered f_fitting_pieceFits f_fitting_inOrder)) C (c_So_parse l D ct a_song a_song_letters a_texts2 a_texts2_bytes 6 F f_texts2_size f_texts2_bytes f_song_size f_song_fault f_song_letters f_song_size_48 f_song_fault_48 f_song_letters_48 _ hc48) ⟨rfl, rfl⟩ yn_yX6_parse tw_426 tw_427 tw_425 ⟨Nat.le_of_ble_eq_true rfl, Nat.le_of_ble_eq_true rfl⟩ ⟨Nat.zero_le _, Nat.zero_le _⟩ hP hD hS hA [18, 19, 6, 7] [0, 1, 2, 3, 4, 5, 8, 9, 10, 11, 12, 13, 14, 15, 16, 17, 20, 21, 22] [0, 1, 2, 3, 4, 5, 21, 22, 6, 7, 8, 9, 10, 11, 12, 13, 14, 15, 19, 20, 16, 17, 18] rfl rfl rfl rfl rfl (by decide) rfl rfl rfl rfl rfl rfl hl.1 rfl rfl (Nat.le_of_ble_eq_true rfl) dX10_refresh_48 rfl (fun H locs hP hD hS => ?_)
    refine lv_aload_n hx hb dX10_refresh_51 rfl (lv_at hl 0 rfl) ?_
    refine va_get (ci := 10) (v := .ref a_fitting) (C := RX10) (T := TX10) (N := 12) hx hb hts inX10 hown hK hP 0 rfl rfl 4 (by decide) (hts _ tw_287) (fun _ h9 => h9) rfl dX10_refresh_52 ?_
    refine lv_aload_n hx hb dX10_refresh_55 rfl (lv_at hl 0 rfl) ?_
    refine va_get (ci := 10) (v := .ref a_names) (C := RX10) (T := TX10) (N := 12) hx hb hts inX10 hown hK hP 0 rfl rfl 1 (by decide) (hts _ tw_284) (fun _ h9 => h9) rfl dX10_refresh_56 ?_
    refine lv_aload_n hx hb dX10_refresh_59 rfl (lv_at hl 0 rfl) ?_
    refine va_get (ci := 10) (v := .ref a_pieces) (C := RX10) (T := TX10) (N := 12) hx hb hts inX10 hown hK hP 0 rfl rfl 2 (by decide) (hts _ tw_285) (fun _ h9 => h9) rfl dX10_refresh_60 ?_
    refine lv_aload_n hx hb dX10_refresh_63 rfl (lv_at hl 0 rfl) ?_
    refine va_get (ci := 10) (v := .ref a_song) (C := RX10) (T := TX10) (N := 12) hx hb hts inX10 hown hK hP 0 rfl rfl 3 (by decide) (hts _ tw_286) (fun _ h9 => h9) rfl dX10_refresh_64 ?_
    obtain ⟨f_fitting_pieceCount_67, f_fitting_songFits_67, f_fitting_allFit_67, f_fitting_ordered_67, f_fitting_pieceFits_67, f_fitting_inOrder_67, hc67, hf⟩ := cb6_some hf
    refine kcMV (q0 := 20) (ci := 1) (As := [.ref a_names, .ref a_pieces, .ref a_song]) (rest := []) (st1 := []) (wf := (w_ND_refresh ct a_this a_texts a_names a_pieces a_song a_fitting a_deal a_guesses a_wise a_spy a_sheets a_texts0 a_texts1 a_texts2 a_texts0_bytes a_texts1_bytes a_texts2_bytes a_names_odds a_names_lengths a_names_letters a_names_alike a_names_oddsTogether a_pieces_inside a_pieces_lengths a_pieces_letters a_song_letters a_fitting_pieceFits a_fitting_inOrder 0 f_finding f_texts0_size f_texts0_bytes f_texts1_size f_texts1_bytes f_texts2_size f_texts2_bytes f_names_size_22 f_names_fault_22 f_names_odds_22 f_names_lengths_22 f_names_letters_22 f_names_alike_22 f_names_oddsTogether_22 f_pieces_size_35 f_pieces_fault_35 f_pieces_inside_35 f_pieces_lengths_35 f_pieces_letters_35 f_song_size_48 f_song_fault_48 f_song_letters_48 f_fitting_pieceCount_67 f_fitting_songFits_67 f_fitting_allFit_67 f_fitting_ordered_67 f_fitting_pieceFits_67 f_fitting_inOrder_67)) C (c_Fi_update l D ct a_fitting a_fitting_pieceFits a_fitting_inOrder a_names a_names_odds a_names_lengths a_names_letters a_names_alike a_names_oddsTogether a_pieces a_pieces_inside a_pieces_lengths a_pieces_letters a_song a_song_letters f_names_fault_22 f_pieces_fault_35 f_song_fault_48 F f_names_size_22 f_names_odds_22 f_names_lengths_22 f_names_letters_22 f_pieces_size_35 f_pieces_inside_35 f_pieces_lengths_35 f_pieces_letters_35 f_song_size_48 f_song_letters_48 f_fitting_pieceCount f_fitting_songFits f_fitting_allFit f_fitting_ordered f_fitting_pieceFits f_fitting_inOrder f_fitting_pieceCount_67 f_fitting_songFits_67 f_fitting_allFit_67 f_fitting_ordered_67 f_fitting_pieceFits_67 f_fitting_inOrder_67 _ hc67) ⟨rfl, rfl⟩ yn_yX1_update tw_436 tw_437 tw_435 ⟨Nat.le_of_ble_eq_true rfl, Nat.le_of_ble_eq_true rfl⟩ ⟨Nat.zero_le _, Nat.zero_le _⟩ hP hD hS hA [20, 21, 22, 8, 9, 10, 11, 14, 15, 16, 17, 18, 19] [0, 1, 2, 3, 4, 5, 6, 7, 12, 13] [0, 1, 2, 3, 4, 5, 6, 7, 13, 14, 15, 16, 8, 9, 17, 18, 19, 20, 21, 22, 10, 11, 12] rfl rfl rfl rfl rfl (by decide) rfl rfl rfl rfl rfl rfl hl.1 rfl rfl (Nat.le_of_ble_eq_true rfl) dX10_refresh_67 rfl (fun H locs hP hD hS => ?_)
    obtain ⟨e1, e2, e3, e4, e5, e6, e7, e8, e9, e10, e11, e12, e13, e14, e15, e16, e17, e18, e19, e20, e21, e22⟩ := ti22 hf
    subst e1; subst e2; subst e3; subst e4; subst e5; subst e6; subst e7; subst e8; subst e9; subst e10; subst e11; subst e12; subst e13; subst e14; subst e15; subst e16; subst e17; subst e18; subst e19; subst e20; subst e21; subst e22
    exact kretMv C hP hD hS dX10_refresh_70
