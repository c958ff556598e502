/-! named agrees; what is paid -/
theorem r0 {β : Type} {f : Nat → Int32} {k : Int32 → Option β} : rd 5 f 0 k = k (f 0) := rdN (n := 5) (j := 0) (by omega) (by omega)
theorem r1 {β : Type} {f : Nat → Int32} {k : Int32 → Option β} : rd 5 f 1 k = k (f 1) := rdN (n := 5) (j := 1) (by omega) (by omega)
theorem r2 {β : Type} {f : Nat → Int32} {k : Int32 → Option β} : rd 5 f 2 k = k (f 2) := rdN (n := 5) (j := 2) (by omega) (by omega)
theorem r3 {β : Type} {f : Nat → Int32} {k : Int32 → Option β} : rd 5 f 3 k = k (f 3) := rdN (n := 5) (j := 3) (by omega) (by omega)
theorem r4 {β : Type} {f : Nat → Int32} {k : Int32 → Option β} : rd 5 f 4 k = k (f 4) := rdN (n := 5) (j := 4) (by omega) (by omega)
theorem TmB {tm : Nat → Nat} (h : TmOK tm) : (1 ≤ tm 0 ∧ tm 0 ≤ 99) ∧ tm 1 ≤ 99 ∧ (1 ≤ tm 2 ∧ tm 2 ≤ 12) ∧ tm 3 ≤ 9999 ∧ 1 ≤ tm 4 ∧ tm 4 ≤ 3 := by
  have h0 := h 0 (by omega); have h1 := h 1 (by omega); have h2 := h 2 (by omega); have h3 := h 3 (by omega); have h4 := h 4 (by omega)
  unfold loT hiT at h0 h1 h2 h3 h4
  simp at h0 h1 h2 h3 h4
  omega
theorem shl_t : ∀ g, g < 100 → ∀ k, k < 13 → (nI g) <<< (nI k &&& 31) = nI (g * 2 ^ k) ∧ lshl (lI g) (nI k) = lI (g * 2 ^ k) := by decide +kernel
theorem pw12 {g k : Nat} (hg : g ≤ 99) (hk : k ≤ 12) : g * 2 ^ k ≤ 405504 := by
  have := p2_le hk
  exact Nat.mul_le_mul hg this
theorem De_turns_ok {tm : Nat → Nat} {dt : Nat → Int32} (h : TmC tm dt) : De_turns dt = some (nI (tm 2 * tm 4)) := by
  unfold De_turns; rw [r2, r4, h 2 (by omega), h 4 (by omega), mulN]
theorem De_nightOf_ok {tm : Nat → Nat} {dt : Nat → Int32} (h : TmC tm dt) (hT : TmOK tm) {t : Nat} (ht : t < 1000) : De_nightOf dt (nI t) = some (nI (t / tm 4)) := by
  have := TmB hT
  unfold De_nightOf
  rw [r4, h 4 (by omega), n1, if_pos (show nI 1 ≤ nI (tm 4) by rw [leN (by omega) (by omega)]; omega), r4, h 4 (by omega), gd_s (fun hq => by have := (nI_eq (b := 0) (by omega) (by omega)).mp hq; omega), pk_div (by omega) (by omega) (by omega)]
theorem De_promised_ok {tm : Nat → Nat} {dt : Nat → Int32} (h : TmC tm dt) (hT : TmOK tm) {t : Nat} (ht : t ≤ 12) : De_promised dt (nI t) = some (nI (tm 0 * 2 ^ t)) := by
  have := TmB hT
  unfold De_promised
  rw [r0, h 0 (by omega), (shl_t _ (by omega) t (by omega)).1]
theorem Mo_promise_ok {tm : Nat → Nat} {dt : Nat → Int32} (h : TmC tm dt) (hT : TmOK tm) {t : Nat} (ht : t ≤ 12) : Mo_promise dt (nI t) = some (lI (tm 0 * 2 ^ t)) := by
  have := TmB hT
  unfold Mo_promise
  rw [r0, h 0 (by omega), tL (by omega), (shl_t _ (by omega) t (by omega)).2]
theorem lI_nI {n : Nat} (h : n < 2147483648) : Int64.toInt32 (lI n) = nI n := by rw [← tL h, lg_l2i_i2l]
/-- what is paid where nobody names him -/
def ruinN (tm : Nat → Nat) : Nat := tm 0 * 2 ^ tm 2 + tm 3
theorem De_ruin_ok {tm : Nat → Nat} {dt : Nat → Int32} (h : TmC tm dt) (hT : TmOK tm) : De_paidUnnamed dt = some (nI (ruinN tm)) := by
  have := TmB hT
  unfold De_paidUnnamed
  rw [r2, h 2 (by omega), De_promised_ok h hT (by omega), cb1_s, r3, h 3 (by omega), nI_add]; rfl
theorem Mo_ruin_ok {tm : Nat → Nat} {dt : Nat → Int32} (h : TmC tm dt) (hT : TmOK tm) : Mo_ruin dt = some (nI (ruinN tm)) := by
  have := TmB hT
  have := pw12 (g := tm 0) (k := tm 2) (by omega) (by omega)
  unfold Mo_ruin
  rw [r2, h 2 (by omega), Mo_promise_ok h hT (by omega), cb1_s, r3, h 3 (by omega), lI_nI (by omega), nI_add]; rfl
/-- what is paid at turn t: M turns in all -/
def paidN (tm : Nat → Nat) (t : Nat) : Nat := tm 0 * 2 ^ (t / tm 4) + tm 1 * t
theorem paid_bd {tm : Nat → Nat} (hT : TmOK tm) {t : Nat} (ht : t < tm 2 * tm 4) : t / tm 4 ≤ 11 ∧ t < 36 ∧ paidN tm t ≤ 409000 := by
  have h := TmB hT
  have h1 : t / tm 4 < tm 2 := (Nat.div_lt_iff_lt_mul (by omega)).mpr ht
  have h2 : tm 2 * tm 4 ≤ 12 * 3 := Nat.mul_le_mul (by omega) (by omega)
  have h3 := pw12 (g := tm 0) (k := t / tm 4) (by omega) (by omega)
  have h4 : tm 1 * t ≤ 99 * 35 := Nat.mul_le_mul (by omega) (by omega)
  unfold paidN; omega
theorem mnI_ok {a b : Nat} (ha : a < 2147483648) (hb : b < 2147483648) : mnI (nI a) (nI b) = nI (min a b) := by
  unfold mnI
  by_cases h : a ≤ b
  · rw [if_neg (by rw [ltN hb ha]; omega), Nat.min_eq_left h]
  · rw [if_pos (by rw [ltN hb ha]; omega), Nat.min_eq_right (by omega)]
theorem De_paid_un {tm : Nat → Nat} {dt : Nat → Int32} (h : TmC tm dt) (hT : TmOK tm) {m : Nat} (hm : m < 1000) (x : Int32) : De_paidAt_b31 dt x (nI m) = some (nI (ruinN tm + tm 1 * min m (tm 2 * tm 4))) := by
  have hb := TmB hT
  have h2 : tm 2 * tm 4 ≤ 12 * 3 := Nat.mul_le_mul (by omega) (by omega)
  unfold De_paidAt_b31
  rw [De_ruin_ok h hT, cb1_s, r1, h 1 (by omega), De_turns_ok h, cb1_s, mnI_ok (by omega) (by omega), mulN, nI_add]
theorem De_paid_at {tm : Nat → Nat} {dt : Nat → Int32} (h : TmC tm dt) (hT : TmOK tm) {t : Nat} (ht : t < tm 2 * tm 4) (x2 : Int32) : De_paidAt dt (nI t) x2 = some (nI (paidN tm t)) := by
  have hb := TmB hT
  have h2 : tm 2 * tm 4 ≤ 12 * 3 := Nat.mul_le_mul (by omega) (by omega)
  have h3 := paid_bd hT ht
  unfold De_paidAt
  rw [if_neg (nI_pos (by omega)), De_turns_ok h, cb1_s, if_neg (show ¬ nI (tm 2 * tm 4) ≤ nI t by rw [leN (by omega) (by omega)]; omega), De_nightOf_ok h hT (by omega), cb1_s, De_promised_ok h hT (by omega), cb1_s, r1, h 1 (by omega), mulN, nI_add]; rfl
theorem De_paid_past {tm : Nat → Nat} {dt : Nat → Int32} (h : TmC tm dt) (hT : TmOK tm) {t m : Nat} (ht : tm 2 * tm 4 ≤ t) (ht2 : t < 1000) (hm : m < 1000) : De_paidAt dt (nI t) (nI m) = some (nI (ruinN tm + tm 1 * min m (tm 2 * tm 4))) := by
  have hb := TmB hT
  have h2 : tm 2 * tm 4 ≤ 12 * 3 := Nat.mul_le_mul (by omega) (by omega)
  unfold De_paidAt
  rw [if_neg (nI_pos (by omega)), De_turns_ok h, cb1_s, if_pos (show nI (tm 2 * tm 4) ≤ nI t by rw [leN (by omega) (by omega)]; omega), De_paid_un h hT hm]
theorem first_loop {m : Nat} {g : Nat → Nat} {gs : Int32} {gl : Nat → Int32} {rgs : Int32} {rl : Nat → Int32} (hC : GuOK m g gs gl) (hR : GuOK m g rgs rl) {tm : Nat → Nat} {se : Nat → Int32} (hS : TmC tm se) (hT : TmOK tm) (F : Nat) (x1 x2 c1 c2 : Int32) : ∀ (d j f f2 : Nat), j + d = min m (tm 2 * tm 4) → d < f → d < f2 →
    (∃ t, t < tm 2 * tm 4 ∧ Gu_firstTurnOf_l12 F gs gl x1 c1 f (nI (min m (tm 2 * tm 4))) (nI j) = some (nI t) ∧ Mo_namedOf_l2 F rgs se rl x1 x2 f2 (nI j) = Mo_namedOf_b37 F rgs se rl x1 x2 (nI t)) ∨
    (Gu_firstTurnOf_l12 F gs gl x1 c1 f (nI (min m (tm 2 * tm 4))) (nI j) = some (-1) ∧ Mo_namedOf_l2 F rgs se rl x1 x2 f2 (nI j) = Mo_namedOf_b81 F rgs se rl x1 x2 (nI (min m (tm 2 * tm 4)))) := by
  have hb := TmB hT
  have h2 : tm 2 * tm 4 ≤ 12 * 3 := Nat.mul_le_mul (by omega) (by omega)
  obtain ⟨a1, a2, a3, a4⟩ := hC
  obtain ⟨b1, b2, b3, b4⟩ := hR
  subst a3 b3
  have h4 : ¬ nI (tm 4) = 0 := fun hq => by have := (nI_eq (b := 0) (by omega) (by omega)).mp hq; omega
  intro d
  induction d with
  | zero =>
    intro j f f2 hj hf hf2
    obtain ⟨f, rfl⟩ : ∃ f', f = f' + 1 := ⟨f - 1, by omega⟩
    obtain ⟨f2, rfl⟩ : ∃ f', f2 = f' + 1 := ⟨f2 - 1, by omega⟩
    refine Or.inr ⟨?_, ?_⟩
    · show Gu_firstTurnOf_b12 F (nI m) gl x1 c1 _ _ (nI j) = _
      unfold Gu_firstTurnOf_b12
      rw [if_pos (show nI (min m (tm 2 * tm 4)) ≤ nI j by rw [leN (by omega) (by omega)]; omega)]
    · show Mo_namedOf_b2 F (nI m) se rl x1 x2 _ (nI j) = _
      unfold Mo_namedOf_b2
      by_cases hm : m ≤ j
      · rw [if_pos (show nI m ≤ nI j by rw [leN (by omega) (by omega)]; omega), show min m (tm 2 * tm 4) = j by omega]
      · rw [if_neg (show ¬ nI m ≤ nI j by rw [leN (by omega) (by omega)]; omega), r4, hS 4 (by omega), gd_s h4, r2, hS 2 (by omega), pk_div (by omega) (by omega) (by omega)]
        have h5 : j / tm 4 ≤ j := Nat.div_le_self _ _
        rw [if_pos (show nI (tm 2) ≤ nI (j / tm 4) by rw [leN (by omega) (by omega)]; exact (Nat.le_div_iff_mul_le (by omega)).mpr (by omega)), show min m (tm 2 * tm 4) = j by omega]
  | succ d ih =>
    intro j f f2 hj hf hf2
    obtain ⟨f, rfl⟩ : ∃ f', f = f' + 1 := ⟨f - 1, by omega⟩
    obtain ⟨f2, rfl⟩ : ∃ f', f2 = f' + 1 := ⟨f2 - 1, by omega⟩
    have h5 : j / tm 4 ≤ j := Nat.div_le_self _ _
    have h6 : ¬ tm 2 ≤ j / tm 4 := fun hc => by have := (Nat.le_div_iff_mul_le (by omega)).mp hc; omega
    have e1 : Gu_firstTurnOf_l12 F (nI m) gl x1 c1 (f + 1) (nI (min m (tm 2 * tm 4))) (nI j) = if gl j = x1 then some (nI j) else Gu_firstTurnOf_l12 F (nI m) gl x1 c1 f (nI (min m (tm 2 * tm 4))) (nI (j + 1)) := by
      show Gu_firstTurnOf_b12 F (nI m) gl x1 c1 _ _ (nI j) = _
      unfold Gu_firstTurnOf_b12
      rw [if_neg (show ¬ nI (min m (tm 2 * tm 4)) ≤ nI j by rw [leN (by omega) (by omega)]; omega), rdN (by omega) (by omega), show nI j + 1 = nI (j + 1) from nI_1 _]
    have e2 : Mo_namedOf_l2 F (nI m) se rl x1 x2 (f2 + 1) (nI j) = if rl j = x1 then Mo_namedOf_b37 F (nI m) se rl x1 x2 (nI j) else Mo_namedOf_l2 F (nI m) se rl x1 x2 f2 (nI (j + 1)) := by
      show Mo_namedOf_b2 F (nI m) se rl x1 x2 _ (nI j) = _
      unfold Mo_namedOf_b2
      rw [if_neg (show ¬ nI m ≤ nI j by rw [leN (by omega) (by omega)]; omega), r4, hS 4 (by omega), gd_s h4, r2, hS 2 (by omega), pk_div (by omega) (by omega) (by omega), if_neg (show ¬ nI (tm 2) ≤ nI (j / tm 4) by rw [leN (by omega) (by omega)]; exact h6), rdN (by omega) (by omega), show nI j + 1 = nI (j + 1) from nI_1 _]
    rw [e1, e2, a4 j (by omega), b4 j (by omega)]
    by_cases h : nI (g j) = x1
    · rw [if_pos h, if_pos h]; exact Or.inl ⟨j, by omega, rfl, rfl⟩
    · rw [if_neg h, if_neg h]; exact ih (j + 1) f f2 (by omega) (by omega) (by omega)
theorem b37_0 {tm : Nat → Nat} {se : Nat → Int32} (hS : TmC tm se) (hT : TmOK tm) (F : Nat) (rgs x1 : Int32) (rl : Nat → Int32) {t : Nat} (ht : t < tm 2 * tm 4) : Mo_namedOf_b37 F rgs se rl x1 (nI 0) (nI t) = some (nI (t / tm 4)) ∧ Mo_namedOf_b37 F rgs se rl x1 (nI 1) (nI t) = some (nI (paidN tm t)) := by
  have hb := TmB hT
  have h3 := paid_bd hT ht
  have h4 : ¬ nI (tm 4) = 0 := fun hq => by have := (nI_eq (b := 0) (by omega) (by omega)).mp hq; omega
  have h5 := pw12 (g := tm 0) (k := t / tm 4) (by omega) (by omega)
  unfold Mo_namedOf_b37
  refine ⟨?_, ?_⟩
  · rw [if_pos (show nI 0 = 0 from rfl), r4, hS 4 (by omega), gd_s h4, pk_div (by omega) (by omega) (by omega)]
  · rw [if_neg (show ¬ nI 1 = 0 by decide), r4, hS 4 (by omega), gd_s h4, pk_div (by omega) (by omega) (by omega), Mo_promise_ok hS hT (by omega), cb1_s, r1, hS 1 (by omega), lI_nI (by omega), mulN, nI_add, Nat.mul_comm t]; rfl
theorem b81_0 {tm : Nat → Nat} {se : Nat → Int32} (hS : TmC tm se) (hT : TmOK tm) (F : Nat) (rgs x1 : Int32) (rl : Nat → Int32) {t : Nat} : Mo_namedOf_b81 F rgs se rl x1 (nI 0) (nI t) = some (-1) ∧ Mo_namedOf_b81 F rgs se rl x1 (nI 1) (nI t) = some (nI (ruinN tm + tm 1 * t)) := by
  unfold Mo_namedOf_b81
  refine ⟨?_, ?_⟩
  · rw [if_pos (show nI 0 = 0 from rfl)]
  · rw [if_neg (show ¬ nI 1 = 0 by decide), Mo_ruin_ok hS hT, cb1_s, r1, hS 1 (by omega), mulN, nI_add, Nat.mul_comm t]
theorem named_ok {T : Nat → Nat → Nat} {n : Nat → Nat} {t0s : Int32} {t0b : (Nat → Int32)} {t1s : Int32} {t1b : (Nat → Int32)} {t2s : Int32} {t2b : (Nat → Int32)} {st : Int32} {nz : Int32} {nf : Int32} {nod : (Nat → Int32)} {nln : (Nat → Int32)} {nlt : (Nat → Int32)} {nal : (Nat → Int32)} {nto : (Nat → Int32)} {pz : Int32} {pf : Int32} {pis : (Nat → Int32)} {pln : (Nat → Int32)} {plt : (Nat → Int32)} {sz : Int32} {sf : Int32} {slt : (Nat → Int32)} {fpc : Int32} {fsf : Int32} {faf : Int32} {ford : Int32} {fpf : (Nat → Int32)} {fio : (Nat → Int32)} (hT : TxC T n t0s t0b t1s t1b t2s t2b) (hD : DrC T n st nz nf nod nln nlt nal nto pz pf pis pln plt sz sf slt fpc fsf faf ford fpf fio) {bytes typed : Nat → Int32} (hM : TxR T n bytes typed) {F : Nat} (hF : 2000 ≤ F) {tm : Nat → Nat} {dt se : Nat → Int32} (hC : TmC tm dt) (hS : TmC tm se) (hTm : TmOK tm) {m : Nat} {g : Nat → Nat} {gs : Int32} {gl : Nat → Int32} {rgs : Int32} {rl : Nat → Int32} (hG1 : GuOK m g gs gl) (hG2 : GuOK m g rgs rl) (ra : Int32) (rn : Int32) (rp : Int32) (rs : Int32) (rch : (Nat → Int32)) (rlo : (Nat → Int32)) (rle : (Nat → Int32)) (ris : (Nat → Int32)) (rpl : (Nat → Int32)) (rpt : (Nat → Int32)) (rso : (Nat → Int32)) (x1 x2 : Int32) : ∃ r st' nz' nf' nod' nln' nlt' nal' nto' pz' pf' pis' pln' plt' sz' sf' slt' fpc' fsf' faf' ford' fpf' fio' ra' rn' rp' rs' rch' rlo' rle' ris' rpl' rpt' rso',
    ND_named F t0s t0b t1s t1b t2s t2b dt gs gl st nz nf nod nln nlt nal nto pz pf pis pln plt sz sf slt fpc fsf faf ford fpf fio x1 x2 = some (r, st', nz', nf', nod', nln', nlt', nal', nto', pz', pf', pis', pln', plt', sz', sf', slt', fpc', fsf', faf', ford', fpf', fio') ∧ Mo_named F rgs bytes typed se rl ra rn rp rs rch rlo rle ris rpl rpt rso x1 x2 = some (r, ra', rn', rp', rs', rch', rlo', rle', ris', rpl', rpt', rso') ∧ DrC T n st' nz' nf' nod' nln' nlt' nal' nto' pz' pf' pis' pln' plt' sz' sf' slt' fpc' fsf' faf' ford' fpf' fio' := by
  obtain ⟨nz', nf', nod', nln', nlt', nal', nto', pz', pf', pis', pln', plt', sz', sf', slt', fpc', fsf', faf', ford', fpf', fio', e, g⟩ := ND_refresh_ok hT hD hF
  obtain ⟨ra', rn', rp', rs', rch', rlo', rle', ris', rpl', rpt', rso', f, q1, q2, q3, q4, q5, q6⟩ := Mo_reads_ok hT hM hF ra rn rp rs rch rlo rle ris rpl rpt rso
  have g' := DrC_0 g
  have hN10 : nN T n ≤ 10 := pN_le
  have hz : nz' = nI (nN T n) := g.1.1
  have hb := TmB hTm
  have h2 : tm 2 * tm 4 ≤ 12 * 3 := Nat.mul_le_mul (by omega) (by omega)
  have hm12 := hG1.1
  unfold ND_named Mo_named
  rw [e, cb22_s, f, cb11_s, q1, hz]
  rw [hz] at g'
  rcases isName_cases (nN T n) hN10 x1 with ⟨k, hk, rfl, e1, e2⟩ | ⟨e1, e2⟩
  · rw [e1, e2, cb1_s, cb1_s, if_neg (show ¬ (1 : Int32) = 0 by decide), if_neg (show ¬ (1 : Int32) = 0 by decide)]
    rcases two_cases x2 with ⟨b, hb, rfl, e3, e4⟩ | ⟨e3, e4⟩
    · rw [e3, e4, cb1_s, cb1_s, if_neg (show ¬ (1 : Int32) = 0 by decide), if_neg (show ¬ (1 : Int32) = 0 by decide), De_turns_ok hC, cb1_s]
      unfold Gu_firstTurnOf Mo_namedOf
      have hgs : gs = nI m := hG1.2.2.1
      rw [hgs, mnI_ok (by omega) (by omega), ← hgs]
      have hh := first_loop hG1 hG2 hS hTm F (nI k) (nI b) (nI (tm 2 * tm 4)) 0 (min m (tm 2 * tm 4)) 0 F F (by omega) (by omega) (by omega)
      rcases hh with ⟨t, ht, s1, s2⟩ | ⟨s1, s2⟩
      · have s1' : Gu_firstTurnOf_l12 F gs gl (nI k) (nI (tm 2 * tm 4)) F (nI (min m (tm 2 * tm 4))) 0 = some (nI t) := s1
        have s2' : Mo_namedOf_l2 F rgs se rl (nI k) (nI b) F 0 = Mo_namedOf_b37 F rgs se rl (nI k) (nI b) (nI t) := s2
        have h3 := paid_bd hTm ht
        rw [s1', s2', cb1_s]
        unfold Gu_size
        rcases Nat.le_one_iff_eq_zero_or_eq_one.mp hb with rfl | rfl
        · rw [if_neg (show ¬ nI 0 = 1 by decide), if_neg (ne_m1 (by omega)), De_nightOf_ok hC hTm (by omega), cb1_s, (b37_0 hS hTm F _ _ _ ht).1, cb1_s]
          exact ⟨_, _, _, _, _, _, _, _, _, _, _, _, _, _, _, _, _, _, _, _, _, _, _, _, _, _, _, _, _, _, _, _, _, _, rfl, rfl, g'⟩
        · rw [if_pos (show nI 1 = 1 from rfl), cb1_s, De_paid_at hC hTm ht, cb1_s, (b37_0 hS hTm F _ _ _ ht).2, cb1_s]
          exact ⟨_, _, _, _, _, _, _, _, _, _, _, _, _, _, _, _, _, _, _, _, _, _, _, _, _, _, _, _, _, _, _, _, _, _, rfl, rfl, g'⟩
      · have s1' : Gu_firstTurnOf_l12 F gs gl (nI k) (nI (tm 2 * tm 4)) F (nI (min m (tm 2 * tm 4))) 0 = some (-1) := s1
        have s2' : Mo_namedOf_l2 F rgs se rl (nI k) (nI b) F 0 = Mo_namedOf_b81 F rgs se rl (nI k) (nI b) (nI (min m (tm 2 * tm 4))) := s2
        rw [s1', s2', cb1_s]
        unfold Gu_size
        rcases Nat.le_one_iff_eq_zero_or_eq_one.mp hb with rfl | rfl
        · rw [if_neg (show ¬ nI 0 = 1 by decide), if_pos rfl, (b81_0 hS hTm F _ _ _).1, cb1_s]
          exact ⟨_, _, _, _, _, _, _, _, _, _, _, _, _, _, _, _, _, _, _, _, _, _, _, _, _, _, _, _, _, _, _, _, _, _, rfl, rfl, g'⟩
        · rw [if_pos (show nI 1 = 1 from rfl), cb1_s, hgs]
          unfold De_paidAt
          rw [if_pos (show (-1 : Int32) < 0 by decide), De_paid_un hC hTm (by omega), cb1_s, (b81_0 hS hTm F _ _ _).2, cb1_s]
          exact ⟨_, _, _, _, _, _, _, _, _, _, _, _, _, _, _, _, _, _, _, _, _, _, _, _, _, _, _, _, _, _, _, _, _, _, rfl, rfl, g'⟩
    · rw [e3, e4, cb1_s, cb1_s, if_pos rfl, if_pos rfl]
      exact ⟨_, _, _, _, _, _, _, _, _, _, _, _, _, _, _, _, _, _, _, _, _, _, _, _, _, _, _, _, _, _, _, _, _, _, rfl, rfl, g'⟩
  · rw [e1, e2, cb1_s, cb1_s, if_pos rfl, if_pos rfl]
    exact ⟨_, _, _, _, _, _, _, _, _, _, _, _, _, _, _, _, _, _, _, _, _, _, _, _, _, _, _, _, _, _, _, _, _, _, rfl, rfl, g'⟩
