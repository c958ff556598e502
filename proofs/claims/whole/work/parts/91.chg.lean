/-! changes and count agree -/
def anyO (T : Nat → Nat) (N S : Nat) : Nat → Nat
  | 0 => 0
  | k + 1 => if S.testBit k = true then anyO T N S k ||| offM T N k else anyO T N S k
theorem anyO_lt (T : Nat → Nat) (N S : Nat) : ∀ k, anyO T N S k < 2 ^ N
  | 0 => Nat.two_pow_pos N
  | k + 1 => by
    have h := anyO_lt T N S k
    rw [anyO]; split
    · exact Nat.or_lt_two_pow h (offM_lt T N k)
    · exact h
theorem Na_any_loop {T : Nat → Nat} {N : Nat} {od ln lt al : Nat → Int32} (hO : NmOK T N od ln lt) (hN : N ≤ 10) (hG : GrOK T N 6 al) {F : Nat} (hF : 100 ≤ F) {S : Nat} (hS : S < 2147483648) : ∀ (m k f : Nat), k + m = N → m < f → Na_oneLetterFromAny_l4 F (nI N) ln lt al (nI S) f (nI (anyO T N S k)) (nI k) = some (nI (anyO T N S N)) := by
  intro m
  induction m with
  | zero =>
    intro k f hk hf
    obtain ⟨f, rfl⟩ : ∃ f', f = f' + 1 := ⟨f - 1, by omega⟩
    show Na_oneLetterFromAny_b4 F (nI N) ln lt al (nI S) _ _ (nI k) = _
    unfold Na_oneLetterFromAny_b4
    rw [if_pos (show nI N ≤ nI k by rw [leN (by omega) (by omega)]; omega), show k = N by omega]
  | succ m ih =>
    intro k f hk hf
    obtain ⟨f, rfl⟩ : ∃ f', f = f' + 1 := ⟨f - 1, by omega⟩
    show Na_oneLetterFromAny_b4 F (nI N) ln lt al (nI S) (Na_oneLetterFromAny_l4 F (nI N) ln lt al (nI S) f) _ (nI k) = _
    unfold Na_oneLetterFromAny_b4 Na_oneLetterFromAny_b28
    rw [if_neg (show ¬ nI N ≤ nI k by rw [leN (by omega) (by omega)]; omega), sh1 k (by omega), show nI k + 1 = nI (k + 1) from nI_1 _, ← ih (k + 1) f (by omega) (by omega), anyO]
    cases hb : S.testBit k with
    | false => rw [if_pos (show nI S &&& nI (2 ^ k) = 0 by rw [bBit (by omega), hb]), if_neg (by decide)]
    | true => rw [if_neg (show ¬ nI S &&& nI (2 ^ k) = 0 by rw [bBit (by omega), hb]; decide), if_pos rfl, Na_oneLetter_ok hO hN hG hF (show k < N by omega), cb1_s, bOr]
theorem Mo_any_loop {T : Nat → Nat} {N : Nat} {od ln lt : Nat → Int32} (hO : NmOK T N od ln lt) (hN : N ≤ 10) {F : Nat} (hF : 100 ≤ F) {S : Nat} (hS : S < 2147483648) (x1 x2 x5 : Int32) (rec10 : Int32 → Int32 → Int32 → Option Int32) : ∀ (m k f : Nat), k + m = N → m < f → Mo_changesOf_l32 F (nI N) ln lt x1 x2 rec10 f (nI (S ||| anyO T N S k)) (nI S) x5 (nI k) = rec10 (nI (S ||| anyO T N S N)) (nI S) (x5 + 1) := by
  intro m
  induction m with
  | zero =>
    intro k f hk hf
    obtain ⟨f, rfl⟩ : ∃ f', f = f' + 1 := ⟨f - 1, by omega⟩
    show Mo_changesOf_b32 F (nI N) ln lt x1 x2 rec10 _ _ _ x5 (nI k) = _
    unfold Mo_changesOf_b32 Mo_changesOf_b70
    rw [if_pos (show nI N ≤ nI k by rw [leN (by omega) (by omega)]; omega), show k = N by omega]
  | succ m ih =>
    intro k f hk hf
    obtain ⟨f, rfl⟩ : ∃ f', f = f' + 1 := ⟨f - 1, by omega⟩
    show Mo_changesOf_b32 F (nI N) ln lt x1 x2 rec10 (Mo_changesOf_l32 F (nI N) ln lt x1 x2 rec10 f) _ _ x5 (nI k) = _
    unfold Mo_changesOf_b32 Mo_changesOf_b62
    rw [if_neg (show ¬ nI N ≤ nI k by rw [leN (by omega) (by omega)]; omega), Mo_isIn_ok hS (by omega), cb1_s, show nI k + 1 = nI (k + 1) from nI_1 _, ← ih (k + 1) f (by omega) (by omega), anyO]
    cases hb : S.testBit k with
    | false => rw [if_neg (show ¬ (false = true) by decide), if_pos rfl, if_neg (show ¬ (false = true) by decide), n0, bOr, Nat.or_zero]
    | true => rw [if_pos rfl, if_neg (show ¬ (1 : Int32) = 0 by decide), if_pos rfl, Mo_offOf_ok hO hN hF (show k < N by omega), cb1_s, bOr, Nat.or_assoc]
theorem cnt_mono {a b : Nat} : ∀ {n : Nat}, (∀ i, i < n → a.testBit i = true → b.testBit i = true) → cnt a n ≤ cnt b n
  | 0, _ => Nat.le_refl _
  | n + 1, h => by
    have h1 := cnt_mono (a := a) (b := b) (n := n) (fun i hi => h i (by omega))
    unfold cnt at *
    rw [wt, wt]
    have h2 := h n (by omega)
    cases ha : a.testBit n with
    | false => rw [if_neg (by decide)]; split <;> omega
    | true => rw [if_pos rfl, if_pos (h2 ha)]; omega
theorem cnt_grow {a b j : Nat} : ∀ {n : Nat}, (∀ i, i < n → a.testBit i = true → b.testBit i = true) → j < n → a.testBit j = false → b.testBit j = true → cnt a n < cnt b n
  | 0, _, h, _, _ => absurd h (Nat.not_lt_zero _)
  | n + 1, h, hj, ha, hb => by
    have h2 := h n (by omega)
    by_cases e : j = n
    · subst e
      have h1 := cnt_mono (a := a) (b := b) (n := j) (fun i hi => h i (by omega))
      unfold cnt at *
      rw [wt, wt, ha, hb, if_neg (by decide), if_pos rfl]; omega
    · have h1 := cnt_grow (a := a) (b := b) (j := j) (n := n) (fun i hi => h i (by omega)) (by omega) ha hb
      unfold cnt at *
      rw [wt, wt]
      cases ha : a.testBit n with
      | false => rw [if_neg (by decide)]; split <;> omega
      | true => rw [if_pos rfl, if_pos (h2 ha)]; omega
theorem cnt_sup {a b N : Nat} (ha : a < 2 ^ N) (hb : b < 2 ^ N) (h : a ||| b ≠ a) : cnt a N < cnt (a ||| b) N := by
  have hex : ∃ j, j < N ∧ a.testBit j = false ∧ (a ||| b).testBit j = true := by
    apply Classical.byContradiction
    intro hc
    refine h (m_ext (n := N) (Nat.or_lt_two_pow ha hb) ha (fun i hi => ?_))
    cases h1 : a.testBit i with
    | true => rw [Nat.testBit_or, h1]; rfl
    | false =>
      cases h2 : (a ||| b).testBit i with
      | false => rfl
      | true => exact absurd ⟨i, hi, h1, h2⟩ hc
  obtain ⟨j, hj, h1, h2⟩ := hex
  exact cnt_grow (fun i _ h => by rw [Nat.testBit_or, h]; rfl) hj h1 h2
theorem chg_stuck {T : Nat → Nat} {N : Nat} {od ln lt al : Nat → Int32} (hO : NmOK T N od ln lt) (hN : N ≤ 10) (hG : GrOK T N 6 al) {F : Nat} (hF : 100 ≤ F) {S b : Nat} (hS : S < 2 ^ N) (hb : b < N) (hnb : S.testBit b = false) (hst : S ||| anyO T N S N = S) (t0s : Int32) (t0b : (Nat → Int32)) (t1s : Int32) (t1b : (Nat → Int32)) (t2s : Int32) (t2b : (Nat → Int32)) (x1 st nf : Int32) (nto : Nat → Int32) (pz : Int32) (pf : Int32) (pis : (Nat → Int32)) (pln : (Nat → Int32)) (plt : (Nat → Int32)) (sz : Int32) (sf : Int32) (slt : (Nat → Int32)) (fpc : Int32) (fsf : Int32) (faf : Int32) (ford : Int32) (fpf : (Nat → Int32)) (fio : (Nat → Int32)) : ∀ (d j f : Nat), j + d = 10 → d < f →
    ND_changes_l36 F t0s t0b t1s t1b t2s t2b x1 (nI b) f (nI S) (nI j) st (nI N) nf od ln lt al nto pz pf pis pln plt sz sf slt fpc fsf faf ford fpf fio = some (-1, st, nI N, nf, od, ln, lt, al, nto, pz, pf, pis, pln, plt, sz, sf, slt, fpc, fsf, faf, ford, fpf, fio) := by
  have h10 := p2_10 hN
  intro d
  induction d with
  | zero =>
    intro j f hj hf
    obtain ⟨f, rfl⟩ : ∃ f', f = f' + 1 := ⟨f - 1, by omega⟩
    show ND_changes_b36 F t0s t0b t1s t1b t2s t2b x1 (nI b) _ (nI S) (nI j) st (nI N) nf od ln lt al nto pz pf pis pln plt sz sf slt fpc fsf faf ford fpf fio = _
    unfold ND_changes_b36
    rw [n10, if_pos (show nI 10 ≤ nI j by rw [leN (by omega) (by omega)]; omega)]
  | succ d ih =>
    intro j f hj hf
    obtain ⟨f, rfl⟩ : ∃ f', f = f' + 1 := ⟨f - 1, by omega⟩
    show ND_changes_b36 F t0s t0b t1s t1b t2s t2b x1 (nI b) (ND_changes_l36 F t0s t0b t1s t1b t2s t2b x1 (nI b) f) (nI S) (nI j) st (nI N) nf od ln lt al nto pz pf pis pln plt sz sf slt fpc fsf faf ford fpf fio = _
    unfold ND_changes_b36 Na_oneLetterFromAny
    rw [n10, if_neg (show ¬ nI 10 ≤ nI j by rw [leN (by omega) (by omega)]; omega), sh1 b (by omega), if_pos (show nI S &&& nI (2 ^ b) = 0 by rw [bBit (by omega), hnb]), show Na_oneLetterFromAny_l4 F (nI N) ln lt al (nI S) F 0 0 = _ from Na_any_loop hO hN hG hF (show S < 2147483648 by omega) N 0 F (by omega) (by omega), cb1_s, bOr, hst, show nI j + 1 = nI (j + 1) from nI_1 _]
    exact ih (j + 1) f (by omega) (by omega)
theorem chg_loop {T : Nat → Nat} {N : Nat} {od ln lt al od2 ln2 lt2 : Nat → Int32} (hO : NmOK T N od ln lt) (hO2 : NmOK T N od2 ln2 lt2) (hN : N ≤ 10) (hG : GrOK T N 6 al) {F : Nat} (hF : 100 ≤ F) {b : Nat} (hb : b < N) (t0s : Int32) (t0b : (Nat → Int32)) (t1s : Int32) (t1b : (Nat → Int32)) (t2s : Int32) (t2b : (Nat → Int32)) (x1 y1 st nf : Int32) (nto : Nat → Int32) (pz : Int32) (pf : Int32) (pis : (Nat → Int32)) (pln : (Nat → Int32)) (plt : (Nat → Int32)) (sz : Int32) (sf : Int32) (slt : (Nat → Int32)) (fpc : Int32) (fsf : Int32) (faf : Int32) (ford : Int32) (fpf : (Nat → Int32)) (fio : (Nat → Int32)) : ∀ (d j f f2 S S' : Nat), j + d = 10 → d < f → d + 1 < f2 → S < 2 ^ N → S' < 2 ^ N → S ≠ S' → j + 1 ≤ cnt S N →
    ∃ r, ND_changes_l36 F t0s t0b t1s t1b t2s t2b x1 (nI b) f (nI S) (nI j) st (nI N) nf od ln lt al nto pz pf pis pln plt sz sf slt fpc fsf faf ford fpf fio = some (r, st, nI N, nf, od, ln, lt, al, nto, pz, pf, pis, pln, plt, sz, sf, slt, fpc, fsf, faf, ford, fpf, fio) ∧ Mo_changesOf_l10 F (nI N) ln2 lt2 y1 (nI b) f2 (nI S) (nI S') (nI j) = some r := by
  have h10 := p2_10 hN
  intro d
  induction d with
  | zero =>
    intro j f f2 S S' hj hf hf2 hS hS' hne hc
    have := cnt_le S N
    exact absurd hc (by omega)
  | succ d ih =>
    intro j f f2 S S' hj hf hf2 hS hS' hne hc
    obtain ⟨f, rfl⟩ : ∃ f', f = f' + 1 := ⟨f - 1, by omega⟩
    obtain ⟨f2, rfl⟩ : ∃ f', f2 = f' + 1 := ⟨f2 - 1, by omega⟩
    show ∃ r, ND_changes_b36 F t0s t0b t1s t1b t2s t2b x1 (nI b) (ND_changes_l36 F t0s t0b t1s t1b t2s t2b x1 (nI b) f) (nI S) (nI j) st (nI N) nf od ln lt al nto pz pf pis pln plt sz sf slt fpc fsf faf ford fpf fio = _ ∧ Mo_changesOf_b10 F (nI N) ln2 lt2 y1 (nI b) (Mo_changesOf_l10 F (nI N) ln2 lt2 y1 (nI b) f2) (nI S) (nI S') (nI j) = _
    have c1 := ih (j + 1) f f2 (S ||| anyO T N S N) S (by omega) (by omega) (by omega) (Nat.or_lt_two_pow hS (anyO_lt T N S N)) hS
    have c2 := chg_stuck hO hN hG hF (S := S) (b := b) hS hb
    unfold ND_changes_b36 Na_oneLetterFromAny Mo_changesOf_b10
    rw [n10, if_neg (show ¬ nI 10 ≤ nI j by rw [leN (by omega) (by omega)]; omega), sh1 b (by omega), Mo_isIn_ok (by omega) (by omega), cb1_s]
    cases hbit : S.testBit b with
    | true =>
      rw [if_neg (show ¬ nI S &&& nI (2 ^ b) = 0 by rw [bBit (by omega), hbit]; decide), if_pos rfl, if_neg (show ¬ (1 : Int32) = 0 by decide)]
      exact ⟨_, rfl, rfl⟩
    | false =>
      rw [if_pos (show nI S &&& nI (2 ^ b) = 0 by rw [bBit (by omega), hbit]), if_neg (show ¬ (false = true) by decide), if_pos rfl, iteE (by omega) (by omega), if_neg hne]
      rw [show Na_oneLetterFromAny_l4 F (nI N) ln lt al (nI S) F 0 0 = _ from Na_any_loop hO hN hG hF (show S < 2147483648 by omega) N 0 F (by omega) (by omega), cb1_s, bOr, show nI j + 1 = nI (j + 1) from nI_1 _]
      have hm := Mo_any_loop hO2 hN hF (show S < 2147483648 by omega) y1 (nI b) (nI j) (Mo_changesOf_l10 F (nI N) ln2 lt2 y1 (nI b) f2) N 0 F (by omega) (by omega)
      rw [show S ||| anyO T N S 0 = S from Nat.or_zero S] at hm
      rw [show Mo_changesOf_l32 F (nI N) ln2 lt2 y1 (nI b) (Mo_changesOf_l10 F (nI N) ln2 lt2 y1 (nI b) f2) F (nI S) (nI S) (nI j) 0 = _ from hm, show nI j + 1 = nI (j + 1) from nI_1 _]
      by_cases hst : S ||| anyO T N S N = S
      · rw [hst, c2 hbit hst t0s t0b t1s t1b t2s t2b x1 st nf nto pz pf pis pln plt sz sf slt fpc fsf faf ford fpf fio d (j + 1) f (by omega) (by omega)]
        obtain ⟨f2, rfl⟩ : ∃ f', f2 = f' + 1 := ⟨f2 - 1, by omega⟩
        refine ⟨_, rfl, ?_⟩
        show Mo_changesOf_b10 F (nI N) ln2 lt2 y1 (nI b) _ (nI S) (nI S) _ = _
        unfold Mo_changesOf_b10
        rw [Mo_isIn_ok (by omega) (by omega), cb1_s, hbit, if_neg (show ¬ (false = true) by decide), if_pos rfl, if_pos rfl]
      · have hg := cnt_sup hS (anyO_lt T N S N) hst
        exact c1 hst (by omega)
theorem changes_v {T : Nat → Nat → Nat} {n : Nat → Nat} {t0s : Int32} {t0b : (Nat → Int32)} {t1s : Int32} {t1b : (Nat → Int32)} {t2s : Int32} {t2b : (Nat → Int32)} {st : Int32} {nz : Int32} {nf : Int32} {nod : (Nat → Int32)} {nln : (Nat → Int32)} {nlt : (Nat → Int32)} {nal : (Nat → Int32)} {nto : (Nat → Int32)} {pz : Int32} {pf : Int32} {pis : (Nat → Int32)} {pln : (Nat → Int32)} {plt : (Nat → Int32)} {sz : Int32} {sf : Int32} {slt : (Nat → Int32)} {fpc : Int32} {fsf : Int32} {faf : Int32} {ford : Int32} {fpf : (Nat → Int32)} {fio : (Nat → Int32)} (hT : TxC T n t0s t0b t1s t1b t2s t2b) (hD : DrC T n st nz nf nod nln nlt nal nto pz pf pis pln plt sz sf slt fpc fsf faf ford fpf fio) {F : Nat} (hF : 2000 ≤ F) {a b : Nat} (ha : a < nN T n) (hb : b < nN T n) : ∃ r nz' nf' nod' nln' nlt' nal' nto' pz' pf' pis' pln' plt' sz' sf' slt' fpc' fsf' faf' ford' fpf' fio', ND_changes F t0s t0b t1s t1b t2s t2b st nz nf nod nln nlt nal nto pz pf pis pln plt sz sf slt fpc fsf faf ford fpf fio (nI a) (nI b) = some (r, 0, nz', nf', nod', nln', nlt', nal', nto', pz', pf', pis', pln', plt', sz', sf', slt', fpc', fsf', faf', ford', fpf', fio') ∧ DrC T n 0 nz' nf' nod' nln' nlt' nal' nto' pz' pf' pis' pln' plt' sz' sf' slt' fpc' fsf' faf' ford' fpf' fio' ∧ (∀ (rn : Int32) (rp : Int32) (rs : Int32) (rch : (Nat → Int32)) (rlo : (Nat → Int32)) (rle : (Nat → Int32)) (ris : (Nat → Int32)) (rpl : (Nat → Int32)) (rpt : (Nat → Int32)) (rso : (Nat → Int32)), RdOK T n rn rp rs rch rlo rle ris rpl rpt rso → Mo_changesOf F rn rlo rle (nI a) (nI b) = some r) := by
  obtain ⟨nz', nf', nod', nln', nlt', nal', nto', pz', pf', pis', pln', plt', sz', sf', slt', fpc', fsf', faf', ford', fpf', fio', e, g⟩ := ND_refresh_ok hT hD hF
  have g' := DrC_0 g
  have hO : NmOK (T 0) (nN T n) nod' nln' nlt' := g.1.2.2.1
  have hz : nz' = nI (nN T n) := g.1.1
  have hG : GrOK (T 0) (nN T n) 6 nal' := g.1.2.2.2.1
  have hN10 : nN T n ≤ 10 := pN_le
  have e1 : ∀ k, k < nN T n → Na_has (nI (nN T n)) (nI k) = some 1 := fun k hk => by
    unfold Na_has
    rw [if_neg (nI_pos (by omega)), if_neg (show ¬ nI (nN T n) ≤ nI k by rw [leN (by omega) (by omega)]; omega)]
  have hS : 2 ^ a < 2 ^ (nN T n) := p2_lt ha
  have hc : 1 ≤ cnt (2 ^ a) (nN T n) := cnt_pos ha (by rw [Nat.testBit_two_pow]; simp)
  unfold ND_changes
  rw [e, cb22_s, hz]
  rw [hz] at g'
  rw [e1 a ha, cb1_s, if_neg (show ¬ (1 : Int32) = 0 by decide), e1 b hb, cb1_s, if_neg (show ¬ (1 : Int32) = 0 by decide), sh1 a (by omega)]
  have h0 : 2 ^ a ≠ 0 := by have := Nat.two_pow_pos a; omega
  obtain ⟨r, w1, _⟩ := chg_loop hO hO hN10 hG (show 100 ≤ F by omega) hb t0s t0b t1s t1b t2s t2b (nI a) (nI a) 0 nf' nto' pz' pf' pis' pln' plt' sz' sf' slt' fpc' fsf' faf' ford' fpf' fio' 10 0 F F (2 ^ a) 0 (by omega) (by omega) (by omega) hS (Nat.two_pow_pos _) h0 (by omega)
  refine ⟨r, _, _, _, _, _, _, _, _, _, _, _, _, _, _, _, _, _, _, _, _, _, w1, g', ?_⟩
  intro rn rp rs rch rlo rle ris rpl rpt rso hR
  obtain ⟨q1, q2, q3, q4, _⟩ := hR
  obtain ⟨r', w1', w2'⟩ := chg_loop hO q4 hN10 hG (show 100 ≤ F by omega) hb t0s t0b t1s t1b t2s t2b (nI a) (nI a) 0 nf' nto' pz' pf' pis' pln' plt' sz' sf' slt' fpc' fsf' faf' ford' fpf' fio' 10 0 F F (2 ^ a) 0 (by omega) (by omega) (by omega) hS (Nat.two_pow_pos _) h0 (by omega)
  have er : r' = r := by
    have := Option.some.inj (w1'.symm.trans w1)
    exact congrArg Prod.fst this
  unfold Mo_changesOf
  rw [q1, sh1 a (by omega), ← er]
  exact w2'
theorem changes_ok {T : Nat → Nat → Nat} {n : Nat → Nat} {t0s : Int32} {t0b : (Nat → Int32)} {t1s : Int32} {t1b : (Nat → Int32)} {t2s : Int32} {t2b : (Nat → Int32)} {st : Int32} {nz : Int32} {nf : Int32} {nod : (Nat → Int32)} {nln : (Nat → Int32)} {nlt : (Nat → Int32)} {nal : (Nat → Int32)} {nto : (Nat → Int32)} {pz : Int32} {pf : Int32} {pis : (Nat → Int32)} {pln : (Nat → Int32)} {plt : (Nat → Int32)} {sz : Int32} {sf : Int32} {slt : (Nat → Int32)} {fpc : Int32} {fsf : Int32} {faf : Int32} {ford : Int32} {fpf : (Nat → Int32)} {fio : (Nat → Int32)} (hT : TxC T n t0s t0b t1s t1b t2s t2b) (hD : DrC T n st nz nf nod nln nlt nal nto pz pf pis pln plt sz sf slt fpc fsf faf ford fpf fio) {F : Nat} (hF : 2000 ≤ F) {bytes typed : Nat → Int32} (hM : TxR T n bytes typed) (ra : Int32) (rn : Int32) (rp : Int32) (rs : Int32) (rch : (Nat → Int32)) (rlo : (Nat → Int32)) (rle : (Nat → Int32)) (ris : (Nat → Int32)) (rpl : (Nat → Int32)) (rpt : (Nat → Int32)) (rso : (Nat → Int32)) (x1 x2 : Int32) : ∃ r st' nz' nf' nod' nln' nlt' nal' nto' pz' pf' pis' pln' plt' sz' sf' slt' fpc' fsf' faf' ford' fpf' fio' ra' rn' rp' rs' rch' rlo' rle' ris' rpl' rpt' rso', ND_changes F t0s t0b t1s t1b t2s t2b st nz nf nod nln nlt nal nto pz pf pis pln plt sz sf slt fpc fsf faf ford fpf fio x1 x2 = some (r, st', nz', nf', nod', nln', nlt', nal', nto', pz', pf', pis', pln', plt', sz', sf', slt', fpc', fsf', faf', ford', fpf', fio') ∧ Mo_changes F bytes typed ra rn rp rs rch rlo rle ris rpl rpt rso x1 x2 = some (r, ra', rn', rp', rs', rch', rlo', rle', ris', rpl', rpt', rso') ∧ DrC T n st' nz' nf' nod' nln' nlt' nal' nto' pz' pf' pis' pln' plt' sz' sf' slt' fpc' fsf' faf' ford' fpf' fio' := by
  obtain ⟨nz', nf', nod', nln', nlt', nal', nto', pz', pf', pis', pln', plt', sz', sf', slt', fpc', fsf', faf', ford', fpf', fio', e, g⟩ := ND_refresh_ok hT hD hF
  have g' := DrC_0 g
  obtain ⟨ra', rn', rp', rs', rch', rlo', rle', ris', rpl', rpt', rso', f, hR⟩ := Mo_reads_ok hT hM hF ra rn rp rs rch rlo rle ris rpl rpt rso
  have hN10 : nN T n ≤ 10 := pN_le
  have hz : nz' = nI (nN T n) := g.1.1
  have q1 := hR.1
  unfold Mo_changes
  rw [f, cb11_s, q1]
  rcases isName_cases (nN T n) hN10 x1 with ⟨a, ha, rfl, e1, e2⟩ | ⟨e1, e2⟩
  · rcases isName_cases (nN T n) hN10 x2 with ⟨b, hb, rfl, e3, e4⟩ | ⟨e3, e4⟩
    · obtain ⟨r, nz', nf', nod', nln', nlt', nal', nto', pz', pf', pis', pln', plt', sz', sf', slt', fpc', fsf', faf', ford', fpf', fio', v, g, w⟩ := changes_v hT hD hF ha hb
      have w' := w _ _ _ _ _ _ _ _ _ _ hR
      rw [q1] at w'
      rw [v, e2, cb1_s, if_neg (show ¬ (1 : Int32) = 0 by decide), e4, cb1_s, if_neg (show ¬ (1 : Int32) = 0 by decide), w', cb1_s]
      exact ⟨_, _, _, _, _, _, _, _, _, _, _, _, _, _, _, _, _, _, _, _, _, _, _, _, _, _, _, _, _, _, _, _, _, _, rfl, rfl, g⟩
    · unfold ND_changes
      rw [e, cb22_s, hz]
      rw [hz] at g'
      rw [e1, e2, cb1_s, cb1_s, if_neg (show ¬ (1 : Int32) = 0 by decide), if_neg (show ¬ (1 : Int32) = 0 by decide), e3, e4, cb1_s, cb1_s, if_pos rfl, if_pos rfl]
      exact ⟨_, _, _, _, _, _, _, _, _, _, _, _, _, _, _, _, _, _, _, _, _, _, _, _, _, _, _, _, _, _, _, _, _, _, rfl, rfl, g'⟩
  · unfold ND_changes
    rw [e, cb22_s, hz]
    rw [hz] at g'
    rw [e1, e2, cb1_s, cb1_s, if_pos rfl, if_pos rfl]
    exact ⟨_, _, _, _, _, _, _, _, _, _, _, _, _, _, _, _, _, _, _, _, _, _, _, _, _, _, _, _, _, _, _, _, _, _, rfl, rfl, g'⟩
theorem count_ok {T : Nat → Nat → Nat} {n : Nat → Nat} {t0s : Int32} {t0b : (Nat → Int32)} {t1s : Int32} {t1b : (Nat → Int32)} {t2s : Int32} {t2b : (Nat → Int32)} {st : Int32} {nz : Int32} {nf : Int32} {nod : (Nat → Int32)} {nln : (Nat → Int32)} {nlt : (Nat → Int32)} {nal : (Nat → Int32)} {nto : (Nat → Int32)} {pz : Int32} {pf : Int32} {pis : (Nat → Int32)} {pln : (Nat → Int32)} {plt : (Nat → Int32)} {sz : Int32} {sf : Int32} {slt : (Nat → Int32)} {fpc : Int32} {fsf : Int32} {faf : Int32} {ford : Int32} {fpf : (Nat → Int32)} {fio : (Nat → Int32)} (hT : TxC T n t0s t0b t1s t1b t2s t2b) (hD : DrC T n st nz nf nod nln nlt nal nto pz pf pis pln plt sz sf slt fpc fsf faf ford fpf fio) {F : Nat} (hF : 2000 ≤ F) {bytes typed : Nat → Int32} (hM : TxR T n bytes typed) (ra : Int32) (rn : Int32) (rp : Int32) (rs : Int32) (rch : (Nat → Int32)) (rlo : (Nat → Int32)) (rle : (Nat → Int32)) (ris : (Nat → Int32)) (rpl : (Nat → Int32)) (rpt : (Nat → Int32)) (rso : (Nat → Int32)) (fd : Int32) {gs rgs : Int32} (hgs : gs = rgs) (x1 : Int32) : ∃ r st' nz' nf' nod' nln' nlt' nal' nto' pz' pf' pis' pln' plt' sz' sf' slt' fpc' fsf' faf' ford' fpf' fio' ra' rn' rp' rs' rch' rlo' rle' ris' rpl' rpt' rso', ND_count F fd t0s t0b t1s t1b t2s t2b gs st nz nf nod nln nlt nal nto pz pf pis pln plt sz sf slt fpc fsf faf ford fpf fio x1 = some (r, st', nz', nf', nod', nln', nlt', nal', nto', pz', pf', pis', pln', plt', sz', sf', slt', fpc', fsf', faf', ford', fpf', fio') ∧ Mo_count F fd rgs bytes typed ra rn rp rs rch rlo rle ris rpl rpt rso x1 = some (r, ra', rn', rp', rs', rch', rlo', rle', ris', rpl', rpt', rso') ∧ DrC T n st' nz' nf' nod' nln' nlt' nal' nto' pz' pf' pis' pln' plt' sz' sf' slt' fpc' fsf' faf' ford' fpf' fio' := by
  obtain ⟨nz', nf', nod', nln', nlt', nal', nto', pz', pf', pis', pln', plt', sz', sf', slt', fpc', fsf', faf', ford', fpf', fio', e, g⟩ := ND_refresh_ok hT hD hF
  have g' := DrC_0 g
  obtain ⟨ra', rn', rp', rs', rch', rlo', rle', ris', rpl', rpt', rso', f, hR⟩ := Mo_reads_ok hT hM hF ra rn rp rs rch rlo rle ris rpl rpt rso
  have q1 := hR.1
  have q2 := hR.2.1
  have q3 := hR.2.2.1
  have z1 := g.1.1
  have z2 := g.2.1.1
  have z3 := g.2.2.1.1
  have z8 : faf' = nI (FM T n 63) := g.2.2.2.2.2.1
  subst hgs
  unfold Mo_count
  rw [f, cb11_s]
  rcases in_cases x1 0 8 (by omega) (by omega) with ⟨k, _, hk, rfl, _⟩ | ⟨h1, _⟩
  · unfold ND_count ND_count_b36
    rcases (show k = 0 ∨ k = 1 ∨ k = 2 ∨ k = 3 ∨ k = 4 ∨ k = 5 ∨ k = 6 ∨ k = 7 ∨ k = 8 by omega) with rfl | rfl | rfl | rfl | rfl | rfl | rfl | rfl | rfl
    · rw [e, cb22_s]
      repeat (first | rw [if_neg (by decide)] | rw [if_pos (by decide)])
      rw [show nz' = nI (nN T n) from z1] at g' ⊢
      rw [q1]
      exact ⟨_, _, _, _, _, _, _, _, _, _, _, _, _, _, _, _, _, _, _, _, _, _, _, _, _, _, _, _, _, _, _, _, _, _, rfl, rfl, g'⟩
    · rw [e, cb22_s]
      repeat (first | rw [if_neg (by decide)] | rw [if_pos (by decide)])
      rw [z2] at g' ⊢
      rw [q2]
      exact ⟨_, _, _, _, _, _, _, _, _, _, _, _, _, _, _, _, _, _, _, _, _, _, _, _, _, _, _, _, _, _, _, _, _, _, rfl, rfl, g'⟩
    · rw [e, cb22_s]
      repeat (first | rw [if_neg (by decide)] | rw [if_pos (by decide)])
      rw [z3] at g' ⊢
      rw [q3]
      exact ⟨_, _, _, _, _, _, _, _, _, _, _, _, _, _, _, _, _, _, _, _, _, _, _, _, _, _, _, _, _, _, _, _, _, _, rfl, rfl, g'⟩
    · repeat (first | rw [if_neg (by decide)] | rw [if_pos (by decide)])
      refine ⟨_, st, nz, nf, nod, nln, nlt, nal, nto, pz, pf, pis, pln, plt, sz, sf, slt, fpc, fsf, faf, ford, fpf, fio, ra', rn', rp', rs', rch', rlo', rle', ris', rpl', rpt', rso', rfl, ?_, hD⟩
      rw [show (nI 3 - 3) = nI 0 from by decide, rdN (by omega) (by omega), (hM 0 (by omega)).1, hT.1]
    · repeat (first | rw [if_neg (by decide)] | rw [if_pos (by decide)])
      refine ⟨_, st, nz, nf, nod, nln, nlt, nal, nto, pz, pf, pis, pln, plt, sz, sf, slt, fpc, fsf, faf, ford, fpf, fio, ra', rn', rp', rs', rch', rlo', rle', ris', rpl', rpt', rso', rfl, ?_, hD⟩
      rw [show (nI 4 - 3) = nI 1 from by decide, rdN (by omega) (by omega), (hM 1 (by omega)).1, hT.2.2.1]
    · repeat (first | rw [if_neg (by decide)] | rw [if_pos (by decide)])
      refine ⟨_, st, nz, nf, nod, nln, nlt, nal, nto, pz, pf, pis, pln, plt, sz, sf, slt, fpc, fsf, faf, ford, fpf, fio, ra', rn', rp', rs', rch', rlo', rle', ris', rpl', rpt', rso', rfl, ?_, hD⟩
      rw [show (nI 5 - 3) = nI 2 from by decide, rdN (by omega) (by omega), (hM 2 (by omega)).1, hT.2.2.2.2.1]
    · rw [e, cb22_s]
      repeat (first | rw [if_neg (by decide)] | rw [if_pos (by decide)])
      exact ⟨_, _, _, _, _, _, _, _, _, _, _, _, _, _, _, _, _, _, _, _, _, _, _, _, _, _, _, _, _, _, _, _, _, _, rfl, rfl, g'⟩
    · rw [e, cb22_s]
      repeat (first | rw [if_neg (by decide)] | rw [if_pos (by decide)])
      obtain ⟨_, _, _, q4, q5, q6⟩ := hR
      unfold Fi_byAll
      rw [q1, q2, q3, Mo_fitsNow_ok q4 pN_le q5 pP_le q6 (pS_le (n2_le hT)) (show 100 ≤ F by omega), show fm (T 0) (T 1) (T 2) (nN T n) (nP T n) (nS T n) 63 = FM T n 63 from rfl, z8, cb1_s, Jint_bitCount_ok _ FM_10, cb1_s, cb1_s, Mo_ones_ok (show 100 ≤ F by omega) FM_10, cb1_s]
      rw [z8] at g'
      exact ⟨_, _, _, _, _, _, _, _, _, _, _, _, _, _, _, _, _, _, _, _, _, _, _, _, _, _, _, _, _, _, _, _, _, _, rfl, rfl, g'⟩
    · rw [e, cb22_s]
      repeat (first | rw [if_neg (by decide)] | rw [if_pos (by decide)])
      exact ⟨_, _, _, _, _, _, _, _, _, _, _, _, _, _, _, _, _, _, _, _, _, _, _, _, _, _, _, _, _, _, _, _, _, _, rfl, rfl, g'⟩
  · refine ⟨-2, st, nz, nf, nod, nln, nlt, nal, nto, pz, pf, pis, pln, plt, sz, sf, slt, fpc, fsf, faf, ford, fpf, fio, ra', rn', rp', rs', rch', rlo', rle', ris', rpl', rpt', rso', ?_, ?_, hD⟩
    · unfold ND_count
      by_cases h : x1 < 0
      · rw [if_pos h]
      · have h4 : ¬ x1 ≤ 8 := Int32.not_le.mpr (h1.resolve_left h)
        rw [if_neg h, if_neg h4]
    · have hne : ∀ k, k ≤ 8 → ¬ x1 = nI k := fun k hk hq => by
        subst hq
        rw [ltN (by omega) (by omega), ltN (by omega) (by omega)] at h1
        omega
      rw [if_neg (show ¬ x1 = 0 from hne 0 (by omega)), if_neg (show ¬ x1 = 1 from hne 1 (by omega)), if_neg (show ¬ x1 = 2 from hne 2 (by omega)), if_neg (show ¬ x1 = 3 from hne 3 (by omega)), if_neg (show ¬ x1 = 4 from hne 4 (by omega)), if_neg (show ¬ x1 = 5 from hne 5 (by omega)), if_neg (show ¬ x1 = 6 from hne 6 (by omega)), if_neg (show ¬ x1 = 7 from hne 7 (by omega)), if_neg (show ¬ x1 = 8 from hne 8 (by omega))]
