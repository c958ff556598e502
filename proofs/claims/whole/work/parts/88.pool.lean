/-! pool, sung and shortest agree -/
theorem n2_le {T : Nat → Nat → Nat} {n : Nat → Nat} {t0s : Int32} {t0b : (Nat → Int32)} {t1s : Int32} {t1b : (Nat → Int32)} {t2s : Int32} {t2b : (Nat → Int32)} (hT : TxC T n t0s t0b t1s t1b t2s t2b) : n 2 ≤ 6 := hT.2.2.2.2.2.1
theorem pbits_cases (x : Int32) : (∃ b, b ≤ 63 ∧ x = nI b ∧ ND_isPieceBits x = some 1 ∧ Mo_in (Int32.toInt64 x) 0 63 = some 1) ∨ (ND_isPieceBits x = some 0 ∧ Mo_in (Int32.toInt64 x) 0 63 = some 0) := by
  unfold ND_isPieceBits
  rcases in_cases x 0 63 (by omega) (by omega) with ⟨k, _, hk, rfl, e⟩ | ⟨h1, e⟩
  · exact Or.inl ⟨k, hk, rfl, by rw [if_neg (nI_pos (by omega)), if_neg (show ¬ (63 : Int32) < nI k by rw [show (63 : Int32) = nI 63 from rfl, ltN (by omega) (by omega)]; omega)], e⟩
  · refine Or.inr ⟨?_, e⟩
    by_cases h : x < 0
    · rw [if_pos h]
    · rw [if_neg h, if_pos (show (63 : Int32) < x from h1.resolve_left h)]
theorem nbits_cases (x : Int32) : (∃ b, b ≤ 1023 ∧ x = nI b ∧ ND_isNameBits x = some 1 ∧ Mo_in (Int32.toInt64 x) 0 1023 = some 1) ∨ (ND_isNameBits x = some 0 ∧ Mo_in (Int32.toInt64 x) 0 1023 = some 0) := by
  unfold ND_isNameBits
  rcases in_cases x 0 1023 (by omega) (by omega) with ⟨k, _, hk, rfl, e⟩ | ⟨h1, e⟩
  · exact Or.inl ⟨k, hk, rfl, by rw [if_neg (nI_pos (by omega)), if_neg (show ¬ (1023 : Int32) < nI k by rw [show (1023 : Int32) = nI 1023 from rfl, ltN (by omega) (by omega)]; omega)], e⟩
  · refine Or.inr ⟨?_, e⟩
    by_cases h : x < 0
    · rw [if_pos h]
    · rw [if_neg h, if_pos (show (1023 : Int32) < x from h1.resolve_left h)]
def poolB (b1 b2 c : Nat) : Nat := if c = 0 then b1 else if c = 1 then b2 else b1 ||| b2
theorem poolB_lt {b1 b2 c : Nat} (h1 : b1 ≤ 63) (h2 : b2 ≤ 63) : poolB b1 b2 c < 64 := by
  unfold poolB
  have := Nat.or_lt_two_pow (n := 6) (x := b1) (y := b2) (by omega) (by omega)
  split
  · omega
  · split <;> omega
theorem FM_10 {T : Nat → Nat → Nat} {n : Nat → Nat} {B : Nat} : FM T n B < 1024 := by
  have h := fm_lt (T 0) (T 1) (T 2) (nN T n) (nP T n) (nS T n) B
  have := p2_10 (pN_le : nN T n ≤ 10)
  exact Nat.lt_of_lt_of_le h this
theorem Mo_poolOf_v {T : Nat → Nat → Nat} {n : Nat → Nat} (hn2 : n 2 ≤ 6) {rn : Int32} {rp : Int32} {rs : Int32} {rch : (Nat → Int32)} {rlo : (Nat → Int32)} {rle : (Nat → Int32)} {ris : (Nat → Int32)} {rpl : (Nat → Int32)} {rpt : (Nat → Int32)} {rso : (Nat → Int32)} (hR : RdOK T n rn rp rs rch rlo rle ris rpl rpt rso) {F : Nat} (hF : 2000 ≤ F) {b1 b2 c : Nat} (h1 : b1 ≤ 63) (h2 : b2 ≤ 63) (hc : c ≤ 2) : Mo_poolOf F rn rp rs rlo rle ris rpl rpt rso (nI b1) (nI b2) (nI c) = some (nI (pop (FM T n (poolB b1 b2 c)))) := by
  obtain ⟨q1, q2, q3, q4, q5, q6⟩ := hR
  have hB := poolB_lt (c := c) h1 h2
  have key : ∀ B, B < 64 → Mo_poolOf_b21 F rn rp rs rlo rle ris rpl rpt rso (nI b1) (nI b2) (nI c) (nI B) = some (nI (pop (FM T n B))) := fun B hB => by
    unfold Mo_poolOf_b21
    rw [q1, q2, q3, Mo_fitsBy_ok q4 pN_le q5 pP_le q6 (pS_le hn2) (show 100 ≤ F by omega) hB, cb1_s, show fm (T 0) (T 1) (T 2) (nN T n) (nP T n) (nS T n) B = FM T n B from rfl, Mo_ones_ok (by omega) FM_10, cb1_s]
  unfold Mo_poolOf poolB at *
  rcases (show c = 0 ∨ c = 1 ∨ c = 2 by omega) with rfl | rfl | rfl
  · rw [if_pos (show nI 0 = 0 from rfl), if_pos rfl, key _ (by omega)]
  · rw [if_neg (show ¬ nI 1 = 0 by decide), if_pos (show nI 1 = 1 from rfl), if_neg (by omega), if_pos rfl, key _ (by omega)]
  · rw [if_neg (show ¬ nI 2 = 0 by decide), if_neg (show ¬ nI 2 = 1 by decide), if_neg (by omega), if_neg (by omega), bOr]
    exact key _ (Nat.or_lt_two_pow (n := 6) (by omega) (by omega))
theorem pool_v {T : Nat → Nat → Nat} {n : Nat → Nat} {t0s : Int32} {t0b : (Nat → Int32)} {t1s : Int32} {t1b : (Nat → Int32)} {t2s : Int32} {t2b : (Nat → Int32)} {st : Int32} {nz : Int32} {nf : Int32} {nod : (Nat → Int32)} {nln : (Nat → Int32)} {nlt : (Nat → Int32)} {nal : (Nat → Int32)} {nto : (Nat → Int32)} {pz : Int32} {pf : Int32} {pis : (Nat → Int32)} {pln : (Nat → Int32)} {plt : (Nat → Int32)} {sz : Int32} {sf : Int32} {slt : (Nat → Int32)} {fpc : Int32} {fsf : Int32} {faf : Int32} {ford : Int32} {fpf : (Nat → Int32)} {fio : (Nat → Int32)} (hT : TxC T n t0s t0b t1s t1b t2s t2b) (hD : DrC T n st nz nf nod nln nlt nal nto pz pf pis pln plt sz sf slt fpc fsf faf ford fpf fio) {F : Nat} (hF : 2000 ≤ F) {b1 b2 c : Nat} (h1 : b1 ≤ 63) (h2 : b2 ≤ 63) (hc : c ≤ 2) : ∃ nz' nf' nod' nln' nlt' nal' nto' pz' pf' pis' pln' plt' sz' sf' slt' fpc' fsf' faf' ford' fpf' fio', ND_pool F t0s t0b t1s t1b t2s t2b st nz nf nod nln nlt nal nto pz pf pis pln plt sz sf slt fpc fsf faf ford fpf fio (nI b1) (nI b2) (nI c) = some (nI (pop (FM T n (poolB b1 b2 c))), 0, nz', nf', nod', nln', nlt', nal', nto', pz', pf', pis', pln', plt', sz', sf', slt', fpc', fsf', faf', ford', fpf', fio') ∧ DrC T n 0 nz' nf' nod' nln' nlt' nal' nto' pz' pf' pis' pln' plt' sz' sf' slt' fpc' fsf' faf' ford' fpf' fio' := by
  obtain ⟨nz', nf', nod', nln', nlt', nal', nto', pz', pf', pis', pln', plt', sz', sf', slt', fpc', fsf', faf', ford', fpf', fio', e, g⟩ := ND_refresh_ok hT hD hF
  have g' := DrC_0 g
  have g6 := g.2.2.2.1
  have g7 := g.2.2.2.2.1
  have g9 := g.2.2.2.2.2.2.2
  have hB := poolB_lt (c := c) h1 h2
  have ep : ∀ b, b ≤ 63 → ND_isPieceBits (nI b) = some 1 := fun b hb => by
    unfold ND_isPieceBits
    rw [if_neg (nI_pos (by omega)), if_neg (show ¬ (63 : Int32) < nI b by rw [show (63 : Int32) = nI 63 from rfl, ltN (by omega) (by omega)]; omega)]
  have key : ∀ B, B < 64 → Fi_by F fpc' fsf' fpf' (nI B) = some (nI (FM T n B)) := fun B hB => by
    rw [g6, g7]
    exact Fi_by_ok pN_le pP_le g9 (by omega) hB
  unfold ND_pool
  rw [ep b1 h1, cb1_s, if_neg (show ¬ (1 : Int32) = 0 by decide), ep b2 h2, cb1_s, if_neg (show ¬ (1 : Int32) = 0 by decide), if_neg (nI_pos (by omega)), if_pos (show nI c ≤ 2 by rw [n2, leN (by omega) (by omega)]; omega), e, cb22_s]
  unfold ND_pool_b62 poolB at *
  rcases (show c = 0 ∨ c = 1 ∨ c = 2 by omega) with rfl | rfl | rfl
  · rw [if_neg (show ¬ nI 0 = 2 by decide), if_pos (show nI 0 = 0 from rfl), if_pos rfl, key _ (by omega), cb1_s, Jint_bitCount_ok _ FM_10, cb1_s]
    exact ⟨_, _, _, _, _, _, _, _, _, _, _, _, _, _, _, _, _, _, _, _, _, rfl, g'⟩
  · rw [if_neg (show ¬ nI 1 = 2 by decide), if_neg (show ¬ nI 1 = 0 by decide), if_neg (by omega), if_pos rfl, key _ (by omega), cb1_s, Jint_bitCount_ok _ FM_10, cb1_s]
    exact ⟨_, _, _, _, _, _, _, _, _, _, _, _, _, _, _, _, _, _, _, _, _, rfl, g'⟩
  · rw [if_pos (show nI 2 = 2 from rfl), if_neg (by omega), if_neg (by omega), bOr, key _ (Nat.or_lt_two_pow (n := 6) (by omega) (by omega)), cb1_s, Jint_bitCount_ok _ FM_10, cb1_s]
    exact ⟨_, _, _, _, _, _, _, _, _, _, _, _, _, _, _, _, _, _, _, _, _, rfl, g'⟩
theorem pool_ok {T : Nat → Nat → Nat} {n : Nat → Nat} {t0s : Int32} {t0b : (Nat → Int32)} {t1s : Int32} {t1b : (Nat → Int32)} {t2s : Int32} {t2b : (Nat → Int32)} {st : Int32} {nz : Int32} {nf : Int32} {nod : (Nat → Int32)} {nln : (Nat → Int32)} {nlt : (Nat → Int32)} {nal : (Nat → Int32)} {nto : (Nat → Int32)} {pz : Int32} {pf : Int32} {pis : (Nat → Int32)} {pln : (Nat → Int32)} {plt : (Nat → Int32)} {sz : Int32} {sf : Int32} {slt : (Nat → Int32)} {fpc : Int32} {fsf : Int32} {faf : Int32} {ford : Int32} {fpf : (Nat → Int32)} {fio : (Nat → Int32)} (hT : TxC T n t0s t0b t1s t1b t2s t2b) (hD : DrC T n st nz nf nod nln nlt nal nto pz pf pis pln plt sz sf slt fpc fsf faf ford fpf fio) {F : Nat} (hF : 2000 ≤ F) {bytes typed : Nat → Int32} (hM : TxR T n bytes typed) (ra : Int32) (rn : Int32) (rp : Int32) (rs : Int32) (rch : (Nat → Int32)) (rlo : (Nat → Int32)) (rle : (Nat → Int32)) (ris : (Nat → Int32)) (rpl : (Nat → Int32)) (rpt : (Nat → Int32)) (rso : (Nat → Int32)) (x1 x2 x3 : Int32) : ∃ r st' nz' nf' nod' nln' nlt' nal' nto' pz' pf' pis' pln' plt' sz' sf' slt' fpc' fsf' faf' ford' fpf' fio' ra' rn' rp' rs' rch' rlo' rle' ris' rpl' rpt' rso', ND_pool F t0s t0b t1s t1b t2s t2b st nz nf nod nln nlt nal nto pz pf pis pln plt sz sf slt fpc fsf faf ford fpf fio x1 x2 x3 = some (r, st', nz', nf', nod', nln', nlt', nal', nto', pz', pf', pis', pln', plt', sz', sf', slt', fpc', fsf', faf', ford', fpf', fio') ∧ Mo_pool F bytes typed ra rn rp rs rch rlo rle ris rpl rpt rso x1 x2 x3 = some (r, ra', rn', rp', rs', rch', rlo', rle', ris', rpl', rpt', rso') ∧ DrC T n st' nz' nf' nod' nln' nlt' nal' nto' pz' pf' pis' pln' plt' sz' sf' slt' fpc' fsf' faf' ford' fpf' fio' := by
  obtain ⟨ra', rn', rp', rs', rch', rlo', rle', ris', rpl', rpt', rso', f, hR⟩ := Mo_reads_ok hT hM hF ra rn rp rs rch rlo rle ris rpl rpt rso
  unfold Mo_pool
  rw [f, cb11_s]
  rcases pbits_cases x1 with ⟨b1, h1, rfl, e1, e1'⟩ | ⟨e1, e1'⟩
  · rcases pbits_cases x2 with ⟨b2, h2, rfl, e2, e2'⟩ | ⟨e2, e2'⟩
    · rcases in_cases x3 0 2 (by omega) (by omega) with ⟨c, _, hc, rfl, e3⟩ | ⟨h3, e3⟩
      · obtain ⟨nz', nf', nod', nln', nlt', nal', nto', pz', pf', pis', pln', plt', sz', sf', slt', fpc', fsf', faf', ford', fpf', fio', v, g⟩ := pool_v hT hD hF h1 h2 hc
        rw [v, e1', cb1_s, if_neg (show ¬ (1 : Int32) = 0 by decide), e2', cb1_s, if_neg (show ¬ (1 : Int32) = 0 by decide), show Mo_in (Int32.toInt64 (nI c)) 0 2 = some 1 from e3, cb1_s, if_neg (show ¬ (1 : Int32) = 0 by decide), Mo_poolOf_v (n2_le hT) hR hF h1 h2 hc, cb1_s]
        exact ⟨_, _, _, _, _, _, _, _, _, _, _, _, _, _, _, _, _, _, _, _, _, _, _, _, _, _, _, _, _, _, _, _, _, _, rfl, rfl, g⟩
      · rw [e1', cb1_s, if_neg (show ¬ (1 : Int32) = 0 by decide), e2', cb1_s, if_neg (show ¬ (1 : Int32) = 0 by decide), show Mo_in (Int32.toInt64 x3) 0 2 = some 0 from e3, cb1_s, if_pos rfl]
        refine ⟨-2, st, nz, nf, nod, nln, nlt, nal, nto, pz, pf, pis, pln, plt, sz, sf, slt, fpc, fsf, faf, ford, fpf, fio, ra', rn', rp', rs', rch', rlo', rle', ris', rpl', rpt', rso', ?_, rfl, hD⟩
        unfold ND_pool
        rw [e1, cb1_s, if_neg (show ¬ (1 : Int32) = 0 by decide), e2, cb1_s, if_neg (show ¬ (1 : Int32) = 0 by decide)]
        by_cases h : x3 < 0
        · rw [if_pos h]
        · have h4 : ¬ x3 ≤ 2 := Int32.not_le.mpr (h3.resolve_left h)
          rw [if_neg h, if_neg h4]
    · rw [e1', cb1_s, if_neg (show ¬ (1 : Int32) = 0 by decide), e2', cb1_s, if_pos rfl]
      refine ⟨-2, st, nz, nf, nod, nln, nlt, nal, nto, pz, pf, pis, pln, plt, sz, sf, slt, fpc, fsf, faf, ford, fpf, fio, ra', rn', rp', rs', rch', rlo', rle', ris', rpl', rpt', rso', ?_, rfl, hD⟩
      unfold ND_pool
      rw [e1, cb1_s, if_neg (show ¬ (1 : Int32) = 0 by decide), e2, cb1_s, if_pos rfl]
  · rw [e1', cb1_s, if_pos rfl]
    refine ⟨-2, st, nz, nf, nod, nln, nlt, nal, nto, pz, pf, pis, pln, plt, sz, sf, slt, fpc, fsf, faf, ford, fpf, fio, ra', rn', rp', rs', rch', rlo', rle', ris', rpl', rpt', rso', ?_, rfl, hD⟩
    unfold ND_pool
    rw [e1, cb1_s, if_pos rfl]
/-! sung -/
theorem first_bit {m N : Nat} (hm : m < 2 ^ N) (h : m ≠ 0) : ∃ a, a < N ∧ m.testBit a = true ∧ ∀ i, i < a → m.testBit i = false := by
  obtain ⟨i, hi, hb⟩ := m_ex hm h
  induction i using Nat.strongRecOn with
  | ind i ih =>
    by_cases hc : ∃ j, j < i ∧ m.testBit j = true
    · obtain ⟨j, hj, hb'⟩ := hc
      exact ih j hj (by omega) hb'
    · exact ⟨i, hi, hb, fun j hj => by
        cases hq : m.testBit j with
        | false => rfl
        | true => exact absurd ⟨j, hj, hq⟩ hc⟩
def sgV (T : Nat → Nat) (N M a p : Nat) : Int32 := if allB (fun i => !M.testBit i || Ln T i == Ln T a) N = true then (if p < Ln T a then (if allB (fun i => !M.testBit i || sdc T i p == sdc T a p) N = true then nI (97 + Lt T a p) else nI 46) else -1) else -1
theorem Na_common_loop {T : Nat → Nat} {N : Nat} {od ln lt : Nat → Int32} (hO : NmOK T N od ln lt) (hN : N ≤ 10) (F : Nat) {M a : Nat} (ha : a < N) (hb : M.testBit a = true) (h0 : ∀ i, i < a → M.testBit i = false) : ∀ (d k f : Nat) (x : Int32), k + d = N → d < f → (k ≤ a → x = 0) → (a < k → x = nI (Ln T a) ∧ allB (fun i => !M.testBit i || Ln T i == Ln T a) k = true) →
    Na_commonLength_l4 F (nI N) ln (nI M) f x (nI k) = some (if allB (fun i => !M.testBit i || Ln T i == Ln T a) N = true then nI (Ln T a) else 0) := by
  intro d
  induction d with
  | zero =>
    intro k f x hk hf h1 h2
    obtain ⟨f, rfl⟩ : ∃ f', f = f' + 1 := ⟨f - 1, by omega⟩
    show Na_commonLength_b4 F (nI N) ln (nI M) _ x (nI k) = _
    unfold Na_commonLength_b4
    obtain ⟨e1, e2⟩ := h2 (by omega)
    rw [show k = N by omega] at e2 ⊢
    rw [if_pos (show nI N ≤ nI N by rw [leN (by omega) (by omega)]; omega), if_pos e2, e1]
  | succ d ih =>
    intro k f x hk hf h1 h2
    obtain ⟨f, rfl⟩ : ∃ f', f = f' + 1 := ⟨f - 1, by omega⟩
    show Na_commonLength_b4 F (nI N) ln (nI M) (Na_commonLength_l4 F (nI N) ln (nI M) f) x (nI k) = _
    have hk9 : k < N := by omega
    have hl := Ln_le T k; have hl2 := Ln_le T a
    have hp := (hO k hk9).2.1
    have hpa := (hO a ha).2.1
    unfold Na_commonLength_b4 Na_commonLength_b36 Na_commonLength_b43
    rw [if_neg (show ¬ nI N ≤ nI k by rw [leN (by omega) (by omega)]; omega), sh1 k (by omega), show nI k + 1 = nI (k + 1) from nI_1 _]
    cases hbk : M.testBit k with
    | false =>
      rw [if_pos (show nI M &&& nI (2 ^ k) = 0 by rw [bBit (by omega), hbk])]
      refine ih (k + 1) f x (by omega) (by omega) (fun h => h1 (by omega)) (fun h => ?_)
      have hak : a < k := by
        rcases Nat.lt_or_eq_of_le (Nat.le_of_lt_succ h) with h' | h'
        · exact h'
        · rw [h', hbk] at hb; exact absurd hb (by decide)
      obtain ⟨e1, e2⟩ := h2 hak
      exact ⟨e1, by rw [allB, e2, hbk]; rfl⟩
    | true =>
      rw [if_neg (show ¬ nI M &&& nI (2 ^ k) = 0 by rw [bBit (by omega), hbk]; decide)]
      have hka : a ≤ k := by
        rcases Nat.lt_or_ge k a with h | h
        · rw [h0 k h] at hbk; exact absurd hbk (by decide)
        · exact h
      rw [rdN (by omega) (by omega), (hO k hk9).2.2.2.1]
      rcases Nat.lt_or_eq_of_le hka with h | h
      · obtain ⟨e1, e2⟩ := h2 h
        subst e1
        rw [if_neg (show ¬ nI (Ln T a) = 0 from fun hq => by have := (nI_eq (b := 0) (by omega) (by omega)).mp hq; omega), rdN (by omega) (by omega), (hO k hk9).2.2.2.1, iteE (by omega) (by omega)]
        by_cases hL : Ln T a = Ln T k
        · rw [if_pos hL, ← hL]
          exact ih (k + 1) f _ (by omega) (by omega) (fun hc => by omega) (fun _ => ⟨rfl, by rw [allB, e2, hbk, ← hL]; simp⟩)
        · rw [if_neg hL, if_neg]
          intro hc
          have := allB_iff.mp hc k hk9
          rw [hbk] at this
          simp at this; exact hL this.symm
      · rw [if_pos (h1 (by omega))]
        subst h
        refine ih (a + 1) f _ (by omega) (by omega) (fun hc => by omega) (fun _ => ⟨rfl, ?_⟩)
        refine allB_iff.mpr (fun i hi => ?_)
        by_cases e : i = a
        · subst e; simp
        · rw [h0 i (by omega)]; rfl
theorem Na_song_loop {T : Nat → Nat} {N : Nat} {al : Nat → Int32} (hG : GrOK T N 6 al) (hN : N ≤ 10) (F : Nat) (sz : Int32) (ln : Nat → Int32) {M a p : Nat} (hM : M < 2 ^ N) (ha : a < N) (hb : M.testBit a = true) (hp6 : p < 6) (hp : p < Ln T a) : ∀ (d c f : Nat), c + d = 6 → d < f → (∀ c', c' < c → ¬ ∀ i, i < N → M.testBit i = true → sdc T i p = c' + 1) →
    Na_songByte_l20 F sz ln al (nI M) (nI p) f (nI c) = some (if allB (fun i => !M.testBit i || sdc T i p == sdc T a p) N = true then nI (97 + Lt T a p) else nI 46) := by
  have hs : sdc T a p = Lt T a p + 1 := if_pos hp
  have hl := Lt_lt hp
  intro d
  induction d with
  | zero =>
    intro c f hc hf h
    obtain ⟨f, rfl⟩ : ∃ f', f = f' + 1 := ⟨f - 1, by omega⟩
    show Na_songByte_b20 F sz ln al (nI M) (nI p) _ (nI c) = _
    unfold Na_songByte_b20
    rw [n6, if_pos (show nI 6 ≤ nI c by rw [leN (by omega) (by omega)]; omega), if_neg]
    · rfl
    · intro hq
      refine h (Lt T a p) (by omega) (fun i hi hbi => ?_)
      have := allB_iff.mp hq i hi
      rw [hbi] at this; simp at this; omega
  | succ d ih =>
    intro c f hc hf h
    obtain ⟨f, rfl⟩ : ∃ f', f = f' + 1 := ⟨f - 1, by omega⟩
    show Na_songByte_b20 F sz ln al (nI M) (nI p) (Na_songByte_l20 F sz ln al (nI M) (nI p) f) (nI c) = _
    unfold Na_songByte_b20 Na_songByte_b41
    rw [n6, if_neg (show ¬ nI 6 ≤ nI c by rw [leN (by omega) (by omega)]; omega), show nI c = nI (c + 1) + (-1) from (m1_add c).symm, Na_sounding_c hG hp6 (by omega), cb1_s, bNot, m1_add, show nI c + 1 = nI (c + 1) from nI_1 _]
    have hlt := ndf_lt (b := bo (fun i => sdc T i p == c + 1) N) hM
    have h10 := p2_10 hN
    by_cases hz : ∀ i, i < N → M.testBit i = true → sdc T i p = c + 1
    · have : ndf M (bo (fun i => sdc T i p == c + 1) N) = 0 := m_0 hlt (fun i hi => by
        rw [ndf_bit, bo_bit]
        cases hbi : M.testBit i with
        | false => rfl
        | true => simp [hi, hz i hi hbi])
      rw [this, if_pos (show nI 0 = 0 from rfl), if_pos]
      · have := hz a ha hb
        rw [show (97 : Int32) = nI 97 from rfl, nI_add, show c = Lt T a p by omega]
      · refine allB_iff.mpr (fun i hi => ?_)
        cases hbi : M.testBit i with
        | false => rfl
        | true => rw [hz i hi hbi, hz a ha hb]; simp
    · rw [if_neg]
      · exact ih (c + 1) f (by omega) (by omega) (fun c' hc' => by
          by_cases e : c' = c
          · subst e; exact hz
          · exact h c' (by omega))
      · intro hq
        have h0 : ndf M (bo (fun i => sdc T i p == c + 1) N) = 0 := (nI_eq (b := 0) (by omega) (by omega)).mp hq
        refine hz (fun i hi hbi => ?_)
        have h1 : (ndf M (bo (fun i => sdc T i p == c + 1) N)).testBit i = false := by rw [h0]; exact Nat.zero_testBit i
        rw [ndf_bit, bo_bit, hbi] at h1
        simp [hi] at h1; exact h1
theorem Na_songByte_v {T : Nat → Nat} {N : Nat} {od ln lt al : Nat → Int32} (hO : NmOK T N od ln lt) (hG : GrOK T N 6 al) (hN : N ≤ 10) {F : Nat} (hF : 100 ≤ F) {M a p : Nat} (hM : M < 2 ^ N) (ha : a < N) (hb : M.testBit a = true) (h0 : ∀ i, i < a → M.testBit i = false) (hp6 : p < 6) : Na_songByte F (nI N) ln al (nI M) (nI p) = some (sgV T N M a p) := by
  have hl := Ln_le T a
  have hc := Na_common_loop hO hN F ha hb h0 N 0 F 0 (by omega) (by omega) (fun _ => rfl) (fun h => absurd h (Nat.not_lt_zero a))
  unfold Na_songByte Na_commonLength
  rw [show Na_commonLength_l4 F (nI N) ln (nI M) F 0 0 = _ from hc, cb1_s, if_neg (nI_pos (by omega))]
  unfold sgV
  by_cases h1 : allB (fun i => !M.testBit i || Ln T i == Ln T a) N = true
  · rw [if_pos h1, if_pos h1]
    by_cases h2 : p < Ln T a
    · rw [if_pos h2, if_pos (show nI p < nI (Ln T a) by rw [ltN (by omega) (by omega)]; exact h2)]
      exact Na_song_loop hG hN F _ _ hM ha hb hp6 h2 6 0 F (by omega) (by omega) (fun c' hc' => absurd hc' (Nat.not_lt_zero c'))
    · rw [if_neg h2, if_neg (show ¬ nI p < nI (Ln T a) by rw [ltN (by omega) (by omega)]; exact h2)]
  · rw [if_neg h1, if_neg h1, if_neg (show ¬ nI p < 0 from nI_pos (by omega))]
theorem Mo_letterAt_v {T : Nat → Nat} {N : Nat} {od ln lt : Nat → Int32} (hO : NmOK T N od ln lt) (hN : N ≤ 10) {k p : Nat} (hk : k < N) (hp : p < 6) : Mo_letterAt ln lt (nI k) (nI p) = some (nI (if p < Ln T k then Lt T k p else 6)) := by
  have hl := Ln_le T k
  unfold Mo_letterAt
  rw [rdN (by omega) (by omega), (hO k hk).2.2.2.1]
  by_cases h : p < Ln T k
  · rw [if_pos h, if_neg (show ¬ nI (Ln T k) ≤ nI p by rw [leN (by omega) (by omega)]; omega), n6, mulN, nI_add, rdN (by omega) (by omega), (hO k hk).2.2.2.2 p h]
  · rw [if_neg h, if_pos (show nI (Ln T k) ≤ nI p by rw [leN (by omega) (by omega)]; omega)]; rfl
theorem lt6_eq {T : Nat → Nat} {k a p : Nat} : ((if p < Ln T k then Lt T k p else 6) = (if p < Ln T a then Lt T a p else 6)) ↔ (sdc T k p == sdc T a p) = true := by
  unfold sdc
  rw [beq_iff_eq]
  by_cases h1 : p < Ln T k
  · have := Lt_lt h1
    by_cases h2 : p < Ln T a
    · have := Lt_lt h2
      simp only [if_pos h1, if_pos h2]; omega
    · simp only [if_pos h1, if_neg h2]; omega
  · by_cases h2 : p < Ln T a
    · have := Lt_lt h2
      simp only [if_neg h1, if_pos h2]; omega
    · simp only [if_neg h1, if_neg h2]
theorem Mo_sung_lp {T : Nat → Nat} {N : Nat} {od ln lt : Nat → Int32} (hO : NmOK T N od ln lt) (hN : N ≤ 10) (F : Nat) {M a p : Nat} (hM : M < 2147483648) (ha : a < N) (hb : M.testBit a = true) (h0 : ∀ i, i < a → M.testBit i = false) (hp6 : p < 6) : ∀ (d k f : Nat) (x3 x4 x5 : Int32), k + d = N → d < f → (k ≤ a → x3 = -1 ∧ x4 = 1 ∧ x5 = 1) → (a < k → x3 = nI a ∧ x4 = bI (allB (fun i => !M.testBit i || sdc T i p == sdc T a p) k) ∧ x5 = bI (allB (fun i => !M.testBit i || Ln T i == Ln T a) k)) →
    Mo_sungOf_l11 F (nI N) ln lt (nI M) (nI p) f x3 x4 x5 (nI k) = some (sgV T N M a p) := by
  intro d
  induction d with
  | zero =>
    intro k f x3 x4 x5 hk hf h1 h2
    obtain ⟨f, rfl⟩ : ∃ f', f = f' + 1 := ⟨f - 1, by omega⟩
    show Mo_sungOf_b11 F (nI N) ln lt (nI M) (nI p) _ x3 x4 x5 (nI k) = _
    have hl := Ln_le T a
    obtain ⟨rfl, rfl, rfl⟩ := h2 (by omega)
    rw [show k = N by omega]
    unfold Mo_sungOf_b11 Mo_sungOf_b103 Mo_sungOf_b128 sgV
    rw [if_pos (show nI N ≤ nI N by rw [leN (by omega) (by omega)]; omega), if_neg (ne_m1 (by omega))]
    cases hL : allB (fun i => !M.testBit i || Ln T i == Ln T a) N with
    | false => rw [if_pos (by decide), if_neg (by decide)]
    | true =>
      rw [if_neg (by decide), if_pos rfl, rdN (by omega) (by omega), (hO a ha).2.2.2.1]
      by_cases h : p < Ln T a
      · rw [if_pos h, if_pos (show nI p < nI (Ln T a) by rw [ltN (by omega) (by omega)]; exact h)]
        cases hS : allB (fun i => !M.testBit i || sdc T i p == sdc T a p) N with
        | false => rw [if_pos (by decide), if_neg (by decide)]; rfl
        | true => rw [if_neg (by decide), if_pos rfl, n6, mulN, nI_add, rdN (by omega) (by omega), (hO a ha).2.2.2.2 p h, show (97 : Int32) = nI 97 from rfl, nI_add]
      · rw [if_neg h, if_neg (show ¬ nI p < nI (Ln T a) by rw [ltN (by omega) (by omega)]; exact h)]
  | succ d ih =>
    intro k f x3 x4 x5 hk hf h1 h2
    obtain ⟨f, rfl⟩ : ∃ f', f = f' + 1 := ⟨f - 1, by omega⟩
    show Mo_sungOf_b11 F (nI N) ln lt (nI M) (nI p) (Mo_sungOf_l11 F (nI N) ln lt (nI M) (nI p) f) x3 x4 x5 (nI k) = _
    have hk9 : k < N := by omega
    have hl := Ln_le T k; have hl2 := Ln_le T a
    have key : ∀ (A B : Bool), Mo_sungOf_b40 F (nI N) ln lt (nI M) (nI p) (Mo_sungOf_l11 F (nI N) ln lt (nI M) (nI p) f) (bI A) (bI B) (nI k) (nI a) = Mo_sungOf_l11 F (nI N) ln lt (nI M) (nI p) f (nI a) (bI (A && (sdc T k p == sdc T a p))) (bI (B && (Ln T k == Ln T a))) (nI (k + 1)) := by
      intro A B
      have k2 : ∀ (C : Bool), Mo_sungOf_b67 F (nI N) ln lt (nI M) (nI p) (Mo_sungOf_l11 F (nI N) ln lt (nI M) (nI p) f) (nI a) (bI A) (nI k) (bI C) = Mo_sungOf_l11 F (nI N) ln lt (nI M) (nI p) f (nI a) (bI (A && (sdc T k p == sdc T a p))) (bI C) (nI (k + 1)) := by
        intro C
        unfold Mo_sungOf_b67 Mo_sungOf_b94 Mo_sungOf_b95 Mo_sungOf_b97
        rw [show nI k + 1 = nI (k + 1) from nI_1 _]
        cases A with
        | false => rw [if_pos (show bI false = 0 from rfl)]; rfl
        | true =>
          rw [if_neg (show ¬ bI true = 0 by decide), Mo_letterAt_v hO hN hk9 hp6, cb1_s, Mo_letterAt_v hO hN ha hp6, cb1_s]
          have b1 : (if p < Ln T k then Lt T k p else 6) < 2147483648 := by
            split
            · next h => have := Lt_lt h; omega
            · omega
          have b2 : (if p < Ln T a then Lt T a p else 6) < 2147483648 := by
            split
            · next h => have := Lt_lt h; omega
            · omega
          rw [iteE b1 b2]
          cases hs : (sdc T k p == sdc T a p) with
          | true => rw [if_pos (lt6_eq.mpr hs)]; rfl
          | false => rw [if_neg (fun hc => by rw [lt6_eq.mp hc] at hs; cases hs)]; rfl
      unfold Mo_sungOf_b40 Mo_sungOf_b66
      cases B with
      | false => rw [if_pos (show bI false = 0 from rfl)]; exact k2 false
      | true =>
        rw [if_neg (show ¬ bI true = 0 by decide), rdN (by omega) (by omega), (hO k hk9).2.2.2.1, rdN (by omega) (by omega), (hO a ha).2.2.2.1, iteE (by omega) (by omega)]
        cases hL : (Ln T k == Ln T a) with
        | true => rw [if_pos (by simpa using hL)]; exact k2 true
        | false => rw [if_neg (by simpa using hL)]; exact k2 false
    unfold Mo_sungOf_b11 Mo_sungOf_b97
    rw [if_neg (show ¬ nI N ≤ nI k by rw [leN (by omega) (by omega)]; omega), Mo_isIn_ok hM (by omega), cb1_s, show nI k + 1 = nI (k + 1) from nI_1 _]
    cases hbk : M.testBit k with
    | false =>
      rw [if_neg (show ¬ false = true by decide), if_pos rfl]
      refine ih (k + 1) f x3 x4 x5 (by omega) (by omega) (fun h => h1 (by omega)) (fun h => ?_)
      have hak : a < k := by
        rcases Nat.lt_or_eq_of_le (Nat.le_of_lt_succ h) with h' | h'
        · exact h'
        · rw [h', hbk] at hb; exact absurd hb (by decide)
      obtain ⟨e1, e2, e3⟩ := h2 hak
      refine ⟨e1, ?_, ?_⟩
      · rw [allB, hbk, e2]; simp
      · rw [allB, hbk, e3]; simp
    | true =>
      rw [if_pos rfl, if_neg (show ¬ (1 : Int32) = 0 by decide)]
      have hka : a ≤ k := by
        rcases Nat.lt_or_ge k a with h | h
        · rw [h0 k h] at hbk; exact absurd hbk (by decide)
        · exact h
      rcases Nat.lt_or_eq_of_le hka with h | h
      · obtain ⟨rfl, rfl, rfl⟩ := h2 h
        rw [if_neg (ne_m1 (by omega)), key]
        exact ih (k + 1) f _ _ _ (by omega) (by omega) (fun hc => by omega) (fun _ => ⟨rfl, by rw [allB, hbk]; simp, by rw [allB, hbk]; simp⟩)
      · obtain ⟨rfl, rfl, rfl⟩ := h1 (by omega)
        subst h
        have e0 : ∀ (q : Nat → Bool), allB (fun i => !M.testBit i || q i) a = true := fun q => allB_iff.mpr (fun i hi => by rw [h0 i hi]; rfl)
        rw [if_pos rfl, show (1 : Int32) = bI true from rfl, key]
        exact ih (a + 1) f _ _ _ (by omega) (by omega) (fun hc => by omega) (fun _ => ⟨rfl, by rw [allB, hbk, e0]; simp, by rw [allB, hbk, e0]; simp⟩)
theorem Mo_sungOf_v {T : Nat → Nat} {N : Nat} {od ln lt : Nat → Int32} (hO : NmOK T N od ln lt) (hN : N ≤ 10) {F : Nat} (hF : 100 ≤ F) {M M' a p : Nat} (hM : M' < 2147483648) (hMM : M = M' &&& (2 ^ N - 1)) (ha : a < N) (hb : M.testBit a = true) (h0 : ∀ i, i < a → M.testBit i = false) (hp6 : p < 6) : Mo_sungOf F (nI N) ln lt (nI M') (nI p) = some (sgV T N M a p) := by
  have hbit : ∀ i, i < N → M'.testBit i = M.testBit i := fun i hi => by rw [hMM, Nat.testBit_and, all_bit]; simp [hi]
  have h := Mo_sung_lp hO hN F hM ha (by rw [hbit a ha]; exact hb) (fun i hi => by rw [hbit i (by omega)]; exact h0 i hi) hp6 N 0 F (-1) 1 1 (by omega) (by omega) (fun _ => ⟨rfl, rfl, rfl⟩) (fun h => absurd h (Nat.not_lt_zero a))
  have e : sgV T N M' a p = sgV T N M a p := by
    have ex : ∀ q : Nat → Bool, allB (fun i => !M'.testBit i || q i) N = allB (fun i => !M.testBit i || q i) N := fun q => by
      have : (allB (fun i => !M'.testBit i || q i) N = true) = (allB (fun i => !M.testBit i || q i) N = true) := by
        rw [allB_iff, allB_iff]
        exact propext ⟨fun h i hi => by rw [← hbit i hi]; exact h i hi, fun h i hi => by rw [hbit i hi]; exact h i hi⟩
      exact Bool.eq_iff_iff.mpr (by rw [this])
    unfold sgV
    rw [ex, ex]
  rw [← e]
  exact h
theorem Mo_sung_none {N : Nat} (hN : N ≤ 10) {ln lt : Nat → Int32} (F : Nat) {M : Nat} (hM : M < 2147483648) (h0 : ∀ i, i < N → M.testBit i = false) (x2 : Int32) : ∀ (d k f : Nat), k + d = N → d < f → Mo_sungOf_l11 F (nI N) ln lt (nI M) x2 f (-1) 1 1 (nI k) = some (-2) := by
  intro d
  induction d with
  | zero =>
    intro k f hk hf
    obtain ⟨f, rfl⟩ : ∃ f', f = f' + 1 := ⟨f - 1, by omega⟩
    show Mo_sungOf_b11 F (nI N) ln lt (nI M) x2 _ _ _ _ (nI k) = _
    unfold Mo_sungOf_b11 Mo_sungOf_b103
    rw [if_pos (show nI N ≤ nI k by rw [leN (by omega) (by omega)]; omega), if_pos rfl]
  | succ d ih =>
    intro k f hk hf
    obtain ⟨f, rfl⟩ : ∃ f', f = f' + 1 := ⟨f - 1, by omega⟩
    show Mo_sungOf_b11 F (nI N) ln lt (nI M) x2 (Mo_sungOf_l11 F (nI N) ln lt (nI M) x2 f) _ _ _ (nI k) = _
    unfold Mo_sungOf_b11 Mo_sungOf_b97
    rw [if_neg (show ¬ nI N ≤ nI k by rw [leN (by omega) (by omega)]; omega), Mo_isIn_ok hM (by omega), cb1_s, h0 k (by omega), if_neg (show ¬ (false = true) by decide), if_pos rfl, show nI k + 1 = nI (k + 1) from nI_1 _]
    exact ih (k + 1) f (by omega) (by omega)
theorem sung_v {T : Nat → Nat → Nat} {n : Nat → Nat} {t0s : Int32} {t0b : (Nat → Int32)} {t1s : Int32} {t1b : (Nat → Int32)} {t2s : Int32} {t2b : (Nat → Int32)} {st : Int32} {nz : Int32} {nf : Int32} {nod : (Nat → Int32)} {nln : (Nat → Int32)} {nlt : (Nat → Int32)} {nal : (Nat → Int32)} {nto : (Nat → Int32)} {pz : Int32} {pf : Int32} {pis : (Nat → Int32)} {pln : (Nat → Int32)} {plt : (Nat → Int32)} {sz : Int32} {sf : Int32} {slt : (Nat → Int32)} {fpc : Int32} {fsf : Int32} {faf : Int32} {ford : Int32} {fpf : (Nat → Int32)} {fio : (Nat → Int32)} (hT : TxC T n t0s t0b t1s t1b t2s t2b) (hD : DrC T n st nz nf nod nln nlt nal nto pz pf pis pln plt sz sf slt fpc fsf faf ford fpf fio) {F : Nat} (hF : 2000 ≤ F) {b p : Nat} (h1 : b ≤ 1023) (hp : p < 6) : ∃ r nz' nf' nod' nln' nlt' nal' nto' pz' pf' pis' pln' plt' sz' sf' slt' fpc' fsf' faf' ford' fpf' fio', ND_sung F t0s t0b t1s t1b t2s t2b st nz nf nod nln nlt nal nto pz pf pis pln plt sz sf slt fpc fsf faf ford fpf fio (nI b) (nI p) = some (r, 0, nz', nf', nod', nln', nlt', nal', nto', pz', pf', pis', pln', plt', sz', sf', slt', fpc', fsf', faf', ford', fpf', fio') ∧ DrC T n 0 nz' nf' nod' nln' nlt' nal' nto' pz' pf' pis' pln' plt' sz' sf' slt' fpc' fsf' faf' ford' fpf' fio' ∧ (∀ (rn : Int32) (rp : Int32) (rs : Int32) (rch : (Nat → Int32)) (rlo : (Nat → Int32)) (rle : (Nat → Int32)) (ris : (Nat → Int32)) (rpl : (Nat → Int32)) (rpt : (Nat → Int32)) (rso : (Nat → Int32)), RdOK T n rn rp rs rch rlo rle ris rpl rpt rso → Mo_sungOf F rn rlo rle (nI b) (nI p) = some r) := by
  obtain ⟨nz', nf', nod', nln', nlt', nal', nto', pz', pf', pis', pln', plt', sz', sf', slt', fpc', fsf', faf', ford', fpf', fio', e, g⟩ := ND_refresh_ok hT hD hF
  have g' := DrC_0 g
  obtain ⟨⟨g1, _, g3, g4, g5⟩, _⟩ := g
  have hN10 : nN T n ≤ 10 := pN_le
  have hz : nz' = nI (nN T n) := g1
  have hO : NmOK (T 0) (nN T n) nod' nln' nlt' := g3
  have hG : GrOK (T 0) (nN T n) 6 nal' := g4
  have eb : ND_isNameBits (nI b) = some 1 := by
    unfold ND_isNameBits
    rw [if_neg (nI_pos (by omega)), if_neg (show ¬ (1023 : Int32) < nI b by rw [show (1023 : Int32) = nI 1023 from rfl, ltN (by omega) (by omega)]; omega)]
  have hM : b &&& (2 ^ (nN T n) - 1) < 2 ^ (nN T n) := by rw [Nat.and_two_pow_sub_one_eq_mod]; exact Nat.mod_lt _ (Nat.two_pow_pos _)
  have h210 := p2_10 hN10
  unfold ND_sung
  rw [eb, cb1_s, if_neg (show ¬ (1 : Int32) = 0 by decide), if_neg (nI_pos (by omega)), if_pos (show nI p < 6 by rw [n6, ltN (by omega) (by omega)]; omega), e, cb22_s, hz]
  rw [hz] at g'
  unfold Na_all
  rw [cb1_s, allI hN10, bAnd]
  by_cases hm : b &&& (2 ^ (nN T n) - 1) = 0
  · rw [hm, if_pos (show nI 0 = 0 from rfl)]
    refine ⟨-2, _, _, _, _, _, _, _, _, _, _, _, _, _, _, _, _, _, _, _, _, _, rfl, g', ?_⟩
    intro rn rp rs rch rlo rle ris rpl rpt rso hR
    obtain ⟨q1, _⟩ := hR
    rw [q1]
    exact Mo_sung_none hN10 F (by omega) (fun i hi => by
      have h0 : (b &&& (2 ^ (nN T n) - 1)).testBit i = false := by rw [hm]; exact Nat.zero_testBit i
      rw [Nat.testBit_and, all_bit] at h0; simpa [hi] using h0) _ (nN T n) 0 F (by omega) (by omega)
  · obtain ⟨a, ha, hb, h0⟩ := first_bit hM hm
    rw [if_neg (show ¬ nI (b &&& (2 ^ (nN T n) - 1)) = 0 from fun hq => hm ((nI_eq (b := 0) (by omega) (by omega)).mp hq)), Na_songByte_v hO hG hN10 (by omega) hM ha hb h0 hp, cb1_s]
    refine ⟨_, _, _, _, _, _, _, _, _, _, _, _, _, _, _, _, _, _, _, _, _, _, rfl, g', ?_⟩
    intro rn rp rs rch rlo rle ris rpl rpt rso hR
    obtain ⟨q1, q2, q3, q4, _⟩ := hR
    rw [q1]
    exact Mo_sungOf_v q4 hN10 (by omega) (by omega) rfl ha hb h0 hp
theorem sung_ok {T : Nat → Nat → Nat} {n : Nat → Nat} {t0s : Int32} {t0b : (Nat → Int32)} {t1s : Int32} {t1b : (Nat → Int32)} {t2s : Int32} {t2b : (Nat → Int32)} {st : Int32} {nz : Int32} {nf : Int32} {nod : (Nat → Int32)} {nln : (Nat → Int32)} {nlt : (Nat → Int32)} {nal : (Nat → Int32)} {nto : (Nat → Int32)} {pz : Int32} {pf : Int32} {pis : (Nat → Int32)} {pln : (Nat → Int32)} {plt : (Nat → Int32)} {sz : Int32} {sf : Int32} {slt : (Nat → Int32)} {fpc : Int32} {fsf : Int32} {faf : Int32} {ford : Int32} {fpf : (Nat → Int32)} {fio : (Nat → Int32)} (hT : TxC T n t0s t0b t1s t1b t2s t2b) (hD : DrC T n st nz nf nod nln nlt nal nto pz pf pis pln plt sz sf slt fpc fsf faf ford fpf fio) {F : Nat} (hF : 2000 ≤ F) {bytes typed : Nat → Int32} (hM : TxR T n bytes typed) (ra : Int32) (rn : Int32) (rp : Int32) (rs : Int32) (rch : (Nat → Int32)) (rlo : (Nat → Int32)) (rle : (Nat → Int32)) (ris : (Nat → Int32)) (rpl : (Nat → Int32)) (rpt : (Nat → Int32)) (rso : (Nat → Int32)) (x1 x2 : Int32) : ∃ r st' nz' nf' nod' nln' nlt' nal' nto' pz' pf' pis' pln' plt' sz' sf' slt' fpc' fsf' faf' ford' fpf' fio' ra' rn' rp' rs' rch' rlo' rle' ris' rpl' rpt' rso', ND_sung F t0s t0b t1s t1b t2s t2b st nz nf nod nln nlt nal nto pz pf pis pln plt sz sf slt fpc fsf faf ford fpf fio x1 x2 = some (r, st', nz', nf', nod', nln', nlt', nal', nto', pz', pf', pis', pln', plt', sz', sf', slt', fpc', fsf', faf', ford', fpf', fio') ∧ Mo_sung F bytes typed ra rn rp rs rch rlo rle ris rpl rpt rso x1 x2 = some (r, ra', rn', rp', rs', rch', rlo', rle', ris', rpl', rpt', rso') ∧ DrC T n st' nz' nf' nod' nln' nlt' nal' nto' pz' pf' pis' pln' plt' sz' sf' slt' fpc' fsf' faf' ford' fpf' fio' := by
  obtain ⟨ra', rn', rp', rs', rch', rlo', rle', ris', rpl', rpt', rso', f, hR⟩ := Mo_reads_ok hT hM hF ra rn rp rs rch rlo rle ris rpl rpt rso
  unfold Mo_sung
  rw [f, cb11_s]
  rcases nbits_cases x1 with ⟨b1, h1, rfl, e1, e1'⟩ | ⟨e1, e1'⟩
  · rcases in_cases x2 0 5 (by omega) (by omega) with ⟨p, _, hc, rfl, e3⟩ | ⟨h3, e3⟩
    · obtain ⟨r, nz', nf', nod', nln', nlt', nal', nto', pz', pf', pis', pln', plt', sz', sf', slt', fpc', fsf', faf', ford', fpf', fio', v, g, w⟩ := sung_v hT hD hF h1 (show p < 6 by omega)
      rw [v, e1', cb1_s, if_neg (show ¬ (1 : Int32) = 0 by decide), show Mo_in (Int32.toInt64 (nI p)) 0 5 = some 1 from e3, cb1_s, if_neg (show ¬ (1 : Int32) = 0 by decide), w _ _ _ _ _ _ _ _ _ _ hR, cb1_s]
      exact ⟨_, _, _, _, _, _, _, _, _, _, _, _, _, _, _, _, _, _, _, _, _, _, _, _, _, _, _, _, _, _, _, _, _, _, rfl, rfl, g⟩
    · rw [e1', cb1_s, if_neg (show ¬ (1 : Int32) = 0 by decide), show Mo_in (Int32.toInt64 x2) 0 5 = some 0 from e3, cb1_s, if_pos rfl]
      refine ⟨-2, st, nz, nf, nod, nln, nlt, nal, nto, pz, pf, pis, pln, plt, sz, sf, slt, fpc, fsf, faf, ford, fpf, fio, ra', rn', rp', rs', rch', rlo', rle', ris', rpl', rpt', rso', ?_, rfl, hD⟩
      unfold ND_sung
      rw [e1, cb1_s, if_neg (show ¬ (1 : Int32) = 0 by decide)]
      by_cases h : x2 < 0
      · rw [if_pos h]
      · have h4 : ¬ x2 < 6 := fun hc => by
          have h5 := h3.resolve_left h
          rw [Int32.lt_iff_toInt_lt] at hc h5
          rw [nI_toInt (by omega)] at h5
          have e6 : (6 : Int32).toInt = 6 := by decide
          omega
        rw [if_neg h, if_neg h4]
  · rw [e1', cb1_s, if_pos rfl]
    refine ⟨-2, st, nz, nf, nod, nln, nlt, nal, nto, pz, pf, pis, pln, plt, sz, sf, slt, fpc, fsf, faf, ford, fpf, fio, ra', rn', rp', rs', rch', rlo', rle', ris', rpl', rpt', rso', ?_, rfl, hD⟩
    unfold ND_sung
    rw [e1, cb1_s, if_pos rfl]
