/-! shortest and mean agree -/
theorem pop_all : ∀ P, P ≤ 6 → ∀ i, i < 64 → (i < 2 ^ P - 1 → pop i < pop (2 ^ P - 1)) ∧ (i < 2 ^ P → pop i ≤ pop (2 ^ P - 1)) := by decide +kernel
theorem fm_all (T Tp Ts : Nat → Nat) (N : Nat) {P : Nat} (S : Nat) (hP : P ≤ 6) : fm T Tp Ts N P S (2 ^ P - 1) = fm T Tp Ts N P S 63 := by
  refine bo_ext (fun i hi => ?_)
  unfold fitB
  congr 1
  have : (allB (fun q => !(2 ^ P - 1).testBit q || heardB T Tp i q) P = true) = (allB (fun q => !(63 : Nat).testBit q || heardB T Tp i q) P = true) := by
    rw [allB_iff, allB_iff]
    have h : ∀ q, q < P → (2 ^ P - 1).testBit q = (63 : Nat).testBit q := fun q hq => by
      rw [all_bit, show (63 : Nat) = 2 ^ 6 - 1 from rfl, all_bit]; simp [hq]; omega
    exact propext ⟨fun a q hq => by rw [← h q hq]; exact a q hq, fun a q hq => by rw [h q hq]; exact a q hq⟩
  exact Bool.eq_iff_iff.mpr (by rw [this])
theorem short_loop {T Tp Ts : Nat → Nat} {N P S : Nat} {od ln lt is pn pl sg pf : Nat → Int32} (hO : NmOK T N od ln lt) (hN : N ≤ 10) (hP : PcOK Tp P is pn pl) (hP6 : P ≤ 6) (hS : SgOK Ts S sg) (hS6 : S ≤ 6) {F : Nat} (hF : 100 ≤ F) (hpf : ∀ q, q < P → pf q = nI (bo (fun k => heardB T Tp k q) N)) (x1 : Int32) : ∀ (d i f f2 : Nat) (b3 x3 : Int32), i + d = 2 ^ P - 1 → d < f → d + 1 < f2 → (x3 = -1 ∧ b3 = nI (2 ^ P - 1)) ∨ (∃ b, b < 2 ^ P - 1 ∧ x3 = nI b ∧ b3 = nI b) →
    ∃ b, b < 2 ^ P ∧ Fi_fewestPieces_l13 F (nI P) (nI (bo (sungB T Ts S) N)) (nI (fm T Tp Ts N P S 63)) pf f (nI (2 ^ P - 1)) b3 (nI i) = some (nI b) ∧ Mo_shortestOf_l10 F (nI N) (nI P) (nI S) ln lt is pn pl sg x1 f2 (nI (fm T Tp Ts N P S 63)) x3 (nI i) = Mo_shortestOf_b73 F (nI N) (nI P) (nI S) ln lt is pn pl sg x1 (nI b) := by
  have hp : 2 ^ P ≤ 64 := p2_le (n := 6) hP6
  have hp0 : 0 < 2 ^ P := Nat.two_pow_pos P
  intro d
  induction d with
  | zero =>
    intro i f f2 b3 x3 hi hf hf2 h
    obtain ⟨f, rfl⟩ : ∃ f', f = f' + 1 := ⟨f - 1, by omega⟩
    obtain ⟨f2, rfl⟩ : ∃ f', f2 = f' + 1 + 1 := ⟨f2 - 2, by omega⟩
    obtain rfl : i = 2 ^ P - 1 := by omega
    have c1 : Fi_fewestPieces_l13 F (nI P) (nI (bo (sungB T Ts S) N)) (nI (fm T Tp Ts N P S 63)) pf (f + 1) (nI (2 ^ P - 1)) b3 (nI (2 ^ P - 1)) = some b3 := by
      show Fi_fewestPieces_b13 F _ _ _ pf _ _ b3 _ = _
      unfold Fi_fewestPieces_b13
      rw [if_pos (show nI (2 ^ P - 1) ≤ nI (2 ^ P - 1) by rw [leN (by omega) (by omega)]; omega)]
    have c2 : ∀ x, Mo_shortestOf_l10 F (nI N) (nI P) (nI S) ln lt is pn pl sg x1 (f2 + 1) (nI (fm T Tp Ts N P S 63)) x (nI (2 ^ P - 1) + 1) = Mo_shortestOf_b73 F (nI N) (nI P) (nI S) ln lt is pn pl sg x1 x := fun x => by
      show Mo_shortestOf_b10 F (nI N) (nI P) (nI S) ln lt is pn pl sg x1 _ _ x _ = _
      unfold Mo_shortestOf_b10
      rw [sh1 P (by omega), show nI (2 ^ P - 1) + 1 = nI (2 ^ P - 1 + 1) from nI_1 _, if_pos (show nI (2 ^ P) ≤ nI (2 ^ P - 1 + 1) by rw [leN (by omega) (by omega)]; omega)]
    rw [c1]
    show ∃ b, _ ∧ _ ∧ Mo_shortestOf_b10 F (nI N) (nI P) (nI S) ln lt is pn pl sg x1 (Mo_shortestOf_l10 F (nI N) (nI P) (nI S) ln lt is pn pl sg x1 (f2 + 1)) _ x3 _ = _
    unfold Mo_shortestOf_b10 Mo_shortestOf_b38
    rw [sh1 P (by omega), if_neg (show ¬ nI (2 ^ P) ≤ nI (2 ^ P - 1) by rw [leN (by omega) (by omega)]; omega)]
    rcases h with ⟨rfl, rfl⟩ | ⟨b, hb, rfl, rfl⟩
    · refine ⟨2 ^ P - 1, by omega, rfl, ?_⟩
      unfold Mo_shortestOf_b43 Mo_shortestOf_b66
      rw [if_pos rfl, if_neg (show ¬ (1 : Int32) = 0 by decide), Mo_fitsBy_ok hO hN hP hP6 hS hS6 hF (by omega), cb1_s, fm_all T Tp Ts N S hP6, if_pos rfl, c2]
    · refine ⟨b, by omega, rfl, ?_⟩
      unfold Mo_shortestOf_b43 Mo_shortestOf_b65 Mo_shortestOf_b66
      have h1 := (pop_all P hP6 b (by omega)).2 (by omega)
      have h2 := pop_le (2 ^ P - 1)
      rw [if_neg (ne_m1 (by omega)), Mo_ones_ok hF (by omega), cb1_s, Mo_ones_ok hF (by omega), cb1_s, if_pos (show nI (pop b) ≤ nI (pop (2 ^ P - 1)) by rw [leN (by omega) (by omega)]; exact h1), if_pos rfl, c2]
  | succ d ih =>
    intro i f f2 b3 x3 hi hf hf2 h
    obtain ⟨f, rfl⟩ : ∃ f', f = f' + 1 := ⟨f - 1, by omega⟩
    obtain ⟨f2, rfl⟩ : ∃ f', f2 = f' + 1 := ⟨f2 - 1, by omega⟩
    have hi1 : i < 2 ^ P - 1 := by omega
    have p1 := (pop_all P hP6 i (by omega)).1 hi1
    have p2 := pop_le (2 ^ P - 1)
    have hfm := fm_lt T Tp Ts N P S
    have h10 := p2_10 hN
    have fb : Fi_by F (nI P) (nI (bo (sungB T Ts S) N)) pf (nI i) = some (nI (fm T Tp Ts N P S i)) := Fi_by_ok hN hP6 hpf hF (by omega)
    show ∃ b, _ ∧ Fi_fewestPieces_b13 F _ _ _ pf (Fi_fewestPieces_l13 F (nI P) (nI (bo (sungB T Ts S) N)) (nI (fm T Tp Ts N P S 63)) pf f) _ b3 _ = _ ∧ Mo_shortestOf_b10 F (nI N) (nI P) (nI S) ln lt is pn pl sg x1 (Mo_shortestOf_l10 F (nI N) (nI P) (nI S) ln lt is pn pl sg x1 f2) _ x3 _ = _
    unfold Fi_fewestPieces_b13 Fi_fewestPieces_b43 Mo_shortestOf_b10 Mo_shortestOf_b38
    rw [if_neg (show ¬ nI (2 ^ P - 1) ≤ nI i by rw [leN (by omega) (by omega)]; omega), sh1 P (by omega), if_neg (show ¬ nI (2 ^ P) ≤ nI i by rw [leN (by omega) (by omega)]; omega), Jint_bitCount_ok i (by omega), cb1_s, show nI i + 1 = nI (i + 1) from nI_1 _]
    rcases h with ⟨rfl, rfl⟩ | ⟨b, hb, rfl, rfl⟩
    · rw [Jint_bitCount_ok _ (by omega), cb1_s, if_neg (show ¬ nI (pop (2 ^ P - 1)) ≤ nI (pop i) by rw [leN (by omega) (by omega)]; omega), fb, cb1_s, if_pos rfl]
      unfold Mo_shortestOf_b43 Mo_shortestOf_b65 Mo_shortestOf_b66
      rw [if_neg (show ¬ (1 : Int32) = 0 by decide), Mo_fitsBy_ok hO hN hP hP6 hS hS6 hF (by omega), cb1_s, show nI i + 1 = nI (i + 1) from nI_1 _]
      by_cases hq : nI (fm T Tp Ts N P S i) = nI (fm T Tp Ts N P S 63)
      · rw [if_pos hq, if_pos hq]
        exact ih (i + 1) f f2 _ _ (by omega) (by omega) (by omega) (Or.inr ⟨i, hi1, rfl, rfl⟩)
      · rw [if_neg hq, if_neg hq]
        exact ih (i + 1) f f2 _ _ (by omega) (by omega) (by omega) (Or.inl ⟨rfl, rfl⟩)
    · have p3 := pop_le b; have p4 := pop_le i
      rw [Jint_bitCount_ok _ (by omega), cb1_s, if_neg (ne_m1 (by omega)), Mo_ones_ok hF (by omega), cb1_s, Mo_ones_ok hF (by omega), cb1_s]
      unfold Mo_shortestOf_b43 Mo_shortestOf_b65 Mo_shortestOf_b66
      by_cases hc : nI (pop b) ≤ nI (pop i)
      · rw [if_pos hc, if_pos hc, if_pos rfl, show nI i + 1 = nI (i + 1) from nI_1 _]
        exact ih (i + 1) f f2 _ _ (by omega) (by omega) (by omega) (Or.inr ⟨b, hb, rfl, rfl⟩)
      · rw [if_neg hc, if_neg hc, fb, cb1_s, if_neg (show ¬ (1 : Int32) = 0 by decide), Mo_fitsBy_ok hO hN hP hP6 hS hS6 hF (by omega), cb1_s, show nI i + 1 = nI (i + 1) from nI_1 _]
        by_cases hq : nI (fm T Tp Ts N P S i) = nI (fm T Tp Ts N P S 63)
        · rw [if_pos hq, if_pos hq]
          exact ih (i + 1) f f2 _ _ (by omega) (by omega) (by omega) (Or.inr ⟨i, hi1, rfl, rfl⟩)
        · rw [if_neg hq, if_neg hq]
          exact ih (i + 1) f f2 _ _ (by omega) (by omega) (by omega) (Or.inr ⟨b, hb, rfl, rfl⟩)
theorem shortest_v {T : Nat → Nat → Nat} {n : Nat → Nat} {t0s : Int32} {t0b : (Nat → Int32)} {t1s : Int32} {t1b : (Nat → Int32)} {t2s : Int32} {t2b : (Nat → Int32)} {st : Int32} {nz : Int32} {nf : Int32} {nod : (Nat → Int32)} {nln : (Nat → Int32)} {nlt : (Nat → Int32)} {nal : (Nat → Int32)} {nto : (Nat → Int32)} {pz : Int32} {pf : Int32} {pis : (Nat → Int32)} {pln : (Nat → Int32)} {plt : (Nat → Int32)} {sz : Int32} {sf : Int32} {slt : (Nat → Int32)} {fpc : Int32} {fsf : Int32} {faf : Int32} {ford : Int32} {fpf : (Nat → Int32)} {fio : (Nat → Int32)} (hT : TxC T n t0s t0b t1s t1b t2s t2b) (hD : DrC T n st nz nf nod nln nlt nal nto pz pf pis pln plt sz sf slt fpc fsf faf ford fpf fio) {F : Nat} (hF : 2000 ≤ F) {c : Nat} (hc : c ≤ 1) : ∃ r nz' nf' nod' nln' nlt' nal' nto' pz' pf' pis' pln' plt' sz' sf' slt' fpc' fsf' faf' ford' fpf' fio', ND_shortest F t0s t0b t1s t1b t2s t2b st nz nf nod nln nlt nal nto pz pf pis pln plt sz sf slt fpc fsf faf ford fpf fio (nI c) = some (r, 0, nz', nf', nod', nln', nlt', nal', nto', pz', pf', pis', pln', plt', sz', sf', slt', fpc', fsf', faf', ford', fpf', fio') ∧ DrC T n 0 nz' nf' nod' nln' nlt' nal' nto' pz' pf' pis' pln' plt' sz' sf' slt' fpc' fsf' faf' ford' fpf' fio' ∧ (∀ (rn : Int32) (rp : Int32) (rs : Int32) (rch : (Nat → Int32)) (rlo : (Nat → Int32)) (rle : (Nat → Int32)) (ris : (Nat → Int32)) (rpl : (Nat → Int32)) (rpt : (Nat → Int32)) (rso : (Nat → Int32)), RdOK T n rn rp rs rch rlo rle ris rpl rpt rso → Mo_shortestOf F rn rp rs rlo rle ris rpl rpt rso (nI c) = some r) := by
  obtain ⟨nz', nf', nod', nln', nlt', nal', nto', pz', pf', pis', pln', plt', sz', sf', slt', fpc', fsf', faf', ford', fpf', fio', e, g⟩ := ND_refresh_ok hT hD hF
  have g' := DrC_0 g
  have g6 := g.2.2.2.1
  have g7 := g.2.2.2.2.1
  have g8 := g.2.2.2.2.2.1
  have g9 := g.2.2.2.2.2.2.2
  have hP6 : nP T n ≤ 6 := pP_le
  have hp : 2 ^ (nP T n) ≤ 64 := p2_le (n := 6) hP6
  have hp0 : 0 < 2 ^ (nP T n) := Nat.two_pow_pos _
  have two : ND_isZeroOrOne (nI c) = some 1 := by
    rcases Nat.le_one_iff_eq_zero_or_eq_one.mp hc with rfl | rfl <;> rfl
  have al : ((1 : Int32) <<< (fpc' &&& 31)) - 1 = nI (2 ^ (nP T n) - 1) := by rw [g6]; exact allI (by omega)
  unfold ND_shortest Fi_fewestPieces
  rw [two, cb1_s, if_neg (show ¬ (1 : Int32) = 0 by decide), e, cb22_s, al]
  obtain ⟨ra', rn', rp', rs', rch', rlo', rle', ris', rpl', rpt', rso', _⟩ : ∃ (ra : Int32) (rn : Int32) (rp : Int32) (rs : Int32) (rch : (Nat → Int32)) (rlo : (Nat → Int32)) (rle : (Nat → Int32)) (ris : (Nat → Int32)) (rpl : (Nat → Int32)) (rpt : (Nat → Int32)) (rso : (Nat → Int32)), True := ⟨0, 0, 0, 0, fio', fio', fio', fio', fio', fio', fio', trivial⟩
  by_cases hex : ∃ b, b < 2 ^ (nP T n) ∧ Fi_fewestPieces_l13 F fpc' fsf' faf' fpf' F (nI (2 ^ (nP T n) - 1)) (nI (2 ^ (nP T n) - 1)) 0 = some (nI b) ∧ (∀ (rn : Int32) (rp : Int32) (rs : Int32) (rch : (Nat → Int32)) (rlo : (Nat → Int32)) (rle : (Nat → Int32)) (ris : (Nat → Int32)) (rpl : (Nat → Int32)) (rpt : (Nat → Int32)) (rso : (Nat → Int32)), RdOK T n rn rp rs rch rlo rle ris rpl rpt rso → Mo_shortestOf_l10 F rn rp rs rlo rle ris rpl rpt rso (nI c) F (nI (FM T n 63)) (-1) 0 = Mo_shortestOf_b73 F rn rp rs rlo rle ris rpl rpt rso (nI c) (nI b))
  · obtain ⟨b, hb, e1, e2⟩ := hex
    have hv : ∀ (rn : Int32) (rp : Int32) (rs : Int32) (rch : (Nat → Int32)) (rlo : (Nat → Int32)) (rle : (Nat → Int32)) (ris : (Nat → Int32)) (rpl : (Nat → Int32)) (rpt : (Nat → Int32)) (rso : (Nat → Int32)), RdOK T n rn rp rs rch rlo rle ris rpl rpt rso → Mo_shortestOf F rn rp rs rlo rle ris rpl rpt rso (nI c) = Mo_shortestOf_b73 F rn rp rs rlo rle ris rpl rpt rso (nI c) (nI b) := by
      intro rn rp rs rch rlo rle ris rpl rpt rso hR
      have := e2 _ _ _ _ _ _ _ _ _ _ hR
      obtain ⟨q1, q2, q3, q4, q5, q6⟩ := hR
      unfold Mo_shortestOf
      rw [← this, q1, q2, q3, Mo_fitsNow_ok q4 pN_le q5 pP_le q6 (pS_le (n2_le hT)) (show 100 ≤ F by omega), cb1_s]; rfl
    rw [e1, cb1_s]
    rcases Nat.le_one_iff_eq_zero_or_eq_one.mp hc with rfl | rfl
    · rw [if_pos (show nI 0 = 0 from rfl), Jint_bitCount_ok _ (by omega), cb1_s]
      refine ⟨_, _, _, _, _, _, _, _, _, _, _, _, _, _, _, _, _, _, _, _, _, _, rfl, g', ?_⟩
      intro rn rp rs rch rlo rle ris rpl rpt rso hR
      rw [hv _ _ _ _ _ _ _ _ _ _ hR]
      unfold Mo_shortestOf_b73
      rw [if_pos (show nI 0 = 0 from rfl), Mo_ones_ok (by omega) (by omega), cb1_s]
    · rw [if_neg (show ¬ nI 1 = 0 by decide)]
      refine ⟨_, _, _, _, _, _, _, _, _, _, _, _, _, _, _, _, _, _, _, _, _, _, rfl, g', ?_⟩
      intro rn rp rs rch rlo rle ris rpl rpt rso hR
      rw [hv _ _ _ _ _ _ _ _ _ _ hR]
      unfold Mo_shortestOf_b73
      rw [if_neg (show ¬ nI 1 = 0 by decide)]
  · exfalso
    have hO : NmOK (T 0) (nN T n) nod' nln' nlt' := g.1.2.2.1
    have hPc : PcOK (T 1) (nP T n) pis' pln' plt' := g.2.1.2.2
    have hSg : SgOK (T 2) (nS T n) slt' := g.2.2.1.2.2
    obtain ⟨b, hb, e1, _⟩ := short_loop hO pN_le hPc hP6 hSg (pS_le (n2_le hT)) (show 100 ≤ F by omega) g9 (nI c) (2 ^ (nP T n) - 1) 0 F F _ _ (by omega) (by omega) (by omega) (Or.inl ⟨rfl, rfl⟩)
    refine hex ⟨b, hb, ?_, ?_⟩
    · rw [g6, g7, g8]; exact e1
    · intro rn rp rs rch rlo rle ris rpl rpt rso hR
      obtain ⟨q1, q2, q3, q4, q5, q6⟩ := hR
      obtain ⟨b', hb', e1', e2'⟩ := short_loop q4 pN_le q5 hP6 q6 (pS_le (n2_le hT)) (show 100 ≤ F by omega) g9 (nI c) (2 ^ (nP T n) - 1) 0 F F _ _ (by omega) (by omega) (by omega) (Or.inl ⟨rfl, rfl⟩)
      have : nI b' = nI b := Option.some.inj (e1'.symm.trans e1)
      rw [q1, q2, q3, ← this]
      exact e2'
theorem shortest_ok {T : Nat → Nat → Nat} {n : Nat → Nat} {t0s : Int32} {t0b : (Nat → Int32)} {t1s : Int32} {t1b : (Nat → Int32)} {t2s : Int32} {t2b : (Nat → Int32)} {st : Int32} {nz : Int32} {nf : Int32} {nod : (Nat → Int32)} {nln : (Nat → Int32)} {nlt : (Nat → Int32)} {nal : (Nat → Int32)} {nto : (Nat → Int32)} {pz : Int32} {pf : Int32} {pis : (Nat → Int32)} {pln : (Nat → Int32)} {plt : (Nat → Int32)} {sz : Int32} {sf : Int32} {slt : (Nat → Int32)} {fpc : Int32} {fsf : Int32} {faf : Int32} {ford : Int32} {fpf : (Nat → Int32)} {fio : (Nat → Int32)} (hT : TxC T n t0s t0b t1s t1b t2s t2b) (hD : DrC T n st nz nf nod nln nlt nal nto pz pf pis pln plt sz sf slt fpc fsf faf ford fpf fio) {F : Nat} (hF : 2000 ≤ F) {bytes typed : Nat → Int32} (hM : TxR T n bytes typed) (ra : Int32) (rn : Int32) (rp : Int32) (rs : Int32) (rch : (Nat → Int32)) (rlo : (Nat → Int32)) (rle : (Nat → Int32)) (ris : (Nat → Int32)) (rpl : (Nat → Int32)) (rpt : (Nat → Int32)) (rso : (Nat → Int32)) (x1 : Int32) : ∃ r st' nz' nf' nod' nln' nlt' nal' nto' pz' pf' pis' pln' plt' sz' sf' slt' fpc' fsf' faf' ford' fpf' fio' ra' rn' rp' rs' rch' rlo' rle' ris' rpl' rpt' rso', ND_shortest F t0s t0b t1s t1b t2s t2b st nz nf nod nln nlt nal nto pz pf pis pln plt sz sf slt fpc fsf faf ford fpf fio x1 = some (r, st', nz', nf', nod', nln', nlt', nal', nto', pz', pf', pis', pln', plt', sz', sf', slt', fpc', fsf', faf', ford', fpf', fio') ∧ Mo_shortest F bytes typed ra rn rp rs rch rlo rle ris rpl rpt rso x1 = some (r, ra', rn', rp', rs', rch', rlo', rle', ris', rpl', rpt', rso') ∧ DrC T n st' nz' nf' nod' nln' nlt' nal' nto' pz' pf' pis' pln' plt' sz' sf' slt' fpc' fsf' faf' ford' fpf' fio' := by
  obtain ⟨ra', rn', rp', rs', rch', rlo', rle', ris', rpl', rpt', rso', f, hR⟩ := Mo_reads_ok hT hM hF ra rn rp rs rch rlo rle ris rpl rpt rso
  unfold Mo_shortest
  rw [f, cb11_s]
  rcases two_cases x1 with ⟨c, hc, rfl, e1, e1'⟩ | ⟨e1, e1'⟩
  · obtain ⟨r, nz', nf', nod', nln', nlt', nal', nto', pz', pf', pis', pln', plt', sz', sf', slt', fpc', fsf', faf', ford', fpf', fio', v, g, w⟩ := shortest_v hT hD hF hc
    rw [v, e1', cb1_s, if_neg (show ¬ (1 : Int32) = 0 by decide), w _ _ _ _ _ _ _ _ _ _ hR, cb1_s]
    exact ⟨_, _, _, _, _, _, _, _, _, _, _, _, _, _, _, _, _, _, _, _, _, _, _, _, _, _, _, _, _, _, _, _, _, _, rfl, rfl, g⟩
  · rw [e1', cb1_s, if_pos rfl]
    refine ⟨-2, st, nz, nf, nod, nln, nlt, nal, nto, pz, pf, pis, pln, plt, sz, sf, slt, fpc, fsf, faf, ford, fpf, fio, ra', rn', rp', rs', rch', rlo', rle', ris', rpl', rpt', rso', ?_, rfl, hD⟩
    unfold ND_shortest
    rw [e1, cb1_s, if_pos rfl]
