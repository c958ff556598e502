/-! values that the digest asks for -/
theorem fits_v {T : Nat → Nat → Nat} {n : Nat → Nat} {t0s : Int32} {t0b : (Nat → Int32)} {t1s : Int32} {t1b : (Nat → Int32)} {t2s : Int32} {t2b : (Nat → Int32)} {st : Int32} {nz : Int32} {nf : Int32} {nod : (Nat → Int32)} {nln : (Nat → Int32)} {nlt : (Nat → Int32)} {nal : (Nat → Int32)} {nto : (Nat → Int32)} {pz : Int32} {pf : Int32} {pis : (Nat → Int32)} {pln : (Nat → Int32)} {plt : (Nat → Int32)} {sz : Int32} {sf : Int32} {slt : (Nat → Int32)} {fpc : Int32} {fsf : Int32} {faf : Int32} {ford : Int32} {fpf : (Nat → Int32)} {fio : (Nat → Int32)} (hT : TxC T n t0s t0b t1s t1b t2s t2b) (hD : DrC T n st nz nf nod nln nlt nal nto pz pf pis pln plt sz sf slt fpc fsf faf ford fpf fio) {F : Nat} (hF : 2000 ≤ F) : ∃ nz' nf' nod' nln' nlt' nal' nto' pz' pf' pis' pln' plt' sz' sf' slt' fpc' fsf' faf' ford' fpf' fio', ND_fits F t0s t0b t1s t1b t2s t2b st nz nf nod nln nlt nal nto pz pf pis pln plt sz sf slt fpc fsf faf ford fpf fio = some (nI (FM T n 63), 0, nz', nf', nod', nln', nlt', nal', nto', pz', pf', pis', pln', plt', sz', sf', slt', fpc', fsf', faf', ford', fpf', fio') ∧ DrC T n 0 nz' nf' nod' nln' nlt' nal' nto' pz' pf' pis' pln' plt' sz' sf' slt' fpc' fsf' faf' ford' fpf' fio' := by
  obtain ⟨nz', nf', nod', nln', nlt', nal', nto', pz', pf', pis', pln', plt', sz', sf', slt', fpc', fsf', faf', ford', fpf', fio', e, g⟩ := ND_refresh_ok hT hD hF
  have g' := DrC_0 g
  have g8 : faf' = nI (FM T n 63) := g.2.2.2.2.2.1
  unfold ND_fits Fi_byAll
  rw [e, cb22_s, cb1_s, g8]
  rw [g8] at g'
  exact ⟨_, _, _, _, _, _, _, _, _, _, _, _, _, _, _, _, _, _, _, _, _, rfl, g'⟩
theorem fitsNow_v {T : Nat → Nat → Nat} {n : Nat → Nat} (hn2 : n 2 ≤ 6) {rn : Int32} {rp : Int32} {rs : Int32} {rch : (Nat → Int32)} {rlo : (Nat → Int32)} {rle : (Nat → Int32)} {ris : (Nat → Int32)} {rpl : (Nat → Int32)} {rpt : (Nat → Int32)} {rso : (Nat → Int32)} (hR : RdOK T n rn rp rs rch rlo rle ris rpl rpt rso) {F : Nat} (hF : 2000 ≤ F) : Mo_fitsNow F rn rp rs rlo rle ris rpl rpt rso = some (nI (FM T n 63)) := by
  obtain ⟨q1, q2, q3, q4, q5, q6⟩ := hR
  rw [q1, q2, q3, Mo_fitsNow_ok q4 pN_le q5 pP_le q6 (pS_le hn2) (show 100 ≤ F by omega)]; rfl
theorem fault_v {T : Nat → Nat → Nat} {n : Nat → Nat} {t0s : Int32} {t0b : (Nat → Int32)} {t1s : Int32} {t1b : (Nat → Int32)} {t2s : Int32} {t2b : (Nat → Int32)} {st : Int32} {nz : Int32} {nf : Int32} {nod : (Nat → Int32)} {nln : (Nat → Int32)} {nlt : (Nat → Int32)} {nal : (Nat → Int32)} {nto : (Nat → Int32)} {pz : Int32} {pf : Int32} {pis : (Nat → Int32)} {pln : (Nat → Int32)} {plt : (Nat → Int32)} {sz : Int32} {sf : Int32} {slt : (Nat → Int32)} {fpc : Int32} {fsf : Int32} {faf : Int32} {ford : Int32} {fpf : (Nat → Int32)} {fio : (Nat → Int32)} (hT : TxC T n t0s t0b t1s t1b t2s t2b) (hD : DrC T n st nz nf nod nln nlt nal nto pz pf pis pln plt sz sf slt fpc fsf faf ford fpf fio) {F : Nat} (hF : 2000 ≤ F) {bytes typed : Nat → Int32} (hM : TxR T n bytes typed) (ra : Int32) (rn : Int32) (rp : Int32) (rs : Int32) (rch : (Nat → Int32)) (rlo : (Nat → Int32)) (rle : (Nat → Int32)) (ris : (Nat → Int32)) (rpl : (Nat → Int32)) (rpt : (Nat → Int32)) (rso : (Nat → Int32)) {k : Nat} (hk : k < 3) : ∃ r nz' nf' nod' nln' nlt' nal' nto' pz' pf' pis' pln' plt' sz' sf' slt' fpc' fsf' faf' ford' fpf' fio' ra' rn' rp' rs' rch' rlo' rle' ris' rpl' rpt' rso', ND_fault F t0s t0b t1s t1b t2s t2b st nz nf nod nln nlt nal nto pz pf pis pln plt sz sf slt fpc fsf faf ford fpf fio (nI k) = some (r, 0, nz', nf', nod', nln', nlt', nal', nto', pz', pf', pis', pln', plt', sz', sf', slt', fpc', fsf', faf', ford', fpf', fio') ∧ DrC T n 0 nz' nf' nod' nln' nlt' nal' nto' pz' pf' pis' pln' plt' sz' sf' slt' fpc' fsf' faf' ford' fpf' fio' ∧ Mo_fault F bytes typed ra rn rp rs rch rlo rle ris rpl rpt rso (nI k) = some (r, ra', rn', rp', rs', rch', rlo', rle', ris', rpl', rpt', rso') ∧ (RdOK T n rn rp rs rch rlo rle ris rpl rpt rso → RdOK T n rn' rp' rs' rch' rlo' rle' ris' rpl' rpt' rso') := by
  obtain ⟨nz', nf', nod', nln', nlt', nal', nto', pz', pf', pis', pln', plt', sz', sf', slt', fpc', fsf', faf', ford', fpf', fio', e, g⟩ := ND_refresh_ok hT hD hF
  have g' := DrC_0 g
  obtain ⟨a0, a1, a2, a3, a4, a5⟩ := hT
  unfold ND_fault Mo_fault
  rw [(isText_k k hk).1, (isText_k k hk).2, cb1_s, cb1_s, if_neg (show ¬ (1 : Int32) = 0 by decide), if_neg (show ¬ (1 : Int32) = 0 by decide), e]
  rcases (show k = 0 ∨ k = 1 ∨ k = 2 by omega) with rfl | rfl | rfl
  · obtain ⟨y1, ch', lo', le', f1, g1⟩ := Mo_names_ok a1 (hM 0 (by omega)) (show 100 ≤ F by omega) ra rn rch rlo rle
    have g1' : NmOK (T 0) (pN (T 0) (n 0)).2 ch' lo' le' := by
      by_cases hf : (pN (T 0) (n 0)).1 = 1000
      · exact g1 hf
      · rw [pN_0 hf]; exact fun i hi => absurd hi (Nat.not_lt_zero i)
    rw [if_pos (show nI 0 = 0 from rfl), f1, cb6_s, ← g.1.2.1]
    exact ⟨_, _, _, _, _, _, _, _, _, _, _, _, _, _, _, _, _, _, _, _, _, _, _, _, _, _, _, _, _, _, _, _, _, rfl, g', rfl, fun h => ⟨rfl, h.2.1, h.2.2.1, g1', h.2.2.2.2.1, h.2.2.2.2.2⟩⟩
  · obtain ⟨y1, ch', lo', le', f1, g2⟩ := Mo_pieces_ok a3 (hM 1 (by omega)) (show 100 ≤ F by omega) ra rp ris rpl rpt
    rw [if_neg (show ¬ nI 1 = 0 by decide), if_pos (show nI 1 = 1 from rfl), f1, cb6_s, ← g.2.1.2.1]
    exact ⟨_, _, _, _, _, _, _, _, _, _, _, _, _, _, _, _, _, _, _, _, _, _, _, _, _, _, _, _, _, _, _, _, _, rfl, g', rfl, fun h => ⟨h.1, rfl, h.2.2.1, h.2.2.2.1, g2, h.2.2.2.2.2⟩⟩
  · obtain ⟨y1, so', f1, g3⟩ := Mo_song_ok a5 a5.1 (hM 2 (by omega)) (show 100 ≤ F by omega) ra rs rso
    rw [if_neg (show ¬ nI 2 = 0 by decide), if_neg (show ¬ nI 2 = 1 by decide), f1, cb4_s, ← g.2.2.1.2.1]
    exact ⟨_, _, _, _, _, _, _, _, _, _, _, _, _, _, _, _, _, _, _, _, _, _, _, _, _, _, _, _, _, _, _, _, _, rfl, g', rfl, fun h => ⟨h.1, h.2.1, rfl, h.2.2.2.1, h.2.2.2.2.1, g3⟩⟩
theorem count_rd {T : Nat → Nat → Nat} {n : Nat → Nat} {t0s : Int32} {t0b : (Nat → Int32)} {t1s : Int32} {t1b : (Nat → Int32)} {t2s : Int32} {t2b : (Nat → Int32)} (hT : TxC T n t0s t0b t1s t1b t2s t2b) {F : Nat} (hF : 2000 ≤ F) {bytes typed : Nat → Int32} (hM : TxR T n bytes typed) {fd rgs r : Int32} {ra : Int32} {rn : Int32} {rp : Int32} {rs : Int32} {rch : (Nat → Int32)} {rlo : (Nat → Int32)} {rle : (Nat → Int32)} {ris : (Nat → Int32)} {rpl : (Nat → Int32)} {rpt : (Nat → Int32)} {rso : (Nat → Int32)} {ra' rn' rp' rs' : Int32} {rch' rlo' rle' ris' rpl' rpt' rso' : Nat → Int32} (h : Mo_count F fd rgs bytes typed ra rn rp rs rch rlo rle ris rpl rpt rso (nI 7) = some (r, ra', rn', rp', rs', rch', rlo', rle', ris', rpl', rpt', rso')) : RdOK T n rn' rp' rs' rch' rlo' rle' ris' rpl' rpt' rso' := by
  obtain ⟨ra2, rn2, rp2, rs2, rch2, rlo2, rle2, ris2, rpl2, rpt2, rso2, f, hR⟩ := Mo_reads_ok hT hM hF ra rn rp rs rch rlo rle ris rpl rpt rso
  unfold Mo_count at h
  rw [f, cb11_s, if_neg (by decide), if_neg (by decide), if_neg (by decide), if_neg (by decide), if_neg (by decide), if_neg (by decide), if_neg (by decide), if_pos (show nI 7 = 7 from rfl)] at h
  obtain ⟨a, _, h2⟩ := cb1_some h
  obtain ⟨b, _, h4⟩ := cb1_some h2
  have h5 := Option.some.inj h4
  simp only [Prod.mk.injEq] at h5
  obtain ⟨_, _, z1, z2, z3, z4, z5, z6, z7, z8, z9, z10⟩ := h5
  rw [← z1, ← z2, ← z3, ← z4, ← z5, ← z6, ← z7, ← z8, ← z9, ← z10]
  exact hR
theorem name_v {T : Nat → Nat → Nat} {n : Nat → Nat} {t0s : Int32} {t0b : (Nat → Int32)} {t1s : Int32} {t1b : (Nat → Int32)} {t2s : Int32} {t2b : (Nat → Int32)} {st : Int32} {nz : Int32} {nf : Int32} {nod : (Nat → Int32)} {nln : (Nat → Int32)} {nlt : (Nat → Int32)} {nal : (Nat → Int32)} {nto : (Nat → Int32)} {pz : Int32} {pf : Int32} {pis : (Nat → Int32)} {pln : (Nat → Int32)} {plt : (Nat → Int32)} {sz : Int32} {sf : Int32} {slt : (Nat → Int32)} {fpc : Int32} {fsf : Int32} {faf : Int32} {ford : Int32} {fpf : (Nat → Int32)} {fio : (Nat → Int32)} (hT : TxC T n t0s t0b t1s t1b t2s t2b) (hD : DrC T n st nz nf nod nln nlt nal nto pz pf pis pln plt sz sf slt fpc fsf faf ford fpf fio) {F : Nat} (hF : 2000 ≤ F) {k : Nat} (hk : k < nN T n) (x2 : Int32) (hx : x2 = -2 ∨ x2 = -1 ∨ x2 = 0) : ∃ r nz' nf' nod' nln' nlt' nal' nto' pz' pf' pis' pln' plt' sz' sf' slt' fpc' fsf' faf' ford' fpf' fio', ND_name F t0s t0b t1s t1b t2s t2b st nz nf nod nln nlt nal nto pz pf pis pln plt sz sf slt fpc fsf faf ford fpf fio (nI k) x2 = some (r, 0, nz', nf', nod', nln', nlt', nal', nto', pz', pf', pis', pln', plt', sz', sf', slt', fpc', fsf', faf', ford', fpf', fio') ∧ DrC T n 0 nz' nf' nod' nln' nlt' nal' nto' pz' pf' pis' pln' plt' sz' sf' slt' fpc' fsf' faf' ford' fpf' fio' ∧ (∀ (rn : Int32) (rp : Int32) (rs : Int32) (rch : (Nat → Int32)) (rlo : (Nat → Int32)) (rle : (Nat → Int32)) (ris : (Nat → Int32)) (rpl : (Nat → Int32)) (rpt : (Nat → Int32)) (rso : (Nat → Int32)), RdOK T n rn rp rs rch rlo rle ris rpl rpt rso → Mo_nameOf rch rlo rle (nI k) x2 = some r) := by
  obtain ⟨nz', nf', nod', nln', nlt', nal', nto', pz', pf', pis', pln', plt', sz', sf', slt', fpc', fsf', faf', ford', fpf', fio', e, g⟩ := ND_refresh_ok hT hD hF
  have g' := DrC_0 g
  have hN10 : nN T n ≤ 10 := pN_le
  have hz : nz' = nI (nN T n) := g.1.1
  have hO : NmOK (T 0) (nN T n) nod' nln' nlt' := g.1.2.2.1
  have hL := Ln_le (T 0) k
  have hp := (hO k hk).2.1
  have e1 : Na_has (nI (nN T n)) (nI k) = some 1 := by
    unfold Na_has
    rw [if_neg (nI_pos (by omega)), if_neg (show ¬ nI (nN T n) ≤ nI k by rw [leN (by omega) (by omega)]; omega)]
  unfold ND_name Mo_nameOf
  rw [e, cb22_s, hz, e1, cb1_s, if_neg (show ¬ (1 : Int32) = 0 by decide)]
  rw [hz] at g'
  rcases hx with rfl | rfl | rfl
  · rw [if_neg (show ¬ (-2 : Int32) < -2 by decide), if_pos (show (-2 : Int32) < 6 by decide), if_pos rfl, Na_lengthOf_ok hO hN10 hk, cb1_s]
    refine ⟨_, _, _, _, _, _, _, _, _, _, _, _, _, _, _, _, _, _, _, _, _, _, rfl, g', ?_⟩
    intro rn rp rs rch rlo rle ris rpl rpt rso hR
    rw [if_neg (show ¬ (-2 : Int32) = -1 by decide), if_pos rfl, rdN (by omega) (by omega), (hR.2.2.2.1 k hk).2.2.2.1]
  · rw [if_neg (show ¬ (-1 : Int32) < -2 by decide), if_pos (show (-1 : Int32) < 6 by decide), if_neg (show ¬ (-1 : Int32) = -2 by decide), if_pos rfl, Na_oddsOf_ok hO hN10 hk, cb1_s]
    refine ⟨_, _, _, _, _, _, _, _, _, _, _, _, _, _, _, _, _, _, _, _, _, _, rfl, g', ?_⟩
    intro rn rp rs rch rlo rle ris rpl rpt rso hR
    rw [if_pos rfl, rdN (by omega) (by omega), (hR.2.2.2.1 k hk).2.2.1]
  · rw [if_neg (show ¬ (0 : Int32) < -2 by decide), if_pos (show (0 : Int32) < 6 by decide), if_neg (show ¬ (0 : Int32) = -2 by decide), if_neg (show ¬ (0 : Int32) = -1 by decide), show (0 : Int32) = nI 0 from rfl, Na_letterAt_ok hO hN10 hk (by omega), cb1_s, if_pos hp]
    refine ⟨_, _, _, _, _, _, _, _, _, _, _, _, _, _, _, _, _, _, _, _, _, _, rfl, g', ?_⟩
    intro rn rp rs rch rlo rle ris rpl rpt rso hR
    rw [if_neg (show ¬ nI 0 = -1 by decide), if_neg (show ¬ nI 0 = -2 by decide), rdN (by omega) (by omega), (hR.2.2.2.1 k hk).2.2.2.1, if_neg (show ¬ nI (Ln (T 0) k) ≤ nI 0 by rw [leN (by omega) (by omega)]; omega), n6, mulN, nI_add, rdN (by omega) (by omega), (hR.2.2.2.1 k hk).2.2.2.2 0 hp]
theorem chance_v {T : Nat → Nat → Nat} {n : Nat → Nat} {t0s : Int32} {t0b : (Nat → Int32)} {t1s : Int32} {t1b : (Nat → Int32)} {t2s : Int32} {t2b : (Nat → Int32)} {st : Int32} {nz : Int32} {nf : Int32} {nod : (Nat → Int32)} {nln : (Nat → Int32)} {nlt : (Nat → Int32)} {nal : (Nat → Int32)} {nto : (Nat → Int32)} {pz : Int32} {pf : Int32} {pis : (Nat → Int32)} {pln : (Nat → Int32)} {plt : (Nat → Int32)} {sz : Int32} {sf : Int32} {slt : (Nat → Int32)} {fpc : Int32} {fsf : Int32} {faf : Int32} {ford : Int32} {fpf : (Nat → Int32)} {fio : (Nat → Int32)} (hT : TxC T n t0s t0b t1s t1b t2s t2b) (hD : DrC T n st nz nf nod nln nlt nal nto pz pf pis pln plt sz sf slt fpc fsf faf ford fpf fio) {F : Nat} (hF : 2000 ≤ F) {k b : Nat} (hk : k < nN T n) (hb : b ≤ 1) : ∃ r nz' nf' nod' nln' nlt' nal' nto' pz' pf' pis' pln' plt' sz' sf' slt' fpc' fsf' faf' ford' fpf' fio', ND_chance F t0s t0b t1s t1b t2s t2b st nz nf nod nln nlt nal nto pz pf pis pln plt sz sf slt fpc fsf faf ford fpf fio (nI k) (nI b) = some (r, 0, nz', nf', nod', nln', nlt', nal', nto', pz', pf', pis', pln', plt', sz', sf', slt', fpc', fsf', faf', ford', fpf', fio') ∧ DrC T n 0 nz' nf' nod' nln' nlt' nal' nto' pz' pf' pis' pln' plt' sz' sf' slt' fpc' fsf' faf' ford' fpf' fio' ∧ (∀ (rn : Int32) (rp : Int32) (rs : Int32) (rch : (Nat → Int32)) (rlo : (Nat → Int32)) (rle : (Nat → Int32)) (ris : (Nat → Int32)) (rpl : (Nat → Int32)) (rpt : (Nat → Int32)) (rso : (Nat → Int32)), RdOK T n rn rp rs rch rlo rle ris rpl rpt rso → Mo_chanceOf F rn rp rs rch rlo rle ris rpl rpt rso (nI k) (nI b) = some r) := by
  obtain ⟨nz', nf', nod', nln', nlt', nal', nto', pz', pf', pis', pln', plt', sz', sf', slt', fpc', fsf', faf', ford', fpf', fio', e, g⟩ := ND_refresh_ok hT hD hF
  have g' := DrC_0 g
  obtain ⟨⟨g1, _, g3, g4, g5⟩, _, _, _, _, g8, _⟩ := g
  have hN10 : nN T n ≤ 10 := pN_le
  have h210 := p2_10 hN10
  have hz : nz' = nI (nN T n) := g1
  have hO : NmOK (T 0) (nN T n) nod' nln' nlt' := g3
  have hW : OtOK (T 0) (2 ^ (nN T n)) nto' := g5
  have hA : faf' = nI (FM T n 63) := g8
  have hl : FM T n 63 < 2 ^ (nN T n) := fm_lt _ _ _ _ _ _ _
  have e1 : Na_has (nI (nN T n)) (nI k) = some 1 := by
    unfold Na_has
    rw [if_neg (nI_pos (by omega)), if_neg (show ¬ nI (nN T n) ≤ nI k by rw [leN (by omega) (by omega)]; omega)]
  have two : ND_isZeroOrOne (nI b) = some 1 := by
    rcases Nat.le_one_iff_eq_zero_or_eq_one.mp hb with rfl | rfl <;> rfl
  unfold ND_chance
  rw [e, cb22_s, hz, e1, cb1_s, if_neg (show ¬ (1 : Int32) = 0 by decide), two, cb1_s, if_neg (show ¬ (1 : Int32) = 0 by decide)]
  unfold Fi_byAll ND_asLong
  rw [cb1_s, hA]
  rw [hz, hA] at g'
  by_cases hz0 : FM T n 63 = 0
  · rw [if_pos (show nI (FM T n 63) = 0 from congrArg nI hz0), cb1_s]
    refine ⟨_, _, _, _, _, _, _, _, _, _, _, _, _, _, _, _, _, _, _, _, _, _, rfl, g', ?_⟩
    intro rn rp rs rch rlo rle ris rpl rpt rso hR
    unfold Mo_chanceOf Mo_no
    rw [fitsNow_v (n2_le hT) hR hF, cb1_s, if_pos (show nI (FM T n 63) = 0 from congrArg nI hz0), cb1_s]
  · have hz1 : ¬ nI (FM T n 63) = 0 := fun hq => hz0 ((nI_eq (b := 0) (by omega) (by omega)).mp hq)
    obtain ⟨w1, w2⟩ := wt_pos hO hN10 hl hz0
    have hk9 := (Od_le hO hk).2
    rw [if_neg hz1, sh1 k (by omega)]
    unfold ND_chance_b66
    rw [Na_oddsOf_ok hO hN10 hk, Na_oddsOfAll_ok hW hN10 hl]
    simp only [cb1_s]
    cases hbit : (FM T n 63).testBit k with
    | true =>
      obtain ⟨q, hq, t1, t2⟩ := term_ok hF (show Od (T 0) k < 2147483648 by omega) (show wt (Od (T 0)) (FM T n 63) 10 < 100 by omega) w1 (nI b)
      rw [if_neg (show ¬ nI (FM T n 63) &&& nI (2 ^ k) = 0 by rw [bBit (by omega), hbit]; decide), t1]
      simp only [cb1_s]
      refine ⟨_, _, _, _, _, _, _, _, _, _, _, _, _, _, _, _, _, _, _, _, _, _, rfl, g', ?_⟩
      intro rn rp rs rch rlo rle ris rpl rpt rso hR
      unfold Mo_chanceOf Mo_chanceOf_b36
      rw [fitsNow_v (n2_le hT) hR hF, cb1_s, if_neg hz1, Mo_isIn_ok (by omega) (by omega), cb1_s, hbit, if_neg (by decide), rdN (by omega) (by omega), (hR.2.2.2.1 k hk).2.2.1, hR.1, Mo_weight_ok hR.2.2.2.1 hN10 (by omega) hl, cb1_s, tL (by omega), tL (show wt (Od (T 0)) (FM T n 63) 10 < 2147483648 by omega), t2, cb1_s, tL hq]
    | false =>
      obtain ⟨q, hq, t1, t2⟩ := term_ok hF (show 0 < 2147483648 by omega) (show wt (Od (T 0)) (FM T n 63) 10 < 100 by omega) w1 (nI b)
      rw [if_pos (show nI (FM T n 63) &&& nI (2 ^ k) = 0 by rw [bBit (by omega), hbit]), show (0 : Int32) = nI 0 from rfl, t1]
      simp only [cb1_s]
      refine ⟨_, _, _, _, _, _, _, _, _, _, _, _, _, _, _, _, _, _, _, _, _, _, rfl, g', ?_⟩
      intro rn rp rs rch rlo rle ris rpl rpt rso hR
      unfold Mo_chanceOf Mo_chanceOf_b36
      rw [fitsNow_v (n2_le hT) hR hF, cb1_s, if_neg hz1, Mo_isIn_ok (by omega) (by omega), cb1_s, hbit, if_pos (by decide), hR.1, Mo_weight_ok hR.2.2.2.1 hN10 (by omega) hl, cb1_s, show (0 : Int64) = lI 0 from rfl, tL (show wt (Od (T 0)) (FM T n 63) 10 < 2147483648 by omega), t2, cb1_s, tL hq]
theorem off_v {T : Nat → Nat → Nat} {n : Nat → Nat} {t0s : Int32} {t0b : (Nat → Int32)} {t1s : Int32} {t1b : (Nat → Int32)} {t2s : Int32} {t2b : (Nat → Int32)} {st : Int32} {nz : Int32} {nf : Int32} {nod : (Nat → Int32)} {nln : (Nat → Int32)} {nlt : (Nat → Int32)} {nal : (Nat → Int32)} {nto : (Nat → Int32)} {pz : Int32} {pf : Int32} {pis : (Nat → Int32)} {pln : (Nat → Int32)} {plt : (Nat → Int32)} {sz : Int32} {sf : Int32} {slt : (Nat → Int32)} {fpc : Int32} {fsf : Int32} {faf : Int32} {ford : Int32} {fpf : (Nat → Int32)} {fio : (Nat → Int32)} (hT : TxC T n t0s t0b t1s t1b t2s t2b) (hD : DrC T n st nz nf nod nln nlt nal nto pz pf pis pln plt sz sf slt fpc fsf faf ford fpf fio) {F : Nat} (hF : 2000 ≤ F) {k : Nat} (hk : k < nN T n) : ∃ r nz' nf' nod' nln' nlt' nal' nto' pz' pf' pis' pln' plt' sz' sf' slt' fpc' fsf' faf' ford' fpf' fio', ND_off F t0s t0b t1s t1b t2s t2b st nz nf nod nln nlt nal nto pz pf pis pln plt sz sf slt fpc fsf faf ford fpf fio (nI k) = some (r, 0, nz', nf', nod', nln', nlt', nal', nto', pz', pf', pis', pln', plt', sz', sf', slt', fpc', fsf', faf', ford', fpf', fio') ∧ DrC T n 0 nz' nf' nod' nln' nlt' nal' nto' pz' pf' pis' pln' plt' sz' sf' slt' fpc' fsf' faf' ford' fpf' fio' ∧ (∀ (rn : Int32) (rp : Int32) (rs : Int32) (rch : (Nat → Int32)) (rlo : (Nat → Int32)) (rle : (Nat → Int32)) (ris : (Nat → Int32)) (rpl : (Nat → Int32)) (rpt : (Nat → Int32)) (rso : (Nat → Int32)), RdOK T n rn rp rs rch rlo rle ris rpl rpt rso → Mo_offOf F rn rlo rle (nI k) = some r) := by
  obtain ⟨nz', nf', nod', nln', nlt', nal', nto', pz', pf', pis', pln', plt', sz', sf', slt', fpc', fsf', faf', ford', fpf', fio', e, g⟩ := ND_refresh_ok hT hD hF
  have g' := DrC_0 g
  have hN10 : nN T n ≤ 10 := pN_le
  have hz : nz' = nI (nN T n) := g.1.1
  have hO : NmOK (T 0) (nN T n) nod' nln' nlt' := g.1.2.2.1
  have hG : GrOK (T 0) (nN T n) 6 nal' := g.1.2.2.2.1
  have e1 : Na_has (nI (nN T n)) (nI k) = some 1 := by
    unfold Na_has
    rw [if_neg (nI_pos (by omega)), if_neg (show ¬ nI (nN T n) ≤ nI k by rw [leN (by omega) (by omega)]; omega)]
  unfold ND_off
  rw [e, cb22_s, hz, e1, cb1_s, if_neg (show ¬ (1 : Int32) = 0 by decide), Na_oneLetter_ok hO hN10 hG (by omega) hk, cb1_s]
  rw [hz] at g'
  refine ⟨_, _, _, _, _, _, _, _, _, _, _, _, _, _, _, _, _, _, _, _, _, _, rfl, g', ?_⟩
  intro rn rp rs rch rlo rle ris rpl rpt rso hR
  rw [hR.1, Mo_offOf_ok hR.2.2.2.1 hN10 (by omega) hk]
theorem named_v {T : Nat → Nat → Nat} {n : Nat → Nat} {t0s : Int32} {t0b : (Nat → Int32)} {t1s : Int32} {t1b : (Nat → Int32)} {t2s : Int32} {t2b : (Nat → Int32)} {st : Int32} {nz : Int32} {nf : Int32} {nod : (Nat → Int32)} {nln : (Nat → Int32)} {nlt : (Nat → Int32)} {nal : (Nat → Int32)} {nto : (Nat → Int32)} {pz : Int32} {pf : Int32} {pis : (Nat → Int32)} {pln : (Nat → Int32)} {plt : (Nat → Int32)} {sz : Int32} {sf : Int32} {slt : (Nat → Int32)} {fpc : Int32} {fsf : Int32} {faf : Int32} {ford : Int32} {fpf : (Nat → Int32)} {fio : (Nat → Int32)} (hT : TxC T n t0s t0b t1s t1b t2s t2b) (hD : DrC T n st nz nf nod nln nlt nal nto pz pf pis pln plt sz sf slt fpc fsf faf ford fpf fio) {F : Nat} (hF : 2000 ≤ F) {tm : Nat → Nat} {dt se : Nat → Int32} (hC : TmC tm dt) (hS : TmC tm se) (hTm : TmOK tm) {m : Nat} {g0 : Nat → Nat} {gs : Int32} {gl : Nat → Int32} {rgs : Int32} {rl : Nat → Int32} (hG1 : GuOK m g0 gs gl) (hG2 : GuOK m g0 rgs rl) {k b : Nat} (hk : k < nN T n) (hb : b ≤ 1) : ∃ r nz' nf' nod' nln' nlt' nal' nto' pz' pf' pis' pln' plt' sz' sf' slt' fpc' fsf' faf' ford' fpf' fio', ND_named F t0s t0b t1s t1b t2s t2b dt gs gl st nz nf nod nln nlt nal nto pz pf pis pln plt sz sf slt fpc fsf faf ford fpf fio (nI k) (nI b) = some (r, 0, nz', nf', nod', nln', nlt', nal', nto', pz', pf', pis', pln', plt', sz', sf', slt', fpc', fsf', faf', ford', fpf', fio') ∧ DrC T n 0 nz' nf' nod' nln' nlt' nal' nto' pz' pf' pis' pln' plt' sz' sf' slt' fpc' fsf' faf' ford' fpf' fio' ∧ Mo_namedOf F rgs se rl (nI k) (nI b) = some r := by
  obtain ⟨nz', nf', nod', nln', nlt', nal', nto', pz', pf', pis', pln', plt', sz', sf', slt', fpc', fsf', faf', ford', fpf', fio', e, g⟩ := ND_refresh_ok hT hD hF
  have g' := DrC_0 g
  have hN10 : nN T n ≤ 10 := pN_le
  have hz : nz' = nI (nN T n) := g.1.1
  have hbb := TmB hTm
  have h2 : tm 2 * tm 4 ≤ 12 * 3 := Nat.mul_le_mul (by omega) (by omega)
  have hm12 := hG1.1
  have e1 : Na_has (nI (nN T n)) (nI k) = some 1 := by
    unfold Na_has
    rw [if_neg (nI_pos (by omega)), if_neg (show ¬ nI (nN T n) ≤ nI k by rw [leN (by omega) (by omega)]; omega)]
  have two : ND_isZeroOrOne (nI b) = some 1 := by
    rcases Nat.le_one_iff_eq_zero_or_eq_one.mp hb with rfl | rfl <;> rfl
  unfold ND_named
  rw [e, cb22_s, hz, e1, cb1_s, if_neg (show ¬ (1 : Int32) = 0 by decide), two, cb1_s, if_neg (show ¬ (1 : Int32) = 0 by decide), De_turns_ok hC, cb1_s]
  rw [hz] at g'
  unfold Gu_firstTurnOf Mo_namedOf
  have hgs : gs = nI m := hG1.2.2.1
  rw [hgs, mnI_ok (by omega) (by omega), ← hgs]
  have hh := first_loop hG1 hG2 hS hTm F (nI k) (nI b) (nI (tm 2 * tm 4)) 0 (min m (tm 2 * tm 4)) 0 F F (by omega) (by omega) (by omega)
  rcases hh with ⟨t, ht, s1, s2⟩ | ⟨s1, s2⟩
  · have s1' : Gu_firstTurnOf_l12 F gs gl (nI k) (nI (tm 2 * tm 4)) F (nI (min m (tm 2 * tm 4))) 0 = some (nI t) := s1
    have s2' : Mo_namedOf_l2 F rgs se rl (nI k) (nI b) F 0 = Mo_namedOf_b37 F rgs se rl (nI k) (nI b) (nI t) := s2
    have h3 := paid_bd hTm ht
    rw [s1', s2', cb1_s]
    unfold Gu_size
    rcases Nat.le_one_iff_eq_zero_or_eq_one.mp hb with rfl | rfl
    · rw [if_neg (show ¬ nI 0 = 1 by decide), if_neg (ne_m1 (by omega)), De_nightOf_ok hC hTm (by omega), cb1_s, (b37_0 hS hTm F _ _ _ ht).1]
      exact ⟨_, _, _, _, _, _, _, _, _, _, _, _, _, _, _, _, _, _, _, _, _, _, rfl, g', rfl⟩
    · rw [if_pos (show nI 1 = 1 from rfl), cb1_s, De_paid_at hC hTm ht, cb1_s, (b37_0 hS hTm F _ _ _ ht).2]
      exact ⟨_, _, _, _, _, _, _, _, _, _, _, _, _, _, _, _, _, _, _, _, _, _, rfl, g', rfl⟩
  · have s1' : Gu_firstTurnOf_l12 F gs gl (nI k) (nI (tm 2 * tm 4)) F (nI (min m (tm 2 * tm 4))) 0 = some (-1) := s1
    have s2' : Mo_namedOf_l2 F rgs se rl (nI k) (nI b) F 0 = Mo_namedOf_b81 F rgs se rl (nI k) (nI b) (nI (min m (tm 2 * tm 4))) := s2
    rw [s1', s2', cb1_s]
    unfold Gu_size
    rcases Nat.le_one_iff_eq_zero_or_eq_one.mp hb with rfl | rfl
    · rw [if_neg (show ¬ nI 0 = 1 by decide), if_pos rfl, (b81_0 hS hTm F _ _ _).1]
      exact ⟨_, _, _, _, _, _, _, _, _, _, _, _, _, _, _, _, _, _, _, _, _, _, rfl, g', rfl⟩
    · rw [if_pos (show nI 1 = 1 from rfl), cb1_s, hgs]
      unfold De_paidAt
      rw [if_pos (show (-1 : Int32) < 0 by decide), De_paid_un hC hTm (by omega), cb1_s, (b81_0 hS hTm F _ _ _).2]
      exact ⟨_, _, _, _, _, _, _, _, _, _, _, _, _, _, _, _, _, _, _, _, _, _, rfl, g', rfl⟩
theorem heard_v {T : Nat → Nat → Nat} {n : Nat → Nat} {t0s : Int32} {t0b : (Nat → Int32)} {t1s : Int32} {t1b : (Nat → Int32)} {t2s : Int32} {t2b : (Nat → Int32)} {st : Int32} {nz : Int32} {nf : Int32} {nod : (Nat → Int32)} {nln : (Nat → Int32)} {nlt : (Nat → Int32)} {nal : (Nat → Int32)} {nto : (Nat → Int32)} {pz : Int32} {pf : Int32} {pis : (Nat → Int32)} {pln : (Nat → Int32)} {plt : (Nat → Int32)} {sz : Int32} {sf : Int32} {slt : (Nat → Int32)} {fpc : Int32} {fsf : Int32} {faf : Int32} {ford : Int32} {fpf : (Nat → Int32)} {fio : (Nat → Int32)} (hT : TxC T n t0s t0b t1s t1b t2s t2b) (hD : DrC T n st nz nf nod nln nlt nal nto pz pf pis pln plt sz sf slt fpc fsf faf ford fpf fio) {F : Nat} (hF : 2000 ≤ F) {q : Nat} (hq : q < nP T n) : ∃ r nz' nf' nod' nln' nlt' nal' nto' pz' pf' pis' pln' plt' sz' sf' slt' fpc' fsf' faf' ford' fpf' fio', ND_heard F t0s t0b t1s t1b t2s t2b st nz nf nod nln nlt nal nto pz pf pis pln plt sz sf slt fpc fsf faf ford fpf fio (nI q) = some (r, 0, nz', nf', nod', nln', nlt', nal', nto', pz', pf', pis', pln', plt', sz', sf', slt', fpc', fsf', faf', ford', fpf', fio') ∧ DrC T n 0 nz' nf' nod' nln' nlt' nal' nto' pz' pf' pis' pln' plt' sz' sf' slt' fpc' fsf' faf' ford' fpf' fio' ∧ (∀ (rn : Int32) (rp : Int32) (rs : Int32) (rch : (Nat → Int32)) (rlo : (Nat → Int32)) (rle : (Nat → Int32)) (ris : (Nat → Int32)) (rpl : (Nat → Int32)) (rpt : (Nat → Int32)) (rso : (Nat → Int32)), RdOK T n rn rp rs rch rlo rle ris rpl rpt rso → Mo_heardOf F rn rlo rle ris rpl rpt (nI q) = some r) := by
  obtain ⟨nz', nf', nod', nln', nlt', nal', nto', pz', pf', pis', pln', plt', sz', sf', slt', fpc', fsf', faf', ford', fpf', fio', e, g⟩ := ND_refresh_ok hT hD hF
  have g' := DrC_0 g
  obtain ⟨g1, ⟨g2, g3, g4⟩, g5, g6, g7, g8, g9, g10⟩ := g
  have hP6 : nP T n ≤ 6 := pP_le
  have hN10 : nN T n ≤ 10 := pN_le
  have e1 : Pi_has (nI (nP T n)) (nI q) = some 1 := by
    unfold Pi_has
    rw [if_neg (nI_pos (by omega)), if_neg (show ¬ nI (nP T n) ≤ nI q by rw [leN (by omega) (by omega)]; omega)]
  unfold ND_heard Fi_byPiece
  rw [e, cb22_s, g2, g6, e1, cb1_s, if_neg (show ¬ (1 : Int32) = 0 by decide), if_neg (nI_pos (by omega)), if_neg (show ¬ nI (nP T n) ≤ nI q by rw [leN (by omega) (by omega)]; omega), rdN (by omega) (by omega), cb1_s, g10 q hq]
  rw [g2, g6] at g'
  refine ⟨_, _, _, _, _, _, _, _, _, _, _, _, _, _, _, _, _, _, _, _, _, _, rfl, g', ?_⟩
  intro rn rp rs rch rlo rle ris rpl rpt rso hR
  have hl := Mo_heardOf_loop hR.2.2.2.1 pN_le hR.2.2.2.2.1 pP_le (show 100 ≤ F by omega) hq (nN T n) 0 F (by omega) (by omega)
  unfold Mo_heardOf
  rw [hR.1]
  exact hl
theorem row_v {T : Nat → Nat → Nat} {n : Nat → Nat} {t0s : Int32} {t0b : (Nat → Int32)} {t1s : Int32} {t1b : (Nat → Int32)} {t2s : Int32} {t2b : (Nat → Int32)} {st : Int32} {nz : Int32} {nf : Int32} {nod : (Nat → Int32)} {nln : (Nat → Int32)} {nlt : (Nat → Int32)} {nal : (Nat → Int32)} {nto : (Nat → Int32)} {pz : Int32} {pf : Int32} {pis : (Nat → Int32)} {pln : (Nat → Int32)} {plt : (Nat → Int32)} {sz : Int32} {sf : Int32} {slt : (Nat → Int32)} {fpc : Int32} {fsf : Int32} {faf : Int32} {ford : Int32} {fpf : (Nat → Int32)} {fio : (Nat → Int32)} (hT : TxC T n t0s t0b t1s t1b t2s t2b) (hD : DrC T n st nz nf nod nln nlt nal nto pz pf pis pln plt sz sf slt fpc fsf faf ford fpf fio) {F : Nat} (hF : 2000 ≤ F) {j : Nat} (hj : j ≤ 9) : ∃ r nz' nf' nod' nln' nlt' nal' nto' pz' pf' pis' pln' plt' sz' sf' slt' fpc' fsf' faf' ford' fpf' fio', ND_row F t0s t0b t1s t1b t2s t2b st nz nf nod nln nlt nal nto pz pf pis pln plt sz sf slt fpc fsf faf ford fpf fio (nI j) = some (r, 0, nz', nf', nod', nln', nlt', nal', nto', pz', pf', pis', pln', plt', sz', sf', slt', fpc', fsf', faf', ford', fpf', fio') ∧ DrC T n 0 nz' nf' nod' nln' nlt' nal' nto' pz' pf' pis' pln' plt' sz' sf' slt' fpc' fsf' faf' ford' fpf' fio' ∧ (∀ (rn : Int32) (rp : Int32) (rs : Int32) (rch : (Nat → Int32)) (rlo : (Nat → Int32)) (rle : (Nat → Int32)) (ris : (Nat → Int32)) (rpl : (Nat → Int32)) (rpt : (Nat → Int32)) (rso : (Nat → Int32)) (row : Nat → Int32), RdOK T n rn rp rs rch rlo rle ris rpl rpt rso → ∃ row', Mo_rowOf F rn rp rs rch rlo rle ris rpl rpt rso row (nI j) = some (r, row')) := by
  obtain ⟨nz', nf', nod', nln', nlt', nal', nto', pz', pf', pis', pln', plt', sz', sf', slt', fpc', fsf', faf', ford', fpf', fio', e, g⟩ := ND_refresh_ok hT hD hF
  have g' := DrC_0 g
  have hRw : RowOK (Od (T 0)) (nN T n) (FM T n 63) ford' fio' := g.2.2.2.2.2.2.1
  have hN10 : nN T n ≤ 10 := pN_le
  have hcl := cnt_le (FM T n 63) (nN T n)
  unfold ND_row Fi_inRow
  rw [if_neg (nI_pos (by omega)), if_pos (show nI j < 10 by rw [n10, ltN (by omega) (by omega)]; omega), e, cb22_s, if_neg (nI_pos (by omega))]
  by_cases h : cnt (FM T n 63) (nN T n) ≤ j
  · rw [if_pos (show ford' ≤ nI j by rw [hRw.1, leN (by omega) (by omega)]; exact h), cb1_s]
    refine ⟨_, _, _, _, _, _, _, _, _, _, _, _, _, _, _, _, _, _, _, _, _, _, rfl, g', ?_⟩
    intro rn rp rs rch rlo rle ris rpl rpt rso row hR
    obtain ⟨q1, q2, q3, q4, q5, q6⟩ := hR
    obtain ⟨c2, row', w1, w2, w3⟩ := Mo_findRow_ok q4 pN_le q5 pP_le q6 (pS_le (n2_le hT)) (show 100 ≤ F by omega) row
    have w2' : c2 = nI (cnt (FM T n 63) (nN T n)) := w2
    unfold Mo_rowOf
    rw [q1, q2, q3, w1, cb2_s, if_pos (show c2 ≤ nI j by rw [w2', leN (by omega) (by omega)]; exact h)]
    exact ⟨_, rfl⟩
  · rw [if_neg (show ¬ ford' ≤ nI j by rw [hRw.1, leN (by omega) (by omega)]; exact h), rdN (by omega) (by omega), cb1_s, hRw.2 j (by omega)]
    refine ⟨_, _, _, _, _, _, _, _, _, _, _, _, _, _, _, _, _, _, _, _, _, _, rfl, g', ?_⟩
    intro rn rp rs rch rlo rle ris rpl rpt rso row hR
    obtain ⟨q1, q2, q3, q4, q5, q6⟩ := hR
    obtain ⟨c2, row', w1, w2, w3⟩ := Mo_findRow_ok q4 pN_le q5 pP_le q6 (pS_le (n2_le hT)) (show 100 ≤ F by omega) row
    have w2' : c2 = nI (cnt (FM T n 63) (nN T n)) := w2
    have w3' : ∀ j, j < cnt (FM T n 63) (nN T n) → row' j = nI (sel (Od (T 0)) (remM (Od (T 0)) (nN T n) (FM T n 63) j) (nN T n)) := w3
    unfold Mo_rowOf
    rw [q1, q2, q3, w1, cb2_s, if_neg (show ¬ c2 ≤ nI j by rw [w2', leN (by omega) (by omega)]; exact h), rdN (by omega) (by omega), w3' j (by omega)]
    exact ⟨_, rfl⟩
