/-! row agrees -/
theorem row_ok {T : Nat → Nat → Nat} {n : Nat → Nat} {t0s : Int32} {t0b : (Nat → Int32)} {t1s : Int32} {t1b : (Nat → Int32)} {t2s : Int32} {t2b : (Nat → Int32)} {st : Int32} {nz : Int32} {nf : Int32} {nod : (Nat → Int32)} {nln : (Nat → Int32)} {nlt : (Nat → Int32)} {nal : (Nat → Int32)} {nto : (Nat → Int32)} {pz : Int32} {pf : Int32} {pis : (Nat → Int32)} {pln : (Nat → Int32)} {plt : (Nat → Int32)} {sz : Int32} {sf : Int32} {slt : (Nat → Int32)} {fpc : Int32} {fsf : Int32} {faf : Int32} {ford : Int32} {fpf : (Nat → Int32)} {fio : (Nat → Int32)} (hT : TxC T n t0s t0b t1s t1b t2s t2b) (hD : DrC T n st nz nf nod nln nlt nal nto pz pf pis pln plt sz sf slt fpc fsf faf ford fpf fio) {bytes typed : Nat → Int32} (hM : TxR T n bytes typed) {F : Nat} (hF : 2000 ≤ F) (ra : Int32) (rn : Int32) (rp : Int32) (rs : Int32) (rch : (Nat → Int32)) (rlo : (Nat → Int32)) (rle : (Nat → Int32)) (ris : (Nat → Int32)) (rpl : (Nat → Int32)) (rpt : (Nat → Int32)) (rso : (Nat → Int32)) (rw0 : Nat → Int32) (x1 : Int32) : ∃ r st' nz' nf' nod' nln' nlt' nal' nto' pz' pf' pis' pln' plt' sz' sf' slt' fpc' fsf' faf' ford' fpf' fio' ra' rn' rp' rs' rch' rlo' rle' ris' rpl' rpt' rso' rw', ND_row F t0s t0b t1s t1b t2s t2b st nz nf nod nln nlt nal nto pz pf pis pln plt sz sf slt fpc fsf faf ford fpf fio x1 = some (r, st', nz', nf', nod', nln', nlt', nal', nto', pz', pf', pis', pln', plt', sz', sf', slt', fpc', fsf', faf', ford', fpf', fio') ∧ Mo_row F bytes typed ra rn rp rs rch rlo rle ris rpl rpt rso rw0 x1 = some (r, ra', rn', rp', rs', rch', rlo', rle', ris', rpl', rpt', rso', rw') ∧ DrC T n st' nz' nf' nod' nln' nlt' nal' nto' pz' pf' pis' pln' plt' sz' sf' slt' fpc' fsf' faf' ford' fpf' fio' := by
  obtain ⟨ra', rn', rp', rs', rch', rlo', rle', ris', rpl', rpt', rso', f, q1, q2, q3, q4, q5, q6⟩ := Mo_reads_ok hT hM hF ra rn rp rs rch rlo rle ris rpl rpt rso
  unfold ND_row Mo_row
  rw [f, cb11_s]
  rcases in_cases x1 0 9 (by omega) (by omega) with ⟨k, _, hk, rfl, e⟩ | ⟨h1, e⟩
  · obtain ⟨nz', nf', nod', nln', nlt', nal', nto', pz', pf', pis', pln', plt', sz', sf', slt', fpc', fsf', faf', ford', fpf', fio', e2, g⟩ := ND_refresh_ok hT hD hF
    obtain ⟨c, rw', w1, w2, w3⟩ := Mo_findRow_ok q4 pN_le q5 pP_le q6 (pS_le hT.2.2.2.2.2.1) (show 100 ≤ F by omega) rw0
    have hc := cnt_le (fm (T 0) (T 1) (T 2) (nN T n) (nP T n) (nS T n) 63) (nN T n)
    have hN : nN T n ≤ 10 := pN_le
    have g' := DrC_0 g
    obtain ⟨v1, v2⟩ := g.2.2.2.2.2.2.1
    rw [show Mo_in (Int32.toInt64 (nI k)) 0 9 = some 1 from e, cb1_s, if_neg (show ¬ (1 : Int32) = 0 by decide), if_neg (nI_pos (by omega)), if_pos (show nI k < 10 by rw [n10, ltN (by omega) (by omega)]; omega), e2, cb22_s]
    unfold Mo_rowOf Fi_inRow
    rw [q1, q2, q3, w1, cb2_s, w2, if_neg (nI_pos (by omega)), v1]
    by_cases h : cnt (fm (T 0) (T 1) (T 2) (nN T n) (nP T n) (nS T n) 63) (nN T n) ≤ k
    · have H : nI (cnt (fm (T 0) (T 1) (T 2) (nN T n) (nP T n) (nS T n) 63) (nN T n)) ≤ nI k := by rw [leN (by omega) (by omega)]; exact h
      rw [if_pos H, if_pos H]
      exact ⟨_, _, _, _, _, _, _, _, _, _, _, _, _, _, _, _, _, _, _, _, _, _, _, _, _, _, _, _, _, _, _, _, _, _, _, rfl, rfl, v1 ▸ g'⟩
    · have H : ¬ nI (cnt (fm (T 0) (T 1) (T 2) (nN T n) (nP T n) (nS T n) 63) (nN T n)) ≤ nI k := by rw [leN (by omega) (by omega)]; exact h
      rw [if_neg H, if_neg H, rdN (by omega) (by omega), rdN (by omega) (by omega), w3 k (by omega), v2 k (by omega)]
      exact ⟨_, _, _, _, _, _, _, _, _, _, _, _, _, _, _, _, _, _, _, _, _, _, _, _, _, _, _, _, _, _, _, _, _, _, _, rfl, rfl, v1 ▸ g'⟩
  · rw [show Mo_in (Int32.toInt64 x1) 0 9 = some 0 from e, cb1_s, if_pos rfl]
    refine ⟨-2, st, nz, nf, nod, nln, nlt, nal, nto, pz, pf, pis, pln, plt, sz, sf, slt, fpc, fsf, faf, ford, fpf, fio, ra', rn', rp', rs', rch', rlo', rle', ris', rpl', rpt', rso', rw0, ?_, rfl, hD⟩
    by_cases h : x1 < 0
    · rw [if_pos h]
    · obtain ⟨j, hj, rfl⟩ := nI_of h
      rw [ltN (by omega) (by omega), ltN (by omega) (by omega)] at h1
      rw [if_neg h, if_neg (show ¬ nI j < 10 by rw [n10, ltN (by omega) (by omega)]; omega)]
