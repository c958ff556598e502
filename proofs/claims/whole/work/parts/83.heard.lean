/-! heard, name agree -/
theorem Mo_heardOf_loop {T Tp : Nat → Nat} {N P : Nat} {od ln lt is pn pl : Nat → Int32} (hO : NmOK T N od ln lt) (hN : N ≤ 10) (hP : PcOK Tp P is pn pl) (hP6 : P ≤ 6) {F : Nat} (hF : 100 ≤ F) {q : Nat} (hq : q < P) : ∀ (m k f : Nat), k + m = N → m < f → Mo_heardOf_l4 F (nI N) ln lt is pn pl (nI q) f (nI (bo (fun k => heardB T Tp k q) k)) (nI k) = some (nI (bo (fun k => heardB T Tp k q) N)) := by
  intro m
  induction m with
  | zero =>
    intro k f hk hf
    obtain ⟨f, rfl⟩ : ∃ f', f = f' + 1 := ⟨f - 1, by omega⟩
    show Mo_heardOf_b4 F (nI N) ln lt is pn pl (nI q) _ _ (nI k) = _
    unfold Mo_heardOf_b4
    rw [if_pos (show nI N ≤ nI k by rw [leN (by omega) (by omega)]; omega), show k = N by omega]
  | succ m ih =>
    intro k f hk hf
    obtain ⟨f, rfl⟩ : ∃ f', f = f' + 1 := ⟨f - 1, by omega⟩
    show Mo_heardOf_b4 F (nI N) ln lt is pn pl (nI q) (Mo_heardOf_l4 F (nI N) ln lt is pn pl (nI q) f) _ (nI k) = _
    unfold Mo_heardOf_b4 Mo_heardOf_b29
    rw [if_neg (show ¬ nI N ≤ nI k by rw [leN (by omega) (by omega)]; omega), Mo_isHeard_ok hO hN hP hP6 hF (by omega) hq, cb1_s, sh1 k (by omega), show nI k + 1 = nI (k + 1) from nI_1 _, ← ih (k + 1) f (by omega) (by omega)]
    cases hb : heardB T Tp k q with
    | true => rw [if_neg (show ¬ bI true = 0 by decide), bo_orI (p := fun k => heardB T Tp k q) hb]
    | false => rw [if_pos (show bI false = 0 from rfl), n0, bOr, Nat.or_zero, bo_no (p := fun k => heardB T Tp k q) hb]
theorem heard_ok {T : Nat → Nat → Nat} {n : Nat → Nat} {t0s : Int32} {t0b : (Nat → Int32)} {t1s : Int32} {t1b : (Nat → Int32)} {t2s : Int32} {t2b : (Nat → Int32)} {st : Int32} {nz : Int32} {nf : Int32} {nod : (Nat → Int32)} {nln : (Nat → Int32)} {nlt : (Nat → Int32)} {nal : (Nat → Int32)} {nto : (Nat → Int32)} {pz : Int32} {pf : Int32} {pis : (Nat → Int32)} {pln : (Nat → Int32)} {plt : (Nat → Int32)} {sz : Int32} {sf : Int32} {slt : (Nat → Int32)} {fpc : Int32} {fsf : Int32} {faf : Int32} {ford : Int32} {fpf : (Nat → Int32)} {fio : (Nat → Int32)} (hT : TxC T n t0s t0b t1s t1b t2s t2b) (hD : DrC T n st nz nf nod nln nlt nal nto pz pf pis pln plt sz sf slt fpc fsf faf ford fpf fio) {bytes typed : Nat → Int32} (hM : TxR T n bytes typed) {F : Nat} (hF : 2000 ≤ F) (ra : Int32) (rn : Int32) (rp : Int32) (rs : Int32) (rch : (Nat → Int32)) (rlo : (Nat → Int32)) (rle : (Nat → Int32)) (ris : (Nat → Int32)) (rpl : (Nat → Int32)) (rpt : (Nat → Int32)) (rso : (Nat → Int32)) (x1 : Int32) : ∃ r st' nz' nf' nod' nln' nlt' nal' nto' pz' pf' pis' pln' plt' sz' sf' slt' fpc' fsf' faf' ford' fpf' fio' ra' rn' rp' rs' rch' rlo' rle' ris' rpl' rpt' rso', ND_heard F t0s t0b t1s t1b t2s t2b st nz nf nod nln nlt nal nto pz pf pis pln plt sz sf slt fpc fsf faf ford fpf fio x1 = some (r, st', nz', nf', nod', nln', nlt', nal', nto', pz', pf', pis', pln', plt', sz', sf', slt', fpc', fsf', faf', ford', fpf', fio') ∧ Mo_heard F bytes typed ra rn rp rs rch rlo rle ris rpl rpt rso x1 = some (r, ra', rn', rp', rs', rch', rlo', rle', ris', rpl', rpt', rso') ∧ DrC T n st' nz' nf' nod' nln' nlt' nal' nto' pz' pf' pis' pln' plt' sz' sf' slt' fpc' fsf' faf' ford' fpf' fio' := by
  obtain ⟨nz', nf', nod', nln', nlt', nal', nto', pz', pf', pis', pln', plt', sz', sf', slt', fpc', fsf', faf', ford', fpf', fio', e, g⟩ := ND_refresh_ok hT hD hF
  obtain ⟨ra', rn', rp', rs', rch', rlo', rle', ris', rpl', rpt', rso', f, q1, q2, q3, q4, q5, q6⟩ := Mo_reads_ok hT hM hF ra rn rp rs rch rlo rle ris rpl rpt rso
  have g' := DrC_0 g
  obtain ⟨g1, ⟨g2, g3, g4⟩, g5, g6, g7, g8, g9, g10⟩ := g
  have hP6 : nP T n ≤ 6 := pP_le
  have hN10 : nN T n ≤ 10 := pN_le
  unfold ND_heard Mo_heard
  rw [e, cb22_s, f, cb11_s, q1, q2, q3, show Pi_has pz' x1 = Na_has pz' x1 from rfl, g2, g6]
  rw [g2, g6] at g'
  rcases has_cases (nP T n) (by omega) x1 with ⟨k, hk, rfl, e1, e2⟩ | ⟨e1, e2⟩
  · rw [e1, e2, cb1_s, cb1_s, if_neg (show ¬ (1 : Int32) = 0 by decide), if_neg (show ¬ (1 : Int32) = 0 by decide)]
    unfold Mo_heardOf Fi_byPiece
    have hl := Mo_heardOf_loop q4 pN_le q5 pP_le (show 100 ≤ F by omega) hk (nN T n) 0 F (by omega) (by omega)
    rw [show Mo_heardOf_l4 F (nI (nN T n)) rlo' rle' ris' rpl' rpt' (nI k) F 0 0 = _ from hl, cb1_s, if_neg (nI_pos (by omega)), if_neg (show ¬ nI (nP T n) ≤ nI k by rw [leN (by omega) (by omega)]; omega), rdN (by omega) (by omega), cb1_s, g10 k hk]
    exact ⟨_, _, _, _, _, _, _, _, _, _, _, _, _, _, _, _, _, _, _, _, _, _, _, _, _, _, _, _, _, _, _, _, _, _, rfl, rfl, g'⟩
  · rw [e1, e2, cb1_s, cb1_s, if_pos rfl, if_pos rfl]
    exact ⟨_, _, _, _, _, _, _, _, _, _, _, _, _, _, _, _, _, _, _, _, _, _, _, _, _, _, _, _, _, _, _, _, _, _, rfl, rfl, g'⟩
