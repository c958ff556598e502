/-! digest: the first part -/
theorem cb12_s {A1 A2 A3 A4 A5 A6 A7 A8 A9 A10 A11 A12 β : Type} (a1 : A1) (a2 : A2) (a3 : A3) (a4 : A4) (a5 : A5) (a6 : A6) (a7 : A7) (a8 : A8) (a9 : A9) (a10 : A10) (a11 : A11) (a12 : A12) (k : A1 → A2 → A3 → A4 → A5 → A6 → A7 → A8 → A9 → A10 → A11 → A12 → Option β) : cb12 (some (a1, a2, a3, a4, a5, a6, a7, a8, a9, a10, a11, a12)) k = k a1 a2 a3 a4 a5 a6 a7 a8 a9 a10 a11 a12 := rfl
theorem cb14_s {A1 A2 A3 A4 A5 A6 A7 A8 A9 A10 A11 A12 A13 A14 β : Type} (a1 : A1) (a2 : A2) (a3 : A3) (a4 : A4) (a5 : A5) (a6 : A6) (a7 : A7) (a8 : A8) (a9 : A9) (a10 : A10) (a11 : A11) (a12 : A12) (a13 : A13) (a14 : A14) (k : A1 → A2 → A3 → A4 → A5 → A6 → A7 → A8 → A9 → A10 → A11 → A12 → A13 → A14 → Option β) : cb14 (some (a1, a2, a3, a4, a5, a6, a7, a8, a9, a10, a11, a12, a13, a14)) k = k a1 a2 a3 a4 a5 a6 a7 a8 a9 a10 a11 a12 a13 a14 := rfl
theorem cb23_s {A1 A2 A3 A4 A5 A6 A7 A8 A9 A10 A11 A12 A13 A14 A15 A16 A17 A18 A19 A20 A21 A22 A23 β : Type} (a1 : A1) (a2 : A2) (a3 : A3) (a4 : A4) (a5 : A5) (a6 : A6) (a7 : A7) (a8 : A8) (a9 : A9) (a10 : A10) (a11 : A11) (a12 : A12) (a13 : A13) (a14 : A14) (a15 : A15) (a16 : A16) (a17 : A17) (a18 : A18) (a19 : A19) (a20 : A20) (a21 : A21) (a22 : A22) (a23 : A23) (k : A1 → A2 → A3 → A4 → A5 → A6 → A7 → A8 → A9 → A10 → A11 → A12 → A13 → A14 → A15 → A16 → A17 → A18 → A19 → A20 → A21 → A22 → A23 → Option β) : cb23 (some (a1, a2, a3, a4, a5, a6, a7, a8, a9, a10, a11, a12, a13, a14, a15, a16, a17, a18, a19, a20, a21, a22, a23)) k = k a1 a2 a3 a4 a5 a6 a7 a8 a9 a10 a11 a12 a13 a14 a15 a16 a17 a18 a19 a20 a21 a22 a23 := rfl
theorem cb25_s {A1 A2 A3 A4 A5 A6 A7 A8 A9 A10 A11 A12 A13 A14 A15 A16 A17 A18 A19 A20 A21 A22 A23 A24 A25 β : Type} (a1 : A1) (a2 : A2) (a3 : A3) (a4 : A4) (a5 : A5) (a6 : A6) (a7 : A7) (a8 : A8) (a9 : A9) (a10 : A10) (a11 : A11) (a12 : A12) (a13 : A13) (a14 : A14) (a15 : A15) (a16 : A16) (a17 : A17) (a18 : A18) (a19 : A19) (a20 : A20) (a21 : A21) (a22 : A22) (a23 : A23) (a24 : A24) (a25 : A25) (k : A1 → A2 → A3 → A4 → A5 → A6 → A7 → A8 → A9 → A10 → A11 → A12 → A13 → A14 → A15 → A16 → A17 → A18 → A19 → A20 → A21 → A22 → A23 → A24 → A25 → Option β) : cb25 (some (a1, a2, a3, a4, a5, a6, a7, a8, a9, a10, a11, a12, a13, a14, a15, a16, a17, a18, a19, a20, a21, a22, a23, a24, a25)) k = k a1 a2 a3 a4 a5 a6 a7 a8 a9 a10 a11 a12 a13 a14 a15 a16 a17 a18 a19 a20 a21 a22 a23 a24 a25 := rfl
theorem cb26_s {A1 A2 A3 A4 A5 A6 A7 A8 A9 A10 A11 A12 A13 A14 A15 A16 A17 A18 A19 A20 A21 A22 A23 A24 A25 A26 β : Type} (a1 : A1) (a2 : A2) (a3 : A3) (a4 : A4) (a5 : A5) (a6 : A6) (a7 : A7) (a8 : A8) (a9 : A9) (a10 : A10) (a11 : A11) (a12 : A12) (a13 : A13) (a14 : A14) (a15 : A15) (a16 : A16) (a17 : A17) (a18 : A18) (a19 : A19) (a20 : A20) (a21 : A21) (a22 : A22) (a23 : A23) (a24 : A24) (a25 : A25) (a26 : A26) (k : A1 → A2 → A3 → A4 → A5 → A6 → A7 → A8 → A9 → A10 → A11 → A12 → A13 → A14 → A15 → A16 → A17 → A18 → A19 → A20 → A21 → A22 → A23 → A24 → A25 → A26 → Option β) : cb26 (some (a1, a2, a3, a4, a5, a6, a7, a8, a9, a10, a11, a12, a13, a14, a15, a16, a17, a18, a19, a20, a21, a22, a23, a24, a25, a26)) k = k a1 a2 a3 a4 a5 a6 a7 a8 a9 a10 a11 a12 a13 a14 a15 a16 a17 a18 a19 a20 a21 a22 a23 a24 a25 a26 := rfl
theorem cb28_s {A1 A2 A3 A4 A5 A6 A7 A8 A9 A10 A11 A12 A13 A14 A15 A16 A17 A18 A19 A20 A21 A22 A23 A24 A25 A26 A27 A28 β : Type} (a1 : A1) (a2 : A2) (a3 : A3) (a4 : A4) (a5 : A5) (a6 : A6) (a7 : A7) (a8 : A8) (a9 : A9) (a10 : A10) (a11 : A11) (a12 : A12) (a13 : A13) (a14 : A14) (a15 : A15) (a16 : A16) (a17 : A17) (a18 : A18) (a19 : A19) (a20 : A20) (a21 : A21) (a22 : A22) (a23 : A23) (a24 : A24) (a25 : A25) (a26 : A26) (a27 : A27) (a28 : A28) (k : A1 → A2 → A3 → A4 → A5 → A6 → A7 → A8 → A9 → A10 → A11 → A12 → A13 → A14 → A15 → A16 → A17 → A18 → A19 → A20 → A21 → A22 → A23 → A24 → A25 → A26 → A27 → A28 → Option β) : cb28 (some (a1, a2, a3, a4, a5, a6, a7, a8, a9, a10, a11, a12, a13, a14, a15, a16, a17, a18, a19, a20, a21, a22, a23, a24, a25, a26, a27, a28)) k = k a1 a2 a3 a4 a5 a6 a7 a8 a9 a10 a11 a12 a13 a14 a15 a16 a17 a18 a19 a20 a21 a22 a23 a24 a25 a26 a27 a28 := rfl
theorem n00 : nI 0 = (0 : Int32) := rfl
theorem n11 : nI 1 = (1 : Int32) := rfl
theorem dg_count {T : Nat → Nat → Nat} {n : Nat → Nat} {t0s : Int32} {t0b : (Nat → Int32)} {t1s : Int32} {t1b : (Nat → Int32)} {t2s : Int32} {t2b : (Nat → Int32)} (hT : TxC T n t0s t0b t1s t1b t2s t2b) {F : Nat} (hF : 2000 ≤ F) {bytes typed : Nat → Int32} (hM : TxR T n bytes typed) (fd : Int32) {gs rgs : Int32} (hgs : gs = rgs) (dt gl : Nat → Int32) (ws : Int32) (wl : Nat → Int32) (ys yd : Int32) (yn : Nat → Int32) (se rl : Nat → Int32) : ∀ (d j f f2 : Nat) (h : Int64) (st : Int32) (nz : Int32) (nf : Int32) (nod : (Nat → Int32)) (nln : (Nat → Int32)) (nlt : (Nat → Int32)) (nal : (Nat → Int32)) (nto : (Nat → Int32)) (pz : Int32) (pf : Int32) (pis : (Nat → Int32)) (pln : (Nat → Int32)) (plt : (Nat → Int32)) (sz : Int32) (sf : Int32) (slt : (Nat → Int32)) (fpc : Int32) (fsf : Int32) (faf : Int32) (ford : Int32) (fpf : (Nat → Int32)) (fio : (Nat → Int32)) (ra : Int32) (rn : Int32) (rp : Int32) (rs : Int32) (td : Int32) (rch : (Nat → Int32)) (rlo : (Nat → Int32)) (rle : (Nat → Int32)) (ris : (Nat → Int32)) (rpl : (Nat → Int32)) (rpt : (Nat → Int32)) (rso : (Nat → Int32)) (rw : (Nat → Int32)) (lst : (Nat → Int64)) (nts : (Nat → Int32)), j + d = 8 → d < f → d < f2 → DrC T n st nz nf nod nln nlt nal nto pz pf pis pln plt sz sf slt fpc fsf faf ford fpf fio → (8 ≤ j → RdOK T n rn rp rs rch rlo rle ris rpl rpt rso) → ∃ h' st' nz' nf' nod' nln' nlt' nal' nto' pz' pf' pis' pln' plt' sz' sf' slt' fpc' fsf' faf' ford' fpf' fio' ra' rn' rp' rs' td' rch' rlo' rle' ris' rpl' rpt' rso' rw' lst' nts', ND_digest_l6 F fd t0s t0b t1s t1b t2s t2b dt gs gl f h (nI j) st nz nf nod nln nlt nal nto pz pf pis pln plt sz sf slt fpc fsf faf ford fpf fio ws wl ys yd yn = ND_digest_b29 F fd t0s t0b t1s t1b t2s t2b dt gs gl h' st' nz' nf' nod' nln' nlt' nal' nto' pz' pf' pis' pln' plt' sz' sf' slt' fpc' fsf' faf' ford' fpf' fio' ws wl ys yd yn ∧ Mo_digest_l6 F fd rgs bytes typed se rl f2 h (nI j) ra rn rp rs td rch rlo rle ris rpl rpt rso rw lst nts = Mo_digest_b31 F fd rgs bytes typed se rl h' ra' rn' rp' rs' td' rch' rlo' rle' ris' rpl' rpt' rso' rw' lst' nts' ∧ DrC T n st' nz' nf' nod' nln' nlt' nal' nto' pz' pf' pis' pln' plt' sz' sf' slt' fpc' fsf' faf' ford' fpf' fio' ∧ RdOK T n rn' rp' rs' rch' rlo' rle' ris' rpl' rpt' rso' := by
  intro d
  induction d with
  | zero =>
    intro j f f2 h st nz nf nod nln nlt nal nto pz pf pis pln plt sz sf slt fpc fsf faf ford fpf fio ra rn rp rs td rch rlo rle ris rpl rpt rso rw lst nts hj hf hf2 hD hR
    obtain ⟨f, rfl⟩ : ∃ f', f = f' + 1 := ⟨f - 1, by omega⟩
    obtain ⟨f2, rfl⟩ : ∃ f', f2 = f' + 1 := ⟨f2 - 1, by omega⟩
    obtain rfl : j = 8 := by omega
    refine ⟨h, st, nz, nf, nod, nln, nlt, nal, nto, pz, pf, pis, pln, plt, sz, sf, slt, fpc, fsf, faf, ford, fpf, fio, ra, rn, rp, rs, td, rch, rlo, rle, ris, rpl, rpt, rso, rw, lst, nts, ?_, ?_, hD, hR (by omega)⟩
    · show ND_digest_b6 F fd t0s t0b t1s t1b t2s t2b dt gs gl _ h _ st nz nf nod nln nlt nal nto pz pf pis pln plt sz sf slt fpc fsf faf ford fpf fio ws wl ys yd yn = _
      unfold ND_digest_b6
      rw [if_pos (show (7 : Int32) < nI 8 by decide)]
    · show Mo_digest_b6 F fd rgs bytes typed se rl _ h _ ra rn rp rs td rch rlo rle ris rpl rpt rso rw lst nts = _
      unfold Mo_digest_b6
      rw [if_pos (show (8 : Int32) ≤ nI 8 by decide)]
  | succ d ih =>
    intro j f f2 h st nz nf nod nln nlt nal nto pz pf pis pln plt sz sf slt fpc fsf faf ford fpf fio ra rn rp rs td rch rlo rle ris rpl rpt rso rw lst nts hj hf hf2 hD hR
    obtain ⟨f, rfl⟩ : ∃ f', f = f' + 1 := ⟨f - 1, by omega⟩
    obtain ⟨f2, rfl⟩ : ∃ f', f2 = f' + 1 := ⟨f2 - 1, by omega⟩
    obtain ⟨r, st', nz', nf', nod', nln', nlt', nal', nto', pz', pf', pis', pln', plt', sz', sf', slt', fpc', fsf', faf', ford', fpf', fio', ra', rn', rp', rs', rch', rlo', rle', ris', rpl', rpt', rso', v1, v2, g⟩ := count_ok hT hD hF hM ra rn rp rs rch rlo rle ris rpl rpt rso fd hgs (nI j)
    have hR' : 8 ≤ j + 1 → RdOK T n rn' rp' rs' rch' rlo' rle' ris' rpl' rpt' rso' := fun h8 => by
      obtain rfl : j = 7 := by omega
      exact count_rd hT hF hM v2
    obtain ⟨h', st', nz', nf', nod', nln', nlt', nal', nto', pz', pf', pis', pln', plt', sz', sf', slt', fpc', fsf', faf', ford', fpf', fio', ra', rn', rp', rs', td', rch', rlo', rle', ris', rpl', rpt', rso', rw', lst', nts', k1, k2, k3, k4⟩ := ih (j + 1) f f2 ((31 * h) + Int32.toInt64 r) st' nz' nf' nod' nln' nlt' nal' nto' pz' pf' pis' pln' plt' sz' sf' slt' fpc' fsf' faf' ford' fpf' fio' ra' rn' rp' rs' td rch' rlo' rle' ris' rpl' rpt' rso' rw lst nts (by omega) (by omega) (by omega) g hR'
    refine ⟨h', st', nz', nf', nod', nln', nlt', nal', nto', pz', pf', pis', pln', plt', sz', sf', slt', fpc', fsf', faf', ford', fpf', fio', ra', rn', rp', rs', td', rch', rlo', rle', ris', rpl', rpt', rso', rw', lst', nts', ?_, ?_, k3, k4⟩
    · rw [← k1]
      show ND_digest_b6 F fd t0s t0b t1s t1b t2s t2b dt gs gl (ND_digest_l6 F fd t0s t0b t1s t1b t2s t2b dt gs gl f) h _ st nz nf nod nln nlt nal nto pz pf pis pln plt sz sf slt fpc fsf faf ford fpf fio ws wl ys yd yn = _
      unfold ND_digest_b6 ND_mix
      rw [if_neg (show ¬ (7 : Int32) < nI j by rw [n7, ltN (by omega) (by omega)]; omega), v1, cb23_s, cb1_s, show nI j + 1 = nI (j + 1) from nI_1 _]
    · rw [← k2]
      show Mo_digest_b6 F fd rgs bytes typed se rl (Mo_digest_l6 F fd rgs bytes typed se rl f2) h _ ra rn rp rs td rch rlo rle ris rpl rpt rso rw lst nts = _
      unfold Mo_digest_b6
      rw [if_neg (show ¬ (8 : Int32) ≤ nI j by rw [show (8 : Int32) = nI 8 from rfl, leN (by omega) (by omega)]; omega), v2, cb12_s, show nI j + 1 = nI (j + 1) from nI_1 _]
theorem dg_fault {T : Nat → Nat → Nat} {n : Nat → Nat} {t0s : Int32} {t0b : (Nat → Int32)} {t1s : Int32} {t1b : (Nat → Int32)} {t2s : Int32} {t2b : (Nat → Int32)} (hT : TxC T n t0s t0b t1s t1b t2s t2b) {F : Nat} (hF : 2000 ≤ F) {bytes typed : Nat → Int32} (hM : TxR T n bytes typed) (fd gs rgs : Int32) (dt gl : Nat → Int32) (ws : Int32) (wl : Nat → Int32) (ys yd : Int32) (yn : Nat → Int32) (se rl : Nat → Int32) : ∀ (d j f f2 : Nat) (h : Int64) (st : Int32) (nz : Int32) (nf : Int32) (nod : (Nat → Int32)) (nln : (Nat → Int32)) (nlt : (Nat → Int32)) (nal : (Nat → Int32)) (nto : (Nat → Int32)) (pz : Int32) (pf : Int32) (pis : (Nat → Int32)) (pln : (Nat → Int32)) (plt : (Nat → Int32)) (sz : Int32) (sf : Int32) (slt : (Nat → Int32)) (fpc : Int32) (fsf : Int32) (faf : Int32) (ford : Int32) (fpf : (Nat → Int32)) (fio : (Nat → Int32)) (ra : Int32) (rn : Int32) (rp : Int32) (rs : Int32) (td : Int32) (rch : (Nat → Int32)) (rlo : (Nat → Int32)) (rle : (Nat → Int32)) (ris : (Nat → Int32)) (rpl : (Nat → Int32)) (rpt : (Nat → Int32)) (rso : (Nat → Int32)) (rw : (Nat → Int32)) (lst : (Nat → Int64)) (nts : (Nat → Int32)), j + d = 3 → d < f → d < f2 → DrC T n st nz nf nod nln nlt nal nto pz pf pis pln plt sz sf slt fpc fsf faf ford fpf fio → RdOK T n rn rp rs rch rlo rle ris rpl rpt rso → ∃ h' st' nz' nf' nod' nln' nlt' nal' nto' pz' pf' pis' pln' plt' sz' sf' slt' fpc' fsf' faf' ford' fpf' fio' ra' rn' rp' rs' td' rch' rlo' rle' ris' rpl' rpt' rso' rw' lst' nts', ND_digest_l31 F fd t0s t0b t1s t1b t2s t2b dt gs gl f h (nI j) st nz nf nod nln nlt nal nto pz pf pis pln plt sz sf slt fpc fsf faf ford fpf fio ws wl ys yd yn = ND_digest_b53 F fd t0s t0b t1s t1b t2s t2b dt gs gl h' st' nz' nf' nod' nln' nlt' nal' nto' pz' pf' pis' pln' plt' sz' sf' slt' fpc' fsf' faf' ford' fpf' fio' ws wl ys yd yn ∧ Mo_digest_l33 F fd rgs bytes typed se rl f2 h (nI j) ra rn rp rs td rch rlo rle ris rpl rpt rso rw lst nts = Mo_digest_b57 F fd rgs bytes typed se rl h' ra' rn' rp' rs' td' rch' rlo' rle' ris' rpl' rpt' rso' rw' lst' nts' ∧ DrC T n st' nz' nf' nod' nln' nlt' nal' nto' pz' pf' pis' pln' plt' sz' sf' slt' fpc' fsf' faf' ford' fpf' fio' ∧ RdOK T n rn' rp' rs' rch' rlo' rle' ris' rpl' rpt' rso' := by
  intro d
  induction d with
  | zero =>
    intro j f f2 h st nz nf nod nln nlt nal nto pz pf pis pln plt sz sf slt fpc fsf faf ford fpf fio ra rn rp rs td rch rlo rle ris rpl rpt rso rw lst nts hj hf hf2 hD hR
    obtain ⟨f, rfl⟩ : ∃ f', f = f' + 1 := ⟨f - 1, by omega⟩
    obtain ⟨f2, rfl⟩ : ∃ f', f2 = f' + 1 := ⟨f2 - 1, by omega⟩
    obtain rfl : j = 3 := by omega
    refine ⟨h, st, nz, nf, nod, nln, nlt, nal, nto, pz, pf, pis, pln, plt, sz, sf, slt, fpc, fsf, faf, ford, fpf, fio, ra, rn, rp, rs, td, rch, rlo, rle, ris, rpl, rpt, rso, rw, lst, nts, ?_, ?_, hD, hR⟩
    · show ND_digest_b31 F fd t0s t0b t1s t1b t2s t2b dt gs gl _ h _ st nz nf nod nln nlt nal nto pz pf pis pln plt sz sf slt fpc fsf faf ford fpf fio ws wl ys yd yn = _
      unfold ND_digest_b31
      rw [if_pos (show (3 : Int32) ≤ nI 3 by decide)]
    · show Mo_digest_b33 F fd rgs bytes typed se rl _ h _ ra rn rp rs td rch rlo rle ris rpl rpt rso rw lst nts = _
      unfold Mo_digest_b33
      rw [if_pos (show (3 : Int32) ≤ nI 3 by decide)]
  | succ d ih =>
    intro j f f2 h st nz nf nod nln nlt nal nto pz pf pis pln plt sz sf slt fpc fsf faf ford fpf fio ra rn rp rs td rch rlo rle ris rpl rpt rso rw lst nts hj hf hf2 hD hR
    obtain ⟨f, rfl⟩ : ∃ f', f = f' + 1 := ⟨f - 1, by omega⟩
    obtain ⟨f2, rfl⟩ : ∃ f', f2 = f' + 1 := ⟨f2 - 1, by omega⟩
    obtain ⟨r, nz', nf', nod', nln', nlt', nal', nto', pz', pf', pis', pln', plt', sz', sf', slt', fpc', fsf', faf', ford', fpf', fio', ra', rn', rp', rs', rch', rlo', rle', ris', rpl', rpt', rso', v1, g, v2, k⟩ := fault_v hT hD hF hM ra rn rp rs rch rlo rle ris rpl rpt rso (show j < 3 by omega)
    obtain ⟨h', st', nz', nf', nod', nln', nlt', nal', nto', pz', pf', pis', pln', plt', sz', sf', slt', fpc', fsf', faf', ford', fpf', fio', ra', rn', rp', rs', td', rch', rlo', rle', ris', rpl', rpt', rso', rw', lst', nts', k1, k2, k3, k4⟩ := ih (j + 1) f f2 ((31 * h) + Int32.toInt64 r) 0 nz' nf' nod' nln' nlt' nal' nto' pz' pf' pis' pln' plt' sz' sf' slt' fpc' fsf' faf' ford' fpf' fio' ra' rn' rp' rs' td rch' rlo' rle' ris' rpl' rpt' rso' rw lst nts (by omega) (by omega) (by omega) g (k hR)
    refine ⟨h', st', nz', nf', nod', nln', nlt', nal', nto', pz', pf', pis', pln', plt', sz', sf', slt', fpc', fsf', faf', ford', fpf', fio', ra', rn', rp', rs', td', rch', rlo', rle', ris', rpl', rpt', rso', rw', lst', nts', ?_, ?_, k3, k4⟩
    · rw [← k1]
      show ND_digest_b31 F fd t0s t0b t1s t1b t2s t2b dt gs gl (ND_digest_l31 F fd t0s t0b t1s t1b t2s t2b dt gs gl f) h _ st nz nf nod nln nlt nal nto pz pf pis pln plt sz sf slt fpc fsf faf ford fpf fio ws wl ys yd yn = _
      unfold ND_digest_b31 ND_mix
      rw [if_neg (show ¬ (3 : Int32) ≤ nI j by rw [n3, leN (by omega) (by omega)]; omega), v1, cb23_s, cb1_s, show nI j + 1 = nI (j + 1) from nI_1 _]
    · rw [← k2]
      show Mo_digest_b33 F fd rgs bytes typed se rl (Mo_digest_l33 F fd rgs bytes typed se rl f2) h _ ra rn rp rs td rch rlo rle ris rpl rpt rso rw lst nts = _
      unfold Mo_digest_b33
      rw [if_neg (show ¬ (3 : Int32) ≤ nI j by rw [n3, leN (by omega) (by omega)]; omega), v2, cb12_s, show nI j + 1 = nI (j + 1) from nI_1 _]
theorem dg_name {T : Nat → Nat → Nat} {n : Nat → Nat} {t0s : Int32} {t0b : (Nat → Int32)} {t1s : Int32} {t1b : (Nat → Int32)} {t2s : Int32} {t2b : (Nat → Int32)} (hT : TxC T n t0s t0b t1s t1b t2s t2b) {F : Nat} (hF : 2000 ≤ F) {tm : Nat → Nat} {dt se : Nat → Int32} (hC : TmC tm dt) (hS : TmC tm se) (hTm : TmOK tm) {m : Nat} {g0 : Nat → Nat} {gs : Int32} {gl : Nat → Int32} {rgs : Int32} {rl : Nat → Int32} (hG1 : GuOK m g0 gs gl) (hG2 : GuOK m g0 rgs rl) (fd : Int32) (bytes typed : Nat → Int32) {ra td : Int32} {rch rlo rle ris rpl rpt rso rw : Nat → Int32} {lst : Nat → Int64} {nts : Nat → Int32} (hR : RdOK T n (nI (nN T n)) (nI (nP T n)) (nI (nS T n)) rch rlo rle ris rpl rpt rso) {k : Nat} (hk : k < nN T n) (h : Int64) (nz : Int32) (nf : Int32) (nod : (Nat → Int32)) (nln : (Nat → Int32)) (nlt : (Nat → Int32)) (nal : (Nat → Int32)) (nto : (Nat → Int32)) (pz : Int32) (pf : Int32) (pis : (Nat → Int32)) (pln : (Nat → Int32)) (plt : (Nat → Int32)) (sz : Int32) (sf : Int32) (slt : (Nat → Int32)) (fpc : Int32) (fsf : Int32) (faf : Int32) (ford : Int32) (fpf : (Nat → Int32)) (fio : (Nat → Int32)) (hD : DrC T n 0 nz nf nod nln nlt nal nto pz pf pis pln plt sz sf slt fpc fsf faf ford fpf fio) : ∃ h' nz' nf' nod' nln' nlt' nal' nto' pz' pf' pis' pln' plt' sz' sf' slt' fpc' fsf' faf' ford' fpf' fio', ND_mixName F t0s t0b t1s t1b t2s t2b dt gs gl 0 nz nf nod nln nlt nal nto pz pf pis pln plt sz sf slt fpc fsf faf ford fpf fio h (nI k) = some (h', 0, nz', nf', nod', nln', nlt', nal', nto', pz', pf', pis', pln', plt', sz', sf', slt', fpc', fsf', faf', ford', fpf', fio') ∧ DrC T n 0 nz' nf' nod' nln' nlt' nal' nto' pz' pf' pis' pln' plt' sz' sf' slt' fpc' fsf' faf' ford' fpf' fio' ∧ ∀ rec71, Mo_digest_b71 F fd rgs bytes typed se rl rec71 h (nI k) ra (nI (nN T n)) (nI (nP T n)) (nI (nS T n)) td rch rlo rle ris rpl rpt rso rw lst nts = rec71 h' (nI (k + 1)) ra (nI (nN T n)) (nI (nP T n)) (nI (nS T n)) td rch rlo rle ris rpl rpt rso rw lst nts := by
  obtain ⟨r1, _, _, _, _, _, _, _, _, _, _, _, _, _, _, _, _, _, _, _, _, _, v1, g1, w1⟩ := name_v hT hD hF hk (-2) (Or.inl rfl)
  obtain ⟨r2, _, _, _, _, _, _, _, _, _, _, _, _, _, _, _, _, _, _, _, _, _, v2, g2, w2⟩ := name_v hT g1 hF hk (-1) (Or.inr (Or.inl rfl))
  obtain ⟨r3, _, _, _, _, _, _, _, _, _, _, _, _, _, _, _, _, _, _, _, _, _, v3, g3, w3⟩ := name_v hT g2 hF hk 0 (Or.inr (Or.inr rfl))
  obtain ⟨r4, _, _, _, _, _, _, _, _, _, _, _, _, _, _, _, _, _, _, _, _, _, v4, g4, w4⟩ := chance_v hT g3 hF hk (show 0 ≤ 1 by omega)
  obtain ⟨r5, _, _, _, _, _, _, _, _, _, _, _, _, _, _, _, _, _, _, _, _, _, v5, g5, w5⟩ := chance_v hT g4 hF hk (show 1 ≤ 1 by omega)
  obtain ⟨r6, _, _, _, _, _, _, _, _, _, _, _, _, _, _, _, _, _, _, _, _, _, v6, g6, w6⟩ := off_v hT g5 hF hk
  obtain ⟨r7, _, _, _, _, _, _, _, _, _, _, _, _, _, _, _, _, _, _, _, _, _, v7, g7, w7⟩ := named_v hT g6 hF hC hS hTm hG1 hG2 hk (show 0 ≤ 1 by omega)
  obtain ⟨r8, _, _, _, _, _, _, _, _, _, _, _, _, _, _, _, _, _, _, _, _, _, v8, g8, w8⟩ := named_v hT g7 hF hC hS hTm hG1 hG2 hk (show 1 ≤ 1 by omega)
  obtain ⟨r9, nz', nf', nod', nln', nlt', nal', nto', pz', pf', pis', pln', plt', sz', sf', slt', fpc', fsf', faf', ford', fpf', fio', v9, g9, w9⟩ := changes_v hT g8 hF (show 0 < nN T n by omega) hk
  rw [n00] at v4 v7 v9 w7
  rw [n11] at v5 v8 w8
  have w1' := w1 _ _ _ _ _ _ _ _ _ _ hR
  have w2' := w2 _ _ _ _ _ _ _ _ _ _ hR
  have w3' := w3 _ _ _ _ _ _ _ _ _ _ hR
  have w4' := w4 _ _ _ _ _ _ _ _ _ _ hR
  have w5' := w5 _ _ _ _ _ _ _ _ _ _ hR
  have w6' := w6 _ _ _ _ _ _ _ _ _ _ hR
  have w9' := w9 _ _ _ _ _ _ _ _ _ _ hR
  rw [n00] at w9'
  have hN10 : nN T n ≤ 10 := pN_le
  refine ⟨31 * (31 * (31 * (31 * (31 * (31 * (31 * (31 * (31 * h + Int32.toInt64 r1) + Int32.toInt64 r2) + Int32.toInt64 r3) + r4) + r5) + Int32.toInt64 r6) + Int32.toInt64 r7) + Int32.toInt64 r8) + Int32.toInt64 r9, nz', nf', nod', nln', nlt', nal', nto', pz', pf', pis', pln', plt', sz', sf', slt', fpc', fsf', faf', ford', fpf', fio', ?_, g9, ?_⟩
  · unfold ND_mixName ND_mix
    rw [v1, cb23_s, cb1_s, v2, cb23_s, cb1_s, v3, cb23_s, cb1_s, v4, cb23_s, cb1_s, v5, cb23_s, cb1_s, v6, cb23_s, cb1_s, v7, cb23_s, cb1_s, v8, cb23_s, cb1_s, v9, cb23_s, cb1_s]
  · intro rec71
    unfold Mo_digest_b71
    rw [if_neg (show ¬ nI (nN T n) ≤ nI k by rw [leN (by omega) (by omega)]; omega), w1', cb1_s, w2', cb1_s, w3', cb1_s]
    obtain ⟨f, hf⟩ : ∃ f, F = f + 3 := ⟨F - 3, by omega⟩
    have e : ∀ f h, Mo_digest_l125 F fd rgs bytes typed se rl rec71 (f + 3) h (nI k) (nI 0) ra (nI (nN T n)) (nI (nP T n)) (nI (nS T n)) td rch rlo rle ris rpl rpt rso rw lst nts = Mo_digest_b151 F fd rgs bytes typed se rl rec71 (31 * (31 * h + r4) + r5) (nI k) ra (nI (nN T n)) (nI (nP T n)) (nI (nS T n)) td rch rlo rle ris rpl rpt rso rw lst nts := by
      intro f h
      show Mo_digest_b125 F fd rgs bytes typed se rl rec71 (Mo_digest_l125 F fd rgs bytes typed se rl rec71 (f + 2)) h (nI k) (nI 0) ra (nI (nN T n)) (nI (nP T n)) (nI (nS T n)) td rch rlo rle ris rpl rpt rso rw lst nts = _
      unfold Mo_digest_b125
      rw [if_neg (show ¬ (2 : Int32) ≤ nI 0 by decide), w4', cb1_s, show nI 0 + 1 = nI 1 from rfl]
      show Mo_digest_b125 F fd rgs bytes typed se rl rec71 (Mo_digest_l125 F fd rgs bytes typed se rl rec71 (f + 1)) _ (nI k) (nI 1) ra (nI (nN T n)) (nI (nP T n)) (nI (nS T n)) td rch rlo rle ris rpl rpt rso rw lst nts = _
      unfold Mo_digest_b125
      rw [if_neg (show ¬ (2 : Int32) ≤ nI 1 by decide), w5', cb1_s, show nI 1 + 1 = nI 2 from rfl]
      show Mo_digest_b125 F fd rgs bytes typed se rl rec71 (Mo_digest_l125 F fd rgs bytes typed se rl rec71 f) _ (nI k) (nI 2) ra (nI (nN T n)) (nI (nP T n)) (nI (nS T n)) td rch rlo rle ris rpl rpt rso rw lst nts = _
      unfold Mo_digest_b125
      rw [if_pos (show (2 : Int32) ≤ nI 2 by decide)]
    have e' := e f
    rw [← hf] at e'
    rw [show (0 : Int32) = nI 0 from rfl, e']
    unfold Mo_digest_b151
    rw [w6', cb1_s, w7, cb1_s, w8, cb1_s, w9', cb1_s, show nI k + 1 = nI (k + 1) from nI_1 _]
