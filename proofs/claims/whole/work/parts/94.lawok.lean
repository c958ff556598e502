/-! every answer is the same -/
theorem law_fin {F L : Nat} {xs : Nat → Int32} {f j : Nat} (ih : ∀ (st : Int32) (fd : Int32) (t0s : Int32) (t0b : (Nat → Int32)) (t1s : Int32) (t1b : (Nat → Int32)) (t2s : Int32) (t2b : (Nat → Int32)) (nz : Int32) (nf : Int32) (nod : (Nat → Int32)) (nln : (Nat → Int32)) (nlt : (Nat → Int32)) (nal : (Nat → Int32)) (nto : (Nat → Int32)) (pz : Int32) (pf : Int32) (pis : (Nat → Int32)) (pln : (Nat → Int32)) (plt : (Nat → Int32)) (sz : Int32) (sf : Int32) (slt : (Nat → Int32)) (fpc : Int32) (fsf : Int32) (faf : Int32) (ford : Int32) (fpf : (Nat → Int32)) (fio : (Nat → Int32)) (dt : (Nat → Int32)) (gs : Int32) (gl : (Nat → Int32)) (ws : Int32) (wl : (Nat → Int32)) (ys : Int32) (yd : Int32) (yn : (Nat → Int32)) (h0f : Int32) (h0s : Int32) (h0i : (Nat → Int32)) (h1f : Int32) (h1s : Int32) (h1i : (Nat → Int32)) (h2f : Int32) (h2s : Int32) (h2i : (Nat → Int32)) (h3f : Int32) (h3s : Int32) (h3i : (Nat → Int32)) (lat : Int32) (ra : Int32) (rn : Int32) (rp : Int32) (rs : Int32) (rgs : Int32) (td : Int32) (forms : (Nat → Int32)) (sizes : (Nat → Int32)) (items : (Nat → Int32)) (moved : (Nat → Int32)) (bytes : (Nat → Int32)) (typed : (Nat → Int32)) (rch : (Nat → Int32)) (rlo : (Nat → Int32)) (rle : (Nat → Int32)) (ris : (Nat → Int32)) (rpl : (Nat → Int32)) (rpt : (Nat → Int32)) (rso : (Nat → Int32)) (se : (Nat → Int32)) (rl : (Nat → Int32)) (rw : (Nat → Int32)) (lst : (Nat → Int64)) (nts : (Nat → Int32)), Inv st fd t0s t0b t1s t1b t2s t2b nz nf nod nln nlt nal nto pz pf pis pln plt sz sf slt fpc fsf faf ford fpf fio dt gs gl ws wl ys yd yn h0f h0s h0i h1f h1s h1i h2f h2s h2i h3f h3s h3i lat ra rn rp rs rgs td forms sizes items moved bytes typed rch rlo rle ris rpl rpt rso se rl rw lst nts → Law_l18 F L xs f (nI j) st fd t0s t0b t1s t1b t2s t2b nz nf nod nln nlt nal nto pz pf pis pln plt sz sf slt fpc fsf faf ford fpf fio dt gs gl ws wl ys yd yn h0f h0s h0i h1f h1s h1i h2f h2s h2i h3f h3s h3i lat ra rn rp rs rgs td forms sizes items moved bytes typed rch rlo rle ris rpl rpt rso se rl rw lst nts = some 1) {X : Option Int32} (h : ∃ st' fd' t0s' t0b' t1s' t1b' t2s' t2b' nz' nf' nod' nln' nlt' nal' nto' pz' pf' pis' pln' plt' sz' sf' slt' fpc' fsf' faf' ford' fpf' fio' dt' gs' gl' ws' wl' ys' yd' yn' h0f' h0s' h0i' h1f' h1s' h1i' h2f' h2s' h2i' h3f' h3s' h3i' lat' ra' rn' rp' rs' rgs' td' forms' sizes' items' moved' bytes' typed' rch' rlo' rle' ris' rpl' rpt' rso' se' rl' rw' lst' nts', X = Law_l18 F L xs f (nI j) st' fd' t0s' t0b' t1s' t1b' t2s' t2b' nz' nf' nod' nln' nlt' nal' nto' pz' pf' pis' pln' plt' sz' sf' slt' fpc' fsf' faf' ford' fpf' fio' dt' gs' gl' ws' wl' ys' yd' yn' h0f' h0s' h0i' h1f' h1s' h1i' h2f' h2s' h2i' h3f' h3s' h3i' lat' ra' rn' rp' rs' rgs' td' forms' sizes' items' moved' bytes' typed' rch' rlo' rle' ris' rpl' rpt' rso' se' rl' rw' lst' nts' ∧ Inv st' fd' t0s' t0b' t1s' t1b' t2s' t2b' nz' nf' nod' nln' nlt' nal' nto' pz' pf' pis' pln' plt' sz' sf' slt' fpc' fsf' faf' ford' fpf' fio' dt' gs' gl' ws' wl' ys' yd' yn' h0f' h0s' h0i' h1f' h1s' h1i' h2f' h2s' h2i' h3f' h3s' h3i' lat' ra' rn' rp' rs' rgs' td' forms' sizes' items' moved' bytes' typed' rch' rlo' rle' ris' rpl' rpt' rso' se' rl' rw' lst' nts') : X = some 1 := by
  obtain ⟨st', fd', t0s', t0b', t1s', t1b', t2s', t2b', nz', nf', nod', nln', nlt', nal', nto', pz', pf', pis', pln', plt', sz', sf', slt', fpc', fsf', faf', ford', fpf', fio', dt', gs', gl', ws', wl', ys', yd', yn', h0f', h0s', h0i', h1f', h1s', h1i', h2f', h2s', h2i', h3f', h3s', h3i', lat', ra', rn', rp', rs', rgs', td', forms', sizes', items', moved', bytes', typed', rch', rlo', rle', ris', rpl', rpt', rso', se', rl', rw', lst', nts', e, hI⟩ := h
  rw [e]; exact ih st' fd' t0s' t0b' t1s' t1b' t2s' t2b' nz' nf' nod' nln' nlt' nal' nto' pz' pf' pis' pln' plt' sz' sf' slt' fpc' fsf' faf' ford' fpf' fio' dt' gs' gl' ws' wl' ys' yd' yn' h0f' h0s' h0i' h1f' h1s' h1i' h2f' h2s' h2i' h3f' h3s' h3i' lat' ra' rn' rp' rs' rgs' td' forms' sizes' items' moved' bytes' typed' rch' rlo' rle' ris' rpl' rpt' rso' se' rl' rw' lst' nts' hI
theorem law_loop {F L : Nat} (hF : 20000 ≤ F) (hL : L ≤ 384) (xs : Nat → Int32) : ∀ (d j f : Nat) (st : Int32) (fd : Int32) (t0s : Int32) (t0b : (Nat → Int32)) (t1s : Int32) (t1b : (Nat → Int32)) (t2s : Int32) (t2b : (Nat → Int32)) (nz : Int32) (nf : Int32) (nod : (Nat → Int32)) (nln : (Nat → Int32)) (nlt : (Nat → Int32)) (nal : (Nat → Int32)) (nto : (Nat → Int32)) (pz : Int32) (pf : Int32) (pis : (Nat → Int32)) (pln : (Nat → Int32)) (plt : (Nat → Int32)) (sz : Int32) (sf : Int32) (slt : (Nat → Int32)) (fpc : Int32) (fsf : Int32) (faf : Int32) (ford : Int32) (fpf : (Nat → Int32)) (fio : (Nat → Int32)) (dt : (Nat → Int32)) (gs : Int32) (gl : (Nat → Int32)) (ws : Int32) (wl : (Nat → Int32)) (ys : Int32) (yd : Int32) (yn : (Nat → Int32)) (h0f : Int32) (h0s : Int32) (h0i : (Nat → Int32)) (h1f : Int32) (h1s : Int32) (h1i : (Nat → Int32)) (h2f : Int32) (h2s : Int32) (h2i : (Nat → Int32)) (h3f : Int32) (h3s : Int32) (h3i : (Nat → Int32)) (lat : Int32) (ra : Int32) (rn : Int32) (rp : Int32) (rs : Int32) (rgs : Int32) (td : Int32) (forms : (Nat → Int32)) (sizes : (Nat → Int32)) (items : (Nat → Int32)) (moved : (Nat → Int32)) (bytes : (Nat → Int32)) (typed : (Nat → Int32)) (rch : (Nat → Int32)) (rlo : (Nat → Int32)) (rle : (Nat → Int32)) (ris : (Nat → Int32)) (rpl : (Nat → Int32)) (rpt : (Nat → Int32)) (rso : (Nat → Int32)) (se : (Nat → Int32)) (rl : (Nat → Int32)) (rw : (Nat → Int32)) (lst : (Nat → Int64)) (nts : (Nat → Int32)), L < j + 6 + 6 * d → j ≤ 384 → d < f → Inv st fd t0s t0b t1s t1b t2s t2b nz nf nod nln nlt nal nto pz pf pis pln plt sz sf slt fpc fsf faf ford fpf fio dt gs gl ws wl ys yd yn h0f h0s h0i h1f h1s h1i h2f h2s h2i h3f h3s h3i lat ra rn rp rs rgs td forms sizes items moved bytes typed rch rlo rle ris rpl rpt rso se rl rw lst nts → Law_l18 F L xs f (nI j) st fd t0s t0b t1s t1b t2s t2b nz nf nod nln nlt nal nto pz pf pis pln plt sz sf slt fpc fsf faf ford fpf fio dt gs gl ws wl ys yd yn h0f h0s h0i h1f h1s h1i h2f h2s h2i h3f h3s h3i lat ra rn rp rs rgs td forms sizes items moved bytes typed rch rlo rle ris rpl rpt rso se rl rw lst nts = some 1 := by
  have cnd : ∀ j, j ≤ 384 → ((Int32.ofNat L - 6 < nI j) ↔ L < j + 6) := fun j hj => by
    rw [kof, n6, Int32.lt_iff_toInt_lt, pk_sub_toInt (by omega) (by omega), nI_toInt (by omega)]; omega
  intro d
  induction d with
  | zero =>
    intro j f st fd t0s t0b t1s t1b t2s t2b nz nf nod nln nlt nal nto pz pf pis pln plt sz sf slt fpc fsf faf ford fpf fio dt gs gl ws wl ys yd yn h0f h0s h0i h1f h1s h1i h2f h2s h2i h3f h3s h3i lat ra rn rp rs rgs td forms sizes items moved bytes typed rch rlo rle ris rpl rpt rso se rl rw lst nts h hj hf hI
    obtain ⟨f, rfl⟩ : ∃ f', f = f' + 1 := ⟨f - 1, by omega⟩
    show Law_b18 F L xs _ (nI j) st fd t0s t0b t1s t1b t2s t2b nz nf nod nln nlt nal nto pz pf pis pln plt sz sf slt fpc fsf faf ford fpf fio dt gs gl ws wl ys yd yn h0f h0s h0i h1f h1s h1i h2f h2s h2i h3f h3s h3i lat ra rn rp rs rgs td forms sizes items moved bytes typed rch rlo rle ris rpl rpt rso se rl rw lst nts = _
    unfold Law_b18
    rw [if_pos ((cnd j hj).mpr (by omega))]
  | succ d ih =>
    intro j f st fd t0s t0b t1s t1b t2s t2b nz nf nod nln nlt nal nto pz pf pis pln plt sz sf slt fpc fsf faf ford fpf fio dt gs gl ws wl ys yd yn h0f h0s h0i h1f h1s h1i h2f h2s h2i h3f h3s h3i lat ra rn rp rs rgs td forms sizes items moved bytes typed rch rlo rle ris rpl rpt rso se rl rw lst nts h hj hf hI
    obtain ⟨f, rfl⟩ : ∃ f', f = f' + 1 := ⟨f - 1, by omega⟩
    show Law_b18 F L xs (Law_l18 F L xs f) (nI j) st fd t0s t0b t1s t1b t2s t2b nz nf nod nln nlt nal nto pz pf pis pln plt sz sf slt fpc fsf faf ford fpf fio dt gs gl ws wl ys yd yn h0f h0s h0i h1f h1s h1i h2f h2s h2i h3f h3s h3i lat ra rn rp rs rgs td forms sizes items moved bytes typed rch rlo rle ris rpl rpt rso se rl rw lst nts = _
    unfold Law_b18
    by_cases hc : L < j + 6
    · rw [if_pos ((cnd j hj).mpr hc)]
    · have hj6 : j + 6 ≤ L := by omega
      rw [if_neg (fun hq => hc ((cnd j hj).mp hq)), rdN (by omega) (by omega)]
      have ih' := fun st fd t0s t0b t1s t1b t2s t2b nz nf nod nln nlt nal nto pz pf pis pln plt sz sf slt fpc fsf faf ford fpf fio dt gs gl ws wl ys yd yn h0f h0s h0i h1f h1s h1i h2f h2s h2i h3f h3s h3i lat ra rn rp rs rgs td forms sizes items moved bytes typed rch rlo rle ris rpl rpt rso se rl rw lst nts hI => ih (j + 6) f st fd t0s t0b t1s t1b t2s t2b nz nf nod nln nlt nal nto pz pf pis pln plt sz sf slt fpc fsf faf ford fpf fio dt gs gl ws wl ys yd yn h0f h0s h0i h1f h1s h1i h2f h2s h2i h3f h3s h3i lat ra rn rp rs rgs td forms sizes items moved bytes typed rch rlo rle ris rpl rpt rso se rl rw lst nts (by omega) (by omega) (by omega) hI
      by_cases h0q : xs j &&& 31 = 0
      · rw [if_pos h0q]; exact law_fin ih' (lb_176 hF hL xs hI (Law_l18 F L xs f) hj6)
      rw [if_neg h0q]
      by_cases h1q : xs j &&& 31 = 1
      · rw [if_pos h1q]; exact law_fin ih' (lb_209 hF hL xs hI (Law_l18 F L xs f) hj6)
      rw [if_neg h1q]
      by_cases h2q : xs j &&& 31 = 2
      · rw [if_pos h2q]; exact law_fin ih' (lb_232 hF hL xs hI (Law_l18 F L xs f) hj6)
      rw [if_neg h2q]
      by_cases h3q : xs j &&& 31 = 3
      · rw [if_pos h3q]; exact law_fin ih' (lb_255 hF hL xs hI (Law_l18 F L xs f) hj6)
      rw [if_neg h3q]
      by_cases h4q : xs j &&& 31 = 4
      · rw [if_pos h4q]; exact law_fin ih' (lb_278 hF hL xs hI (Law_l18 F L xs f) hj6)
      rw [if_neg h4q]
      by_cases h5q : xs j &&& 31 = 5
      · rw [if_pos h5q]; exact law_fin ih' (lb_311 hF hL xs hI (Law_l18 F L xs f) hj6)
      rw [if_neg h5q]
      by_cases h6q : xs j &&& 31 = 6
      · rw [if_pos h6q]; exact law_fin ih' (lb_344 hF hL xs hI (Law_l18 F L xs f) hj6)
      rw [if_neg h6q]
      by_cases h7q : xs j &&& 31 = 7
      · rw [if_pos h7q]; exact law_fin ih' (lb_367 hF hL xs hI (Law_l18 F L xs f) hj6)
      rw [if_neg h7q]
      by_cases h8q : xs j &&& 31 = 8
      · rw [if_pos h8q]; exact law_fin ih' (lb_380 hF hL xs hI (Law_l18 F L xs f) hj6)
      rw [if_neg h8q]
      by_cases h9q : xs j &&& 31 = 9
      · rw [if_pos h9q]; exact law_fin ih' (lb_403 hF hL xs hI (Law_l18 F L xs f) hj6)
      rw [if_neg h9q]
      by_cases h10q : xs j &&& 31 = 10
      · rw [if_pos h10q]; exact law_fin ih' (lb_416 hF hL xs hI (Law_l18 F L xs f) hj6)
      rw [if_neg h10q]
      by_cases h11q : xs j &&& 31 = 11
      · rw [if_pos h11q]; exact law_fin ih' (lb_450 hF hL xs hI (Law_l18 F L xs f) hj6)
      rw [if_neg h11q]
      by_cases h12q : xs j &&& 31 = 12
      · rw [if_pos h12q]; exact law_fin ih' (lb_473 hF hL xs hI (Law_l18 F L xs f) hj6)
      rw [if_neg h12q]
      by_cases h13q : xs j &&& 31 = 13
      · rw [if_pos h13q]; exact law_fin ih' (lb_496 hF hL xs hI (Law_l18 F L xs f) hj6)
      rw [if_neg h13q]
      by_cases h14q : xs j &&& 31 = 14
      · rw [if_pos h14q]; exact law_fin ih' (lb_529 hF hL xs hI (Law_l18 F L xs f) hj6)
      rw [if_neg h14q]
      by_cases h15q : xs j &&& 31 = 15
      · rw [if_pos h15q]; exact law_fin ih' (lb_552 hF hL xs hI (Law_l18 F L xs f) hj6)
      rw [if_neg h15q]
      by_cases h16q : xs j &&& 31 = 16
      · rw [if_pos h16q]; exact law_fin ih' (lb_576 hF hL xs hI (Law_l18 F L xs f) hj6)
      rw [if_neg h16q]
      by_cases h17q : xs j &&& 31 = 17
      · rw [if_pos h17q]; exact law_fin ih' (lb_620 hF hL xs hI (Law_l18 F L xs f) hj6)
      rw [if_neg h17q]
      by_cases h18q : xs j &&& 31 = 18
      · rw [if_pos h18q]; exact law_fin ih' (lb_643 hF hL xs hI (Law_l18 F L xs f) hj6)
      rw [if_neg h18q]
      by_cases h19q : xs j &&& 31 = 19
      · rw [if_pos h19q]; exact law_fin ih' (lb_656 hF hL xs hI (Law_l18 F L xs f) hj6)
      rw [if_neg h19q]
      by_cases h20q : xs j &&& 31 = 20
      · rw [if_pos h20q]; exact law_fin ih' (lb_679 hF hL xs hI (Law_l18 F L xs f) hj6)
      rw [if_neg h20q]
      by_cases h21q : xs j &&& 31 = 21
      · rw [if_pos h21q]; exact law_fin ih' (lb_722 hF hL xs hI (Law_l18 F L xs f) hj6)
      rw [if_neg h21q]
      by_cases h22q : xs j &&& 31 = 22
      · rw [if_pos h22q]; exact law_fin ih' (lb_745 hF hL xs hI (Law_l18 F L xs f) hj6)
      rw [if_neg h22q]
      by_cases h23q : xs j &&& 31 = 23
      · rw [if_pos h23q]; exact law_fin ih' (lb_778 hF hL xs hI (Law_l18 F L xs f) hj6)
      rw [if_neg h23q]
      by_cases h24q : xs j &&& 31 = 24
      · rw [if_pos h24q]; exact law_fin ih' (lb_811 hF hL xs hI (Law_l18 F L xs f) hj6)
      rw [if_neg h24q]
      by_cases h25q : xs j &&& 31 = 25
      · rw [if_pos h25q]; exact law_fin ih' (lb_854 hF hL xs hI (Law_l18 F L xs f) hj6)
      rw [if_neg h25q]
      by_cases h26q : xs j &&& 31 = 26
      · rw [if_pos h26q]; exact law_fin ih' (lb_877 hF hL xs hI (Law_l18 F L xs f) hj6)
      rw [if_neg h26q]
      by_cases h27q : xs j &&& 31 = 27
      · rw [if_pos h27q]; exact law_fin ih' (lb_930 hF hL xs hI (Law_l18 F L xs f) hj6)
      rw [if_neg h27q]
      by_cases h28q : xs j &&& 31 = 28
      · rw [if_pos h28q]; exact law_fin ih' (lb_973 hF hL xs hI (Law_l18 F L xs f) hj6)
      rw [if_neg h28q]
      by_cases h29q : xs j &&& 31 = 29
      · rw [if_pos h29q]; exact law_fin ih' (lb_1036 hF hL xs hI (Law_l18 F L xs f) hj6)
      rw [if_neg h29q]
      by_cases h30q : xs j &&& 31 = 30
      · rw [if_pos h30q]; exact law_fin ih' (lb_1059 hF hL xs hI (Law_l18 F L xs f) hj6)
      rw [if_neg h30q]
      by_cases h31q : xs j &&& 31 = 31
      · rw [if_pos h31q]; exact law_fin ih' (lb_1082 hF hL xs hI (Law_l18 F L xs f) hj6)
      rw [if_neg h31q]
      unfold Law_b1096
      rw [show nI j + 6 = nI (j + 6) by rw [n6, nI_add]]
      exact ih' st fd t0s t0b t1s t1b t2s t2b nz nf nod nln nlt nal nto pz pf pis pln plt sz sf slt fpc fsf faf ford fpf fio dt gs gl ws wl ys yd yn h0f h0s h0i h1f h1s h1i h2f h2s h2i h3f h3s h3i lat ra rn rp rs rgs td forms sizes items moved bytes typed rch rlo rle ris rpl rpt rso se rl rw lst nts hI
theorem inv0 : Inv 1 0 0 (fun _ => 0) 0 (fun _ => 0) 0 (fun _ => 0) 0 (-1) (fun _ => 0) (fun _ => 0) (fun _ => 0) (fun _ => 0) (fun _ => 0) 0 (-1) (fun _ => 0) (fun _ => 0) (fun _ => 0) 0 (-1) (fun _ => 0) 0 0 0 0 (fun _ => 0) (fun _ => 0) (upd (upd (upd (upd (upd (fun _ => 0) (Int32.toNatClampNeg 0) 1) (Int32.toNatClampNeg 1) 5) (Int32.toNatClampNeg 2) 10) (Int32.toNatClampNeg 3) 100) (Int32.toNatClampNeg 4) 1) 0 (fun _ => 0) 1 (fun _ => 0) 1 0 (fun _ => 0) 0 (-1) (fun _ => 0) 0 (-1) (fun _ => 0) 0 (-1) (fun _ => 0) 0 (-1) (fun _ => 0) 0 0 0 0 0 0 0 (upd (upd (upd (upd (fun _ => 0) (Int32.toNatClampNeg 0) (-1)) (Int32.toNatClampNeg 1) (-1)) (Int32.toNatClampNeg 2) (-1)) (Int32.toNatClampNeg 3) (-1)) (fun _ => 0) (fun _ => 0) (fun _ => 0) (fun _ => 0) (fun _ => 0) (fun _ => 0) (fun _ => 0) (fun _ => 0) (fun _ => 0) (fun _ => 0) (fun _ => 0) (fun _ => 0) (upd (upd (upd (upd (upd (fun _ => 0) (Int32.toNatClampNeg 0) 1) (Int32.toNatClampNeg 1) 5) (Int32.toNatClampNeg 2) 10) (Int32.toNatClampNeg 3) 100) (Int32.toNatClampNeg 4) 1) (fun _ => 0) (fun _ => 0) (fun _ => 0) (fun _ => 0) := by
  refine ⟨fun _ _ => 999, fun _ => 0, fun k => if k = 0 then 1 else if k = 1 then 5 else if k = 2 then 10 else if k = 3 then 100 else 1, 0, fun _ => 0, ?_, ?_, ?_, ?_, ?_, ?_, ?_, ?_, ?_, ?_, ?_, rfl⟩
  · exact ⟨rfl, ⟨Nat.zero_le _, by omega, fun j hj => absurd hj (Nat.not_lt_zero j), fun _ _ => rfl⟩, rfl, ⟨Nat.zero_le _, by omega, fun j hj => absurd hj (Nat.not_lt_zero j), fun _ _ => rfl⟩, rfl, ⟨Nat.zero_le _, by omega, fun j hj => absurd hj (Nat.not_lt_zero j), fun _ _ => rfl⟩⟩
  · exact fun k _ => ⟨rfl, fun j hj => absurd hj (Nat.not_lt_zero j)⟩
  · exact ⟨rfl, fun h => absurd h (by decide)⟩
  · intro k hk
    rcases (show k = 0 ∨ k = 1 ∨ k = 2 ∨ k = 3 ∨ k = 4 by omega) with rfl | rfl | rfl | rfl | rfl <;> rfl
  · intro k hk
    rcases (show k = 0 ∨ k = 1 ∨ k = 2 ∨ k = 3 ∨ k = 4 by omega) with rfl | rfl | rfl | rfl | rfl <;> rfl
  · intro k hk
    rcases (show k = 0 ∨ k = 1 ∨ k = 2 ∨ k = 3 ∨ k = 4 by omega) with rfl | rfl | rfl | rfl | rfl <;> decide
  · exact ⟨by omega, fun j hj => absurd hj (Nat.not_lt_zero j), rfl, fun j hj => absurd hj (Nat.not_lt_zero j)⟩
  · exact ⟨by omega, fun j hj => absurd hj (Nat.not_lt_zero j), rfl, fun j hj => absurd hj (Nat.not_lt_zero j)⟩
  · exact fun h => absurd h (by decide)
  · exact ⟨rfl, fun h => absurd h (by decide)⟩
  · exact ⟨Or.inl ⟨rfl, rfl⟩, Or.inl ⟨rfl, rfl⟩, Or.inl ⟨rfl, rfl⟩, Or.inl ⟨rfl, rfl⟩⟩
theorem law_ok (L : Nat) (xs : Nat → Int32) (hL : L ≤ 384) : ∃ F : Nat, Law_l18 F L xs F 0 1 0 0 (fun _ => 0) 0 (fun _ => 0) 0 (fun _ => 0) 0 (-1) (fun _ => 0) (fun _ => 0) (fun _ => 0) (fun _ => 0) (fun _ => 0) 0 (-1) (fun _ => 0) (fun _ => 0) (fun _ => 0) 0 (-1) (fun _ => 0) 0 0 0 0 (fun _ => 0) (fun _ => 0) (upd (upd (upd (upd (upd (fun _ => 0) (Int32.toNatClampNeg 0) 1) (Int32.toNatClampNeg 1) 5) (Int32.toNatClampNeg 2) 10) (Int32.toNatClampNeg 3) 100) (Int32.toNatClampNeg 4) 1) 0 (fun _ => 0) 1 (fun _ => 0) 1 0 (fun _ => 0) 0 (-1) (fun _ => 0) 0 (-1) (fun _ => 0) 0 (-1) (fun _ => 0) 0 (-1) (fun _ => 0) 0 0 0 0 0 0 0 (upd (upd (upd (upd (fun _ => 0) (Int32.toNatClampNeg 0) (-1)) (Int32.toNatClampNeg 1) (-1)) (Int32.toNatClampNeg 2) (-1)) (Int32.toNatClampNeg 3) (-1)) (fun _ => 0) (fun _ => 0) (fun _ => 0) (fun _ => 0) (fun _ => 0) (fun _ => 0) (fun _ => 0) (fun _ => 0) (fun _ => 0) (fun _ => 0) (fun _ => 0) (fun _ => 0) (upd (upd (upd (upd (upd (fun _ => 0) (Int32.toNatClampNeg 0) 1) (Int32.toNatClampNeg 1) 5) (Int32.toNatClampNeg 2) 10) (Int32.toNatClampNeg 3) 100) (Int32.toNatClampNeg 4) 1) (fun _ => 0) (fun _ => 0) (fun _ => 0) (fun _ => 0) = some 1 :=
  ⟨20000, law_loop (Nat.le_refl _) hL xs 64 0 20000 1 0 0 (fun _ => 0) 0 (fun _ => 0) 0 (fun _ => 0) 0 (-1) (fun _ => 0) (fun _ => 0) (fun _ => 0) (fun _ => 0) (fun _ => 0) 0 (-1) (fun _ => 0) (fun _ => 0) (fun _ => 0) 0 (-1) (fun _ => 0) 0 0 0 0 (fun _ => 0) (fun _ => 0) (upd (upd (upd (upd (upd (fun _ => 0) (Int32.toNatClampNeg 0) 1) (Int32.toNatClampNeg 1) 5) (Int32.toNatClampNeg 2) 10) (Int32.toNatClampNeg 3) 100) (Int32.toNatClampNeg 4) 1) 0 (fun _ => 0) 1 (fun _ => 0) 1 0 (fun _ => 0) 0 (-1) (fun _ => 0) 0 (-1) (fun _ => 0) 0 (-1) (fun _ => 0) 0 (-1) (fun _ => 0) 0 0 0 0 0 0 0 (upd (upd (upd (upd (fun _ => 0) (Int32.toNatClampNeg 0) (-1)) (Int32.toNatClampNeg 1) (-1)) (Int32.toNatClampNeg 2) (-1)) (Int32.toNatClampNeg 3) (-1)) (fun _ => 0) (fun _ => 0) (fun _ => 0) (fun _ => 0) (fun _ => 0) (fun _ => 0) (fun _ => 0) (fun _ => 0) (fun _ => 0) (fun _ => 0) (fun _ => 0) (fun _ => 0) (upd (upd (upd (upd (upd (fun _ => 0) (Int32.toNatClampNeg 0) 1) (Int32.toNatClampNeg 1) 5) (Int32.toNatClampNeg 2) 10) (Int32.toNatClampNeg 3) 100) (Int32.toNatClampNeg 4) 1) (fun _ => 0) (fun _ => 0) (fun _ => 0) (fun _ => 0) (by omega) (by omega) (by omega) inv0⟩
