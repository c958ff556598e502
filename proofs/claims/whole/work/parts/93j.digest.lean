/-! digest: the rest -/
theorem n22 : nI 2 = (2 : Int32) := rfl
theorem n99 : nI 99 = (99 : Int32) := rfl
theorem dg_names {T : Nat → Nat → Nat} {n : Nat → Nat} {t0s : Int32} {t0b : (Nat → Int32)} {t1s : Int32} {t1b : (Nat → Int32)} {t2s : Int32} {t2b : (Nat → Int32)} (hT : TxC T n t0s t0b t1s t1b t2s t2b) {F : Nat} (hF : 2000 ≤ F) {tm : Nat → Nat} {dt se : Nat → Int32} (hC : TmC tm dt) (hS : TmC tm se) (hTm : TmOK tm) {m : Nat} {g0 : Nat → Nat} {gs : Int32} {gl : Nat → Int32} {rgs : Int32} {rl : Nat → Int32} (hG1 : GuOK m g0 gs gl) (hG2 : GuOK m g0 rgs rl) (fd : Int32) (bytes typed : Nat → Int32) (ws : Int32) (wl : Nat → Int32) (ys yd : Int32) (yn : Nat → Int32) {ra td : Int32} {rch rlo rle ris rpl rpt rso rw : Nat → Int32} {lst : Nat → Int64} {nts : Nat → Int32} (hR : RdOK T n (nI (nN T n)) (nI (nP T n)) (nI (nS T n)) rch rlo rle ris rpl rpt rso) : ∀ (d k f f2 : Nat) (h : Int64) (nz : Int32) (nf : Int32) (nod : (Nat → Int32)) (nln : (Nat → Int32)) (nlt : (Nat → Int32)) (nal : (Nat → Int32)) (nto : (Nat → Int32)) (pz : Int32) (pf : Int32) (pis : (Nat → Int32)) (pln : (Nat → Int32)) (plt : (Nat → Int32)) (sz : Int32) (sf : Int32) (slt : (Nat → Int32)) (fpc : Int32) (fsf : Int32) (faf : Int32) (ford : Int32) (fpf : (Nat → Int32)) (fio : (Nat → Int32)), k + d = nN T n → d < f → d < f2 → DrC T n 0 nz nf nod nln nlt nal nto pz pf pis pln plt sz sf slt fpc fsf faf ford fpf fio → ∃ h' nz' nf' nod' nln' nlt' nal' nto' pz' pf' pis' pln' plt' sz' sf' slt' fpc' fsf' faf' ford' fpf' fio', ND_digest_l65 F fd t0s t0b t1s t1b t2s t2b dt gs gl f h (nI k) 0 nz nf nod nln nlt nal nto pz pf pis pln plt sz sf slt fpc fsf faf ford fpf fio ws wl ys yd yn = ND_digest_b89 F fd t0s t0b t1s t1b t2s t2b dt gs gl h' 0 nz' nf' nod' nln' nlt' nal' nto' pz' pf' pis' pln' plt' sz' sf' slt' fpc' fsf' faf' ford' fpf' fio' ws wl ys yd yn ∧ Mo_digest_l71 F fd rgs bytes typed se rl f2 h (nI k) ra (nI (nN T n)) (nI (nP T n)) (nI (nS T n)) td rch rlo rle ris rpl rpt rso rw lst nts = Mo_digest_b212 F fd rgs bytes typed se rl h' ra (nI (nN T n)) (nI (nP T n)) (nI (nS T n)) td rch rlo rle ris rpl rpt rso rw lst nts ∧ DrC T n 0 nz' nf' nod' nln' nlt' nal' nto' pz' pf' pis' pln' plt' sz' sf' slt' fpc' fsf' faf' ford' fpf' fio' := by
  have hN10 : nN T n ≤ 10 := pN_le
  intro d
  induction d with
  | zero =>
    intro k f f2 h nz nf nod nln nlt nal nto pz pf pis pln plt sz sf slt fpc fsf faf ford fpf fio hk hf hf2 hD
    obtain ⟨f, rfl⟩ : ∃ f', f = f' + 1 := ⟨f - 1, by omega⟩
    obtain ⟨f2, rfl⟩ : ∃ f', f2 = f' + 1 := ⟨f2 - 1, by omega⟩
    have hz : nz = nI (nN T n) := (hD.2 rfl).1.1
    refine ⟨h, nz, nf, nod, nln, nlt, nal, nto, pz, pf, pis, pln, plt, sz, sf, slt, fpc, fsf, faf, ford, fpf, fio, ?_, ?_, hD⟩
    · show ND_digest_b65 F fd t0s t0b t1s t1b t2s t2b dt gs gl _ h _ 0 nz nf nod nln nlt nal nto pz pf pis pln plt sz sf slt fpc fsf faf ford fpf fio ws wl ys yd yn = _
      unfold ND_digest_b65 Na_size
      rw [cb1_s, if_pos (show nz ≤ nI k by rw [hz, leN (by omega) (by omega)]; omega)]
    · show Mo_digest_b71 F fd rgs bytes typed se rl _ h _ ra (nI (nN T n)) (nI (nP T n)) (nI (nS T n)) td rch rlo rle ris rpl rpt rso rw lst nts = _
      unfold Mo_digest_b71
      rw [if_pos (show nI (nN T n) ≤ nI k by rw [leN (by omega) (by omega)]; omega)]
  | succ d ih =>
    intro k f f2 h nz nf nod nln nlt nal nto pz pf pis pln plt sz sf slt fpc fsf faf ford fpf fio hk hf hf2 hD
    obtain ⟨f, rfl⟩ : ∃ f', f = f' + 1 := ⟨f - 1, by omega⟩
    obtain ⟨f2, rfl⟩ : ∃ f', f2 = f' + 1 := ⟨f2 - 1, by omega⟩
    have hz : nz = nI (nN T n) := (hD.2 rfl).1.1
    obtain ⟨h1, nz', nf', nod', nln', nlt', nal', nto', pz', pf', pis', pln', plt', sz', sf', slt', fpc', fsf', faf', ford', fpf', fio', v1, g1, v2⟩ := dg_name hT hF hC hS hTm hG1 hG2 fd bytes typed (ra := ra) (td := td) (rw := rw) (lst := lst) (nts := nts) hR (show k < nN T n by omega) h nz nf nod nln nlt nal nto pz pf pis pln plt sz sf slt fpc fsf faf ford fpf fio hD
    obtain ⟨h2, nz', nf', nod', nln', nlt', nal', nto', pz', pf', pis', pln', plt', sz', sf', slt', fpc', fsf', faf', ford', fpf', fio', k1, k2, k3⟩ := ih (k + 1) f f2 h1 nz' nf' nod' nln' nlt' nal' nto' pz' pf' pis' pln' plt' sz' sf' slt' fpc' fsf' faf' ford' fpf' fio' (by omega) (by omega) (by omega) g1
    refine ⟨h2, nz', nf', nod', nln', nlt', nal', nto', pz', pf', pis', pln', plt', sz', sf', slt', fpc', fsf', faf', ford', fpf', fio', ?_, ?_, k3⟩
    · rw [← k1]
      show ND_digest_b65 F fd t0s t0b t1s t1b t2s t2b dt gs gl (ND_digest_l65 F fd t0s t0b t1s t1b t2s t2b dt gs gl f) h _ 0 nz nf nod nln nlt nal nto pz pf pis pln plt sz sf slt fpc fsf faf ford fpf fio ws wl ys yd yn = _
      unfold ND_digest_b65 Na_size
      rw [cb1_s, if_neg (show ¬ nz ≤ nI k by rw [hz, leN (by omega) (by omega)]; omega), v1, cb23_s, show nI k + 1 = nI (k + 1) from nI_1 _]
    · rw [← k2]
      exact v2 (Mo_digest_l71 F fd rgs bytes typed se rl f2)
theorem dg_pieces {T : Nat → Nat → Nat} {n : Nat → Nat} {t0s : Int32} {t0b : (Nat → Int32)} {t1s : Int32} {t1b : (Nat → Int32)} {t2s : Int32} {t2b : (Nat → Int32)} (hT : TxC T n t0s t0b t1s t1b t2s t2b) {F : Nat} (hF : 2000 ≤ F) (fd gs rgs : Int32) (dt gl se rl bytes typed : Nat → Int32) (ws : Int32) (wl : Nat → Int32) (ys yd : Int32) (yn : Nat → Int32) {ra td : Int32} {rch rlo rle ris rpl rpt rso rw : Nat → Int32} {lst : Nat → Int64} {nts : Nat → Int32} (hR : RdOK T n (nI (nN T n)) (nI (nP T n)) (nI (nS T n)) rch rlo rle ris rpl rpt rso) : ∀ (d k f f2 : Nat) (h : Int64) (nz : Int32) (nf : Int32) (nod : (Nat → Int32)) (nln : (Nat → Int32)) (nlt : (Nat → Int32)) (nal : (Nat → Int32)) (nto : (Nat → Int32)) (pz : Int32) (pf : Int32) (pis : (Nat → Int32)) (pln : (Nat → Int32)) (plt : (Nat → Int32)) (sz : Int32) (sf : Int32) (slt : (Nat → Int32)) (fpc : Int32) (fsf : Int32) (faf : Int32) (ford : Int32) (fpf : (Nat → Int32)) (fio : (Nat → Int32)), k + d = nP T n → d < f → d < f2 → DrC T n 0 nz nf nod nln nlt nal nto pz pf pis pln plt sz sf slt fpc fsf faf ford fpf fio → ∃ h' nz' nf' nod' nln' nlt' nal' nto' pz' pf' pis' pln' plt' sz' sf' slt' fpc' fsf' faf' ford' fpf' fio', ND_digest_l91 F fd t0s t0b t1s t1b t2s t2b dt gs gl f h (nI k) 0 nz nf nod nln nlt nal nto pz pf pis pln plt sz sf slt fpc fsf faf ford fpf fio ws wl ys yd yn = ND_digest_b119 F fd t0s t0b t1s t1b t2s t2b dt gs gl h' 0 nz' nf' nod' nln' nlt' nal' nto' pz' pf' pis' pln' plt' sz' sf' slt' fpc' fsf' faf' ford' fpf' fio' ws wl ys yd yn ∧ Mo_digest_l214 F fd rgs bytes typed se rl f2 h (nI k) ra (nI (nN T n)) (nI (nP T n)) (nI (nS T n)) td rch rlo rle ris rpl rpt rso rw lst nts = Mo_digest_b241 F fd rgs bytes typed se rl h' ra (nI (nN T n)) (nI (nP T n)) (nI (nS T n)) td rch rlo rle ris rpl rpt rso rw lst nts ∧ DrC T n 0 nz' nf' nod' nln' nlt' nal' nto' pz' pf' pis' pln' plt' sz' sf' slt' fpc' fsf' faf' ford' fpf' fio' := by
  have hP6 : nP T n ≤ 6 := pP_le
  intro d
  induction d with
  | zero =>
    intro k f f2 h nz nf nod nln nlt nal nto pz pf pis pln plt sz sf slt fpc fsf faf ford fpf fio hk hf hf2 hD
    obtain ⟨f, rfl⟩ : ∃ f', f = f' + 1 := ⟨f - 1, by omega⟩
    obtain ⟨f2, rfl⟩ : ∃ f', f2 = f' + 1 := ⟨f2 - 1, by omega⟩
    have hz : pz = nI (nP T n) := (hD.2 rfl).2.1.1
    refine ⟨h, nz, nf, nod, nln, nlt, nal, nto, pz, pf, pis, pln, plt, sz, sf, slt, fpc, fsf, faf, ford, fpf, fio, ?_, ?_, hD⟩
    · show ND_digest_b91 F fd t0s t0b t1s t1b t2s t2b dt gs gl _ h _ 0 nz nf nod nln nlt nal nto pz pf pis pln plt sz sf slt fpc fsf faf ford fpf fio ws wl ys yd yn = _
      unfold ND_digest_b91 Pi_size
      rw [cb1_s, if_pos (show pz ≤ nI k by rw [hz, leN (by omega) (by omega)]; omega)]
    · show Mo_digest_b214 F fd rgs bytes typed se rl _ h _ ra (nI (nN T n)) (nI (nP T n)) (nI (nS T n)) td rch rlo rle ris rpl rpt rso rw lst nts = _
      unfold Mo_digest_b214
      rw [if_pos (show nI (nP T n) ≤ nI k by rw [leN (by omega) (by omega)]; omega)]
  | succ d ih =>
    intro k f f2 h nz nf nod nln nlt nal nto pz pf pis pln plt sz sf slt fpc fsf faf ford fpf fio hk hf hf2 hD
    obtain ⟨f, rfl⟩ : ∃ f', f = f' + 1 := ⟨f - 1, by omega⟩
    obtain ⟨f2, rfl⟩ : ∃ f', f2 = f' + 1 := ⟨f2 - 1, by omega⟩
    have hz : pz = nI (nP T n) := (hD.2 rfl).2.1.1
    obtain ⟨r, nz', nf', nod', nln', nlt', nal', nto', pz', pf', pis', pln', plt', sz', sf', slt', fpc', fsf', faf', ford', fpf', fio', v1, g1, v2⟩ := heard_v hT hD hF (show k < nP T n by omega)
    obtain ⟨h2, nz', nf', nod', nln', nlt', nal', nto', pz', pf', pis', pln', plt', sz', sf', slt', fpc', fsf', faf', ford', fpf', fio', k1, k2, k3⟩ := ih (k + 1) f f2 (31 * h + Int32.toInt64 r) nz' nf' nod' nln' nlt' nal' nto' pz' pf' pis' pln' plt' sz' sf' slt' fpc' fsf' faf' ford' fpf' fio' (by omega) (by omega) (by omega) g1
    refine ⟨h2, nz', nf', nod', nln', nlt', nal', nto', pz', pf', pis', pln', plt', sz', sf', slt', fpc', fsf', faf', ford', fpf', fio', ?_, ?_, k3⟩
    · rw [← k1]
      show ND_digest_b91 F fd t0s t0b t1s t1b t2s t2b dt gs gl (ND_digest_l91 F fd t0s t0b t1s t1b t2s t2b dt gs gl f) h _ 0 nz nf nod nln nlt nal nto pz pf pis pln plt sz sf slt fpc fsf faf ford fpf fio ws wl ys yd yn = _
      unfold ND_digest_b91 Pi_size ND_mix
      rw [cb1_s, if_neg (show ¬ pz ≤ nI k by rw [hz, leN (by omega) (by omega)]; omega), v1, cb23_s, cb1_s, show nI k + 1 = nI (k + 1) from nI_1 _]
    · rw [← k2]
      show Mo_digest_b214 F fd rgs bytes typed se rl (Mo_digest_l214 F fd rgs bytes typed se rl f2) h _ ra (nI (nN T n)) (nI (nP T n)) (nI (nS T n)) td rch rlo rle ris rpl rpt rso rw lst nts = _
      unfold Mo_digest_b214
      rw [if_neg (show ¬ nI (nP T n) ≤ nI k by rw [leN (by omega) (by omega)]; omega), v2 _ _ _ _ _ _ _ _ _ _ hR, cb1_s, show nI k + 1 = nI (k + 1) from nI_1 _]
theorem dg_rows {T : Nat → Nat → Nat} {n : Nat → Nat} {t0s : Int32} {t0b : (Nat → Int32)} {t1s : Int32} {t1b : (Nat → Int32)} {t2s : Int32} {t2b : (Nat → Int32)} (hT : TxC T n t0s t0b t1s t1b t2s t2b) {F : Nat} (hF : 2000 ≤ F) (fd rgs : Int32) (dt se rl bytes typed : Nat → Int32) (ws : Int32) (wl : Nat → Int32) (ys yd : Int32) (yn : Nat → Int32) (x1 : Int64) {ra td : Int32} {rch rlo rle ris rpl rpt rso : Nat → Int32} {lst : Nat → Int64} {nts : Nat → Int32} (hR : RdOK T n (nI (nN T n)) (nI (nP T n)) (nI (nS T n)) rch rlo rle ris rpl rpt rso) : ∀ (d k f f2 : Nat) (h : Int64) (nz : Int32) (nf : Int32) (nod : (Nat → Int32)) (nln : (Nat → Int32)) (nlt : (Nat → Int32)) (nal : (Nat → Int32)) (nto : (Nat → Int32)) (pz : Int32) (pf : Int32) (pis : (Nat → Int32)) (pln : (Nat → Int32)) (plt : (Nat → Int32)) (sz : Int32) (sf : Int32) (slt : (Nat → Int32)) (fpc : Int32) (fsf : Int32) (faf : Int32) (ford : Int32) (fpf : (Nat → Int32)) (fio : (Nat → Int32)) (rw : Nat → Int32), k + d = 10 → d < f → d < f2 → DrC T n 0 nz nf nod nln nlt nal nto pz pf pis pln plt sz sf slt fpc fsf faf ford fpf fio → ∃ h' nz' nf' nod' nln' nlt' nal' nto' pz' pf' pis' pln' plt' sz' sf' slt' fpc' fsf' faf' ford' fpf' fio' rw', ND_mixRow_l5 F t0s t0b t1s t1b t2s t2b dt x1 f h (nI k) 0 nz nf nod nln nlt nal nto pz pf pis pln plt sz sf slt fpc fsf faf ford fpf fio ws wl ys yd yn = ND_mixRow_b30 F t0s t0b t1s t1b t2s t2b dt x1 h' 0 nz' nf' nod' nln' nlt' nal' nto' pz' pf' pis' pln' plt' sz' sf' slt' fpc' fsf' faf' ford' fpf' fio' ws wl ys yd yn ∧ Mo_digest_l243 F fd rgs bytes typed se rl f2 h (nI k) ra (nI (nN T n)) (nI (nP T n)) (nI (nS T n)) td rch rlo rle ris rpl rpt rso rw lst nts = Mo_digest_b268 F fd rgs bytes typed se rl h' ra (nI (nN T n)) (nI (nP T n)) (nI (nS T n)) td rch rlo rle ris rpl rpt rso rw' lst nts ∧ DrC T n 0 nz' nf' nod' nln' nlt' nal' nto' pz' pf' pis' pln' plt' sz' sf' slt' fpc' fsf' faf' ford' fpf' fio' := by
  intro d
  induction d with
  | zero =>
    intro k f f2 h nz nf nod nln nlt nal nto pz pf pis pln plt sz sf slt fpc fsf faf ford fpf fio rw hk hf hf2 hD
    obtain ⟨f, rfl⟩ : ∃ f', f = f' + 1 := ⟨f - 1, by omega⟩
    obtain ⟨f2, rfl⟩ : ∃ f', f2 = f' + 1 := ⟨f2 - 1, by omega⟩
    obtain rfl : k = 10 := by omega
    refine ⟨h, nz, nf, nod, nln, nlt, nal, nto, pz, pf, pis, pln, plt, sz, sf, slt, fpc, fsf, faf, ford, fpf, fio, rw, ?_, ?_, hD⟩
    · show ND_mixRow_b5 F t0s t0b t1s t1b t2s t2b dt x1 _ h _ 0 nz nf nod nln nlt nal nto pz pf pis pln plt sz sf slt fpc fsf faf ford fpf fio ws wl ys yd yn = _
      unfold ND_mixRow_b5
      rw [if_pos (show (10 : Int32) ≤ nI 10 by decide)]
    · show Mo_digest_b243 F fd rgs bytes typed se rl _ h _ ra (nI (nN T n)) (nI (nP T n)) (nI (nS T n)) td rch rlo rle ris rpl rpt rso rw lst nts = _
      unfold Mo_digest_b243
      rw [if_pos (show (10 : Int32) ≤ nI 10 by decide)]
  | succ d ih =>
    intro k f f2 h nz nf nod nln nlt nal nto pz pf pis pln plt sz sf slt fpc fsf faf ford fpf fio rw hk hf hf2 hD
    obtain ⟨f, rfl⟩ : ∃ f', f = f' + 1 := ⟨f - 1, by omega⟩
    obtain ⟨f2, rfl⟩ : ∃ f', f2 = f' + 1 := ⟨f2 - 1, by omega⟩
    obtain ⟨r, nz', nf', nod', nln', nlt', nal', nto', pz', pf', pis', pln', plt', sz', sf', slt', fpc', fsf', faf', ford', fpf', fio', v1, g1, v2⟩ := row_v hT hD hF (show k ≤ 9 by omega)
    obtain ⟨rw', v3⟩ := v2 _ _ _ _ _ _ _ _ _ _ rw hR
    obtain ⟨h2, nz', nf', nod', nln', nlt', nal', nto', pz', pf', pis', pln', plt', sz', sf', slt', fpc', fsf', faf', ford', fpf', fio', rw', k1, k2, k3⟩ := ih (k + 1) f f2 (31 * h + Int32.toInt64 r) nz' nf' nod' nln' nlt' nal' nto' pz' pf' pis' pln' plt' sz' sf' slt' fpc' fsf' faf' ford' fpf' fio' rw' (by omega) (by omega) (by omega) g1
    refine ⟨h2, nz', nf', nod', nln', nlt', nal', nto', pz', pf', pis', pln', plt', sz', sf', slt', fpc', fsf', faf', ford', fpf', fio', rw', ?_, ?_, k3⟩
    · rw [← k1]
      show ND_mixRow_b5 F t0s t0b t1s t1b t2s t2b dt x1 (ND_mixRow_l5 F t0s t0b t1s t1b t2s t2b dt x1 f) h _ 0 nz nf nod nln nlt nal nto pz pf pis pln plt sz sf slt fpc fsf faf ford fpf fio ws wl ys yd yn = _
      unfold ND_mixRow_b5 ND_mix
      rw [if_neg (show ¬ (10 : Int32) ≤ nI k by rw [n10, leN (by omega) (by omega)]; omega), v1, cb23_s, cb1_s, show nI k + 1 = nI (k + 1) from nI_1 _]
    · rw [← k2]
      show Mo_digest_b243 F fd rgs bytes typed se rl (Mo_digest_l243 F fd rgs bytes typed se rl f2) h _ ra (nI (nN T n)) (nI (nP T n)) (nI (nS T n)) td rch rlo rle ris rpl rpt rso rw lst nts = _
      unfold Mo_digest_b243
      rw [if_neg (show ¬ (10 : Int32) ≤ nI k by rw [n10, leN (by omega) (by omega)]; omega), v3, cb2_s, show nI k + 1 = nI (k + 1) from nI_1 _]
def SPV (T : Nat → Nat → Nat) (n tm : Nat → Nat) (x : Nat) : Int32 := if FM T n 63 = 0 then -3 else if x * ww (T 0) (FM T n 63) < VV (T 0) (nN T n) tm (tm 2) (FM T n 63) then 0 else 1
theorem dg_means {T : Nat → Nat → Nat} {n : Nat → Nat} {t0s : Int32} {t0b : (Nat → Int32)} {t1s : Int32} {t1b : (Nat → Int32)} {t2s : Int32} {t2b : (Nat → Int32)} (hT : TxC T n t0s t0b t1s t1b t2s t2b) {F : Nat} (hF : 2000 ≤ F) {tm : Nat → Nat} {dt se : Nat → Int32} (hC : TmC tm dt) (hS : TmC tm se) (hTm : TmOK tm) (fd rgs : Int32) (rl bytes typed : Nat → Int32) (ws : Int32) (wl : Nat → Int32) (ys yd : Int32) (yn : Nat → Int32) (x1 h : Int64) (nz : Int32) (nf : Int32) (nod : (Nat → Int32)) (nln : (Nat → Int32)) (nlt : (Nat → Int32)) (nal : (Nat → Int32)) (nto : (Nat → Int32)) (pz : Int32) (pf : Int32) (pis : (Nat → Int32)) (pln : (Nat → Int32)) (plt : (Nat → Int32)) (sz : Int32) (sf : Int32) (slt : (Nat → Int32)) (fpc : Int32) (fsf : Int32) (faf : Int32) (ford : Int32) (fpf : (Nat → Int32)) (fio : (Nat → Int32)) (hD : DrC T n 0 nz nf nod nln nlt nal nto pz pf pis pln plt sz sf slt fpc fsf faf ford fpf fio) {ra td : Int32} {rch rlo rle ris rpl rpt rso rw : Nat → Int32} {lst : Nat → Int64} {nts : Nat → Int32} (hR : RdOK T n (nI (nN T n)) (nI (nP T n)) (nI (nS T n)) rch rlo rle ris rpl rpt rso) : ∃ h' nz' nf' nod' nln' nlt' nal' nto' pz' pf' pis' pln' plt' sz' sf' slt' fpc' fsf' faf' ford' fpf' fio' td' rw' lst', ND_mixRow_b30 F t0s t0b t1s t1b t2s t2b dt x1 h 0 nz nf nod nln nlt nal nto pz pf pis pln plt sz sf slt fpc fsf faf ford fpf fio ws wl ys yd yn = ND_mixRow_l53 F t0s t0b t1s t1b t2s t2b dt x1 F h' (nI 0) 0 nz' nf' nod' nln' nlt' nal' nto' pz' pf' pis' pln' plt' sz' sf' slt' fpc' fsf' faf' ford' fpf' fio' ws wl ys yd yn ∧ Mo_digest_b268 F fd rgs bytes typed se rl h ra (nI (nN T n)) (nI (nP T n)) (nI (nS T n)) td rch rlo rle ris rpl rpt rso rw lst nts = Mo_digest_l316 F fd rgs bytes typed se rl F h' (nI (FM T n 63)) (SPV T n tm 99) (nI 0) ra (nI (nN T n)) (nI (nP T n)) (nI (nS T n)) td' rch rlo rle ris rpl rpt rso rw' lst' nts ∧ DrC T n 0 nz' nf' nod' nln' nlt' nal' nto' pz' pf' pis' pln' plt' sz' sf' slt' fpc' fsf' faf' ford' fpf' fio' ∧ td' = actN (T 0) (nN T n) tm 0 (FM T n 63) ∧ lst' (1024 * 0 + FM T n 63) = lI (VV (T 0) (nN T n) tm (tm 2 - 0) (FM T n 63)) := by
  obtain ⟨r0, nz', nf', nod', nln', nlt', nal', nto', pz', pf', pis', pln', plt', sz', sf', slt', fpc', fsf', faf', ford', fpf', fio', v0, g0, w0⟩ := mean_v hT hD hF hC hTm (show 0 ≤ 1 by omega)
  obtain ⟨r1, nz', nf', nod', nln', nlt', nal', nto', pz', pf', pis', pln', plt', sz', sf', slt', fpc', fsf', faf', ford', fpf', fio', v1, g1, w1⟩ := mean_v hT g0 hF hC hTm (show 1 ≤ 1 by omega)
  obtain ⟨rw1, w0'⟩ := w0 _ _ _ _ _ _ _ _ _ _ se rw hR hS
  obtain ⟨rw2, w1'⟩ := w1 _ _ _ _ _ _ _ _ _ _ se rw1 hR hS
  have hm : FM T n 63 < 2 ^ (nN T n) := fm_lt _ _ _ _ _ _ _
  have hN10 : nN T n ≤ 10 := pN_le
  obtain ⟨lst', f1, f2⟩ := Mo_findWisest_ok hR.2.2.2.1 hN10 hS hTm hF (n1 := 0) (Nat.zero_le _) hm td lst
  rw [n00] at f1
  have sp := Mo_spunBy_v hR.2.2.2.1 hN10 hTm hF (x := 99) (by omega) hm f2
  rw [n99] at sp
  rw [n00] at v0
  rw [n11] at v1
  refine ⟨31 * (31 * h + r0) + r1, nz', nf', nod', nln', nlt', nal', nto', pz', pf', pis', pln', plt', sz', sf', slt', fpc', fsf', faf', ford', fpf', fio', _, rw2, lst', ?_, ?_, g1, rfl, f2⟩
  · unfold ND_mixRow_b30 ND_mix
    rw [v0, cb23_s, cb1_s, v1, cb23_s, cb1_s, n00]
  · unfold Mo_digest_b268
    obtain ⟨f, hf⟩ : ∃ f, F = f + 3 := ⟨F - 3, by omega⟩
    have e : ∀ f, Mo_digest_l270 F fd rgs bytes typed se rl (f + 3) h (nI 0) ra (nI (nN T n)) (nI (nP T n)) (nI (nS T n)) td rch rlo rle ris rpl rpt rso rw lst nts = Mo_digest_b293 F fd rgs bytes typed se rl (31 * (31 * h + r0) + r1) ra (nI (nN T n)) (nI (nP T n)) (nI (nS T n)) td rch rlo rle ris rpl rpt rso rw2 lst nts := by
      intro f
      show Mo_digest_b270 F fd rgs bytes typed se rl (Mo_digest_l270 F fd rgs bytes typed se rl (f + 2)) h (nI 0) ra (nI (nN T n)) (nI (nP T n)) (nI (nS T n)) td rch rlo rle ris rpl rpt rso rw lst nts = _
      unfold Mo_digest_b270
      rw [if_neg (show ¬ (2 : Int32) ≤ nI 0 by decide), w0', cb2_s, show nI 0 + 1 = nI 1 from rfl]
      show Mo_digest_b270 F fd rgs bytes typed se rl (Mo_digest_l270 F fd rgs bytes typed se rl (f + 1)) _ (nI 1) ra (nI (nN T n)) (nI (nP T n)) (nI (nS T n)) td rch rlo rle ris rpl rpt rso rw1 lst nts = _
      unfold Mo_digest_b270
      rw [if_neg (show ¬ (2 : Int32) ≤ nI 1 by decide), w1', cb2_s, show nI 1 + 1 = nI 2 from rfl]
      show Mo_digest_b270 F fd rgs bytes typed se rl (Mo_digest_l270 F fd rgs bytes typed se rl f) _ (nI 2) ra (nI (nN T n)) (nI (nP T n)) (nI (nS T n)) td rch rlo rle ris rpl rpt rso rw2 lst nts = _
      unfold Mo_digest_b270
      rw [if_pos (show (2 : Int32) ≤ nI 2 by decide)]
    have e' := e f
    rw [← hf] at e'
    rw [show (0 : Int32) = nI 0 from rfl, e']
    unfold Mo_digest_b293
    rw [fitsNow_v (n2_le hT) hR hF, cb1_s, f1, cb2_s, sp, cb1_s]; rfl
theorem dg_wise {T : Nat → Nat → Nat} {n : Nat → Nat} {t0s : Int32} {t0b : (Nat → Int32)} {t1s : Int32} {t1b : (Nat → Int32)} {t2s : Int32} {t2b : (Nat → Int32)} (hT : TxC T n t0s t0b t1s t1b t2s t2b) {F : Nat} (hF : 2000 ≤ F) (hF2 : 13000 ≤ F) {tm : Nat → Nat} {dt se : Nat → Int32} (hC : TmC tm dt) (hS : TmC tm se) (hTm : TmOK tm) (fd rgs : Int32) (rl bytes typed : Nat → Int32) (ys yd : Int32) (yn : Nat → Int32) (x1 : Int64) (x4 : Int32) {ra td : Int32} {rch rlo rle ris rpl rpt rso rw : Nat → Int32} {lst : Nat → Int64} {nts : Nat → Int32} (hR : RdOK T n (nI (nN T n)) (nI (nP T n)) (nI (nS T n)) rch rlo rle ris rpl rpt rso) (htd : td = actN (T 0) (nN T n) tm 0 (FM T n 63)) (hlst : lst (1024 * 0 + FM T n 63) = lI (VV (T 0) (nN T n) tm (tm 2 - 0) (FM T n 63))) : ∀ (d k f f2 : Nat) (h : Int64) (nz : Int32) (nf : Int32) (nod : (Nat → Int32)) (nln : (Nat → Int32)) (nlt : (Nat → Int32)) (nal : (Nat → Int32)) (nto : (Nat → Int32)) (pz : Int32) (pf : Int32) (pis : (Nat → Int32)) (pln : (Nat → Int32)) (plt : (Nat → Int32)) (sz : Int32) (sf : Int32) (slt : (Nat → Int32)) (fpc : Int32) (fsf : Int32) (faf : Int32) (ford : Int32) (fpf : (Nat → Int32)) (fio : (Nat → Int32)) (ws : Int32) (wl : Nat → Int32), k + d = 3 → d < f → d < f2 → DrC T n 0 nz nf nod nln nlt nal nto pz pf pis pln plt sz sf slt fpc fsf faf ford fpf fio → WiC T n tm ws wl → ∃ h' nz' nf' nod' nln' nlt' nal' nto' pz' pf' pis' pln' plt' sz' sf' slt' fpc' fsf' faf' ford' fpf' fio' ws' wl', ND_mixRow_l53 F t0s t0b t1s t1b t2s t2b dt x1 f h (nI k) 0 nz nf nod nln nlt nal nto pz pf pis pln plt sz sf slt fpc fsf faf ford fpf fio ws wl ys yd yn = ND_mixRow_b84 F t0s t0b t1s t1b t2s t2b dt x1 h' 0 nz' nf' nod' nln' nlt' nal' nto' pz' pf' pis' pln' plt' sz' sf' slt' fpc' fsf' faf' ford' fpf' fio' ws' wl' ys yd yn ∧ Mo_digest_l316 F fd rgs bytes typed se rl f2 h (nI (FM T n 63)) x4 (nI k) ra (nI (nN T n)) (nI (nP T n)) (nI (nS T n)) td rch rlo rle ris rpl rpt rso rw lst nts = Mo_digest_b343 F fd rgs bytes typed se rl h' x4 ra (nI (nN T n)) (nI (nP T n)) (nI (nS T n)) td rch rlo rle ris rpl rpt rso rw lst nts ∧ DrC T n 0 nz' nf' nod' nln' nlt' nal' nto' pz' pf' pis' pln' plt' sz' sf' slt' fpc' fsf' faf' ford' fpf' fio' ∧ WiC T n tm ws' wl' := by
  have hm : FM T n 63 < 2 ^ (nN T n) := fm_lt _ _ _ _ _ _ _
  have hN10 : nN T n ≤ 10 := pN_le
  have h10 := p2_10 hN10
  intro d
  induction d with
  | zero =>
    intro k f f2 h nz nf nod nln nlt nal nto pz pf pis pln plt sz sf slt fpc fsf faf ford fpf fio ws wl hk hf hf2 hD hW
    obtain ⟨f, rfl⟩ : ∃ f', f = f' + 1 := ⟨f - 1, by omega⟩
    obtain ⟨f2, rfl⟩ : ∃ f', f2 = f' + 1 := ⟨f2 - 1, by omega⟩
    obtain rfl : k = 3 := by omega
    refine ⟨h, nz, nf, nod, nln, nlt, nal, nto, pz, pf, pis, pln, plt, sz, sf, slt, fpc, fsf, faf, ford, fpf, fio, ws, wl, ?_, ?_, hD, hW⟩
    · show ND_mixRow_b53 F t0s t0b t1s t1b t2s t2b dt x1 _ h _ 0 nz nf nod nln nlt nal nto pz pf pis pln plt sz sf slt fpc fsf faf ford fpf fio ws wl ys yd yn = _
      unfold ND_mixRow_b53
      rw [if_pos (show (2 : Int32) < nI 3 by decide)]
    · show Mo_digest_b316 F fd rgs bytes typed se rl _ h _ x4 _ ra (nI (nN T n)) (nI (nP T n)) (nI (nS T n)) td rch rlo rle ris rpl rpt rso rw lst nts = _
      unfold Mo_digest_b316
      rw [if_pos (show (3 : Int32) ≤ nI 3 by decide)]
  | succ d ih =>
    intro k f f2 h nz nf nod nln nlt nal nto pz pf pis pln plt sz sf slt fpc fsf faf ford fpf fio ws wl hk hf hf2 hD hW
    obtain ⟨f, rfl⟩ : ∃ f', f = f' + 1 := ⟨f - 1, by omega⟩
    obtain ⟨f2, rfl⟩ : ∃ f', f2 = f' + 1 := ⟨f2 - 1, by omega⟩
    have g8 : faf = nI (FM T n 63) := (hD.2 rfl).2.2.2.2.2.1
    obtain ⟨r, nz', nf', nod', nln', nlt', nal', nto', pz', pf', pis', pln', plt', sz', sf', slt', fpc', fsf', faf', ford', fpf', fio', ws', wl', v1, g1, w1, t1⟩ := wisest_v hT hD hF hF2 hC hTm hW (n1 := 0) (B := FM T n 63) (c := k) (Nat.zero_le _) (by omega) (by omega)
    rw [and_all hm] at t1
    have t2 := t1 lst hR.2.2.2.1 hlst
    rw [n00] at t2 v1
    rw [← g8] at v1
    obtain ⟨h2, nz', nf', nod', nln', nlt', nal', nto', pz', pf', pis', pln', plt', sz', sf', slt', fpc', fsf', faf', ford', fpf', fio', ws', wl', k1, k2, k3, k4⟩ := ih (k + 1) f f2 (31 * h + r) nz' nf' nod' nln' nlt' nal' nto' pz' pf' pis' pln' plt' sz' sf' slt' fpc' fsf' faf' ford' fpf' fio' ws' wl' (by omega) (by omega) (by omega) g1 w1
    refine ⟨h2, nz', nf', nod', nln', nlt', nal', nto', pz', pf', pis', pln', plt', sz', sf', slt', fpc', fsf', faf', ford', fpf', fio', ws', wl', ?_, ?_, k3, k4⟩
    · rw [← k1]
      show ND_mixRow_b53 F t0s t0b t1s t1b t2s t2b dt x1 (ND_mixRow_l53 F t0s t0b t1s t1b t2s t2b dt x1 f) h _ 0 nz nf nod nln nlt nal nto pz pf pis pln plt sz sf slt fpc fsf faf ford fpf fio ws wl ys yd yn = _
      unfold ND_mixRow_b53 Fi_byAll ND_mix
      rw [if_neg (show ¬ (2 : Int32) < nI k by rw [n2, ltN (by omega) (by omega)]; omega), cb1_s, v1, cb25_s, cb1_s, show nI k + 1 = nI (k + 1) from nI_1 _]
    · rw [← k2]
      show Mo_digest_b316 F fd rgs bytes typed se rl (Mo_digest_l316 F fd rgs bytes typed se rl f2) h _ x4 _ ra (nI (nN T n)) (nI (nP T n)) (nI (nS T n)) td rch rlo rle ris rpl rpt rso rw lst nts = _
      unfold Mo_digest_b316
      rw [if_neg (show ¬ (3 : Int32) ≤ nI k by rw [n3, leN (by omega) (by omega)]; omega), htd, t2, cb1_s, show nI k + 1 = nI (k + 1) from nI_1 _]
theorem dg_tail {T : Nat → Nat → Nat} {n : Nat → Nat} {t0s : Int32} {t0b : (Nat → Int32)} {t1s : Int32} {t1b : (Nat → Int32)} {t2s : Int32} {t2b : (Nat → Int32)} (hT : TxC T n t0s t0b t1s t1b t2s t2b) {F : Nat} (hF : 2000 ≤ F) (hF2 : 13000 ≤ F) {bytes typed : Nat → Int32} (hM : TxR T n bytes typed) {tm : Nat → Nat} {dt se : Nat → Int32} (hC : TmC tm dt) (hS : TmC tm se) (hTm : TmOK tm) (fd rgs : Int32) (rl : Nat → Int32) {ws : Int32} {wl : Nat → Int32} {ys yd : Int32} {yn : Nat → Int32} (hW : WiC T n tm ws wl) (hY : SpC T n ys yd yn) (x1 h : Int64) (x4 : Int32) (st : Int32) (nz : Int32) (nf : Int32) (nod : (Nat → Int32)) (nln : (Nat → Int32)) (nlt : (Nat → Int32)) (nal : (Nat → Int32)) (nto : (Nat → Int32)) (pz : Int32) (pf : Int32) (pis : (Nat → Int32)) (pln : (Nat → Int32)) (plt : (Nat → Int32)) (sz : Int32) (sf : Int32) (slt : (Nat → Int32)) (fpc : Int32) (fsf : Int32) (faf : Int32) (ford : Int32) (fpf : (Nat → Int32)) (fio : (Nat → Int32)) (hD : DrC T n st nz nf nod nln nlt nal nto pz pf pis pln plt sz sf slt fpc fsf faf ford fpf fio) (ra : Int32) (rn : Int32) (rp : Int32) (rs : Int32) (td : Int32) (rch : (Nat → Int32)) (rlo : (Nat → Int32)) (rle : (Nat → Int32)) (ris : (Nat → Int32)) (rpl : (Nat → Int32)) (rpt : (Nat → Int32)) (rso : (Nat → Int32)) (rw : (Nat → Int32)) (lst : (Nat → Int64)) (nts : (Nat → Int32)) : ∃ h' st' nz' nf' nod' nln' nlt' nal' nto' pz' pf' pis' pln' plt' sz' sf' slt' fpc' fsf' faf' ford' fpf' fio' ws' wl' ys' yd' yn' ra' rn' rp' rs' td' rch' rlo' rle' ris' rpl' rpt' rso' rw' lst' nts', ND_mixRow_b84 F t0s t0b t1s t1b t2s t2b dt x1 h st nz nf nod nln nlt nal nto pz pf pis pln plt sz sf slt fpc fsf faf ford fpf fio ws wl ys yd yn = some (h', st', nz', nf', nod', nln', nlt', nal', nto', pz', pf', pis', pln', plt', sz', sf', slt', fpc', fsf', faf', ford', fpf', fio', ws', wl', ys', yd', yn') ∧ Mo_digest_b343 F fd rgs bytes typed se rl h x4 ra rn rp rs td rch rlo rle ris rpl rpt rso rw lst nts = Mo_digest_l412 F fd rgs bytes typed se rl F (31 * h' + Int32.toInt64 x4) (nI 0) ra' rn' rp' rs' td' rch' rlo' rle' ris' rpl' rpt' rso' rw' lst' nts' ∧ DrC T n st' nz' nf' nod' nln' nlt' nal' nto' pz' pf' pis' pln' plt' sz' sf' slt' fpc' fsf' faf' ford' fpf' fio' ∧ WiC T n tm ws' wl' ∧ SpC T n ys' yd' yn' ∧ RdOK T n rn' rp' rs' rch' rlo' rle' ris' rpl' rpt' rso' := by
  obtain ⟨r1, st', nz', nf', nod', nln', nlt', nal', nto', pz', pf', pis', pln', plt', sz', sf', slt', fpc', fsf', faf', ford', fpf', fio', ws', wl', ra', rn', rp', rs', td', rch', rlo', rle', ris', rpl', rpt', rso', lst', v1, u1, g1, w1, hR⟩ := wisest_ok hT hD hF hF2 hM hC hS hTm hW ra rn rp rs td rch rlo rle ris rpl rpt rso lst 2 7 0
  obtain ⟨r2, _, _, _, _, _, _, _, _, _, _, _, _, _, _, _, _, _, _, _, _, _, v2, g2, w2⟩ := listen_v hT g1 hF (show 0 ≤ 1 by omega)
  obtain ⟨r3, _, _, _, _, _, _, _, _, _, _, _, _, _, _, _, _, _, _, _, _, _, v3, g3, w3⟩ := listen_v hT g2 hF (show 1 ≤ 1 by omega)
  obtain ⟨r4, nz', nf', nod', nln', nlt', nal', nto', pz', pf', pis', pln', plt', sz', sf', slt', fpc', fsf', faf', ford', fpf', fio', ys', yd', yn', v4, g4, y4, w4⟩ := sure_v hT g3 hF hY
  obtain ⟨nts', w4'⟩ := w4 _ _ _ _ _ _ _ _ _ _ nts hR
  have w2' := w2 _ _ _ _ _ _ _ _ _ _ hR
  have w3' := w3 _ _ _ _ _ _ _ _ _ _ hR
  rw [n00] at v2
  rw [n11] at v3
  refine ⟨31 * (31 * (31 * (31 * h + r1) + Int32.toInt64 r2) + Int32.toInt64 r3) + Int32.toInt64 r4, 0, nz', nf', nod', nln', nlt', nal', nto', pz', pf', pis', pln', plt', sz', sf', slt', fpc', fsf', faf', ford', fpf', fio', ws', wl', ys', yd', yn', ra', rn', rp', rs', td', rch', rlo', rle', ris', rpl', rpt', rso', rw, lst', nts', ?_, ?_, g4, w1, y4, hR⟩
  · unfold ND_mixRow_b84 ND_mix
    rw [v1, cb25_s, cb1_s, v2, cb23_s, cb1_s, v3, cb23_s, cb1_s, v4, cb26_s, cb1_s]
  · unfold Mo_digest_b343
    rw [u1, cb14_s]
    obtain ⟨f, hf⟩ : ∃ f, F = f + 3 := ⟨F - 3, by omega⟩
    have e : ∀ f h, Mo_digest_l361 F fd rgs bytes typed se rl (f + 3) h x4 (nI 0) ra' rn' rp' rs' td' rch' rlo' rle' ris' rpl' rpt' rso' rw lst' nts = Mo_digest_b387 F fd rgs bytes typed se rl (31 * (31 * h + Int32.toInt64 r2) + Int32.toInt64 r3) x4 ra' rn' rp' rs' td' rch' rlo' rle' ris' rpl' rpt' rso' rw lst' nts := by
      intro f h
      show Mo_digest_b361 F fd rgs bytes typed se rl (Mo_digest_l361 F fd rgs bytes typed se rl (f + 2)) h x4 (nI 0) ra' rn' rp' rs' td' rch' rlo' rle' ris' rpl' rpt' rso' rw lst' nts = _
      unfold Mo_digest_b361
      rw [if_neg (show ¬ (2 : Int32) ≤ nI 0 by decide), w2', cb1_s, show nI 0 + 1 = nI 1 from rfl]
      show Mo_digest_b361 F fd rgs bytes typed se rl (Mo_digest_l361 F fd rgs bytes typed se rl (f + 1)) _ x4 (nI 1) ra' rn' rp' rs' td' rch' rlo' rle' ris' rpl' rpt' rso' rw lst' nts = _
      unfold Mo_digest_b361
      rw [if_neg (show ¬ (2 : Int32) ≤ nI 1 by decide), w3', cb1_s, show nI 1 + 1 = nI 2 from rfl]
      show Mo_digest_b361 F fd rgs bytes typed se rl (Mo_digest_l361 F fd rgs bytes typed se rl f) _ x4 (nI 2) ra' rn' rp' rs' td' rch' rlo' rle' ris' rpl' rpt' rso' rw lst' nts = _
      unfold Mo_digest_b361
      rw [if_pos (show (2 : Int32) ≤ nI 2 by decide)]
    have e' := e f
    rw [← hf] at e'
    rw [show (0 : Int32) = nI 0 from rfl, e']
    unfold Mo_digest_b387
    rw [w4', cb2_s]; rfl
theorem dg_pools {T : Nat → Nat → Nat} {n : Nat → Nat} {t0s : Int32} {t0b : (Nat → Int32)} {t1s : Int32} {t1b : (Nat → Int32)} {t2s : Int32} {t2b : (Nat → Int32)} (hT : TxC T n t0s t0b t1s t1b t2s t2b) {F : Nat} (hF : 2000 ≤ F) (fd rgs : Int32) (dt se rl bytes typed : Nat → Int32) (ws : Int32) (wl : Nat → Int32) (x1 : Int64) {ra : Int32} {rn : Int32} {rp : Int32} {rs : Int32} {td : Int32} {rch : (Nat → Int32)} {rlo : (Nat → Int32)} {rle : (Nat → Int32)} {ris : (Nat → Int32)} {rpl : (Nat → Int32)} {rpt : (Nat → Int32)} {rso : (Nat → Int32)} {rw : (Nat → Int32)} {lst : (Nat → Int64)} {nts : (Nat → Int32)} (hR : RdOK T n rn rp rs rch rlo rle ris rpl rpt rso) : ∀ (d k f f2 : Nat) (h : Int64) (st : Int32) (nz : Int32) (nf : Int32) (nod : (Nat → Int32)) (nln : (Nat → Int32)) (nlt : (Nat → Int32)) (nal : (Nat → Int32)) (nto : (Nat → Int32)) (pz : Int32) (pf : Int32) (pis : (Nat → Int32)) (pln : (Nat → Int32)) (plt : (Nat → Int32)) (sz : Int32) (sf : Int32) (slt : (Nat → Int32)) (fpc : Int32) (fsf : Int32) (faf : Int32) (ford : Int32) (fpf : (Nat → Int32)) (fio : (Nat → Int32)), k + d = 3 → d < f → d < f2 → DrC T n st nz nf nod nln nlt nal nto pz pf pis pln plt sz sf slt fpc fsf faf ford fpf fio → ∃ h' st' nz' nf' nod' nln' nlt' nal' nto' pz' pf' pis' pln' plt' sz' sf' slt' fpc' fsf' faf' ford' fpf' fio', ND_mixWorth_l15 F t0s t0b t1s t1b t2s t2b dt x1 f h (nI k) st nz nf nod nln nlt nal nto pz pf pis pln plt sz sf slt fpc fsf faf ford fpf fio ws wl = ND_mixWorth_b41 F t0s t0b t1s t1b t2s t2b dt x1 h' st' nz' nf' nod' nln' nlt' nal' nto' pz' pf' pis' pln' plt' sz' sf' slt' fpc' fsf' faf' ford' fpf' fio' ws wl ∧ Mo_digest_l412 F fd rgs bytes typed se rl f2 h (nI k) ra rn rp rs td rch rlo rle ris rpl rpt rso rw lst nts = Mo_digest_b440 F fd rgs bytes typed se rl h' ra rn rp rs td rch rlo rle ris rpl rpt rso rw lst nts ∧ DrC T n st' nz' nf' nod' nln' nlt' nal' nto' pz' pf' pis' pln' plt' sz' sf' slt' fpc' fsf' faf' ford' fpf' fio' := by
  intro d
  induction d with
  | zero =>
    intro k f f2 h st nz nf nod nln nlt nal nto pz pf pis pln plt sz sf slt fpc fsf faf ford fpf fio hk hf hf2 hD
    obtain ⟨f, rfl⟩ : ∃ f', f = f' + 1 := ⟨f - 1, by omega⟩
    obtain ⟨f2, rfl⟩ : ∃ f', f2 = f' + 1 := ⟨f2 - 1, by omega⟩
    obtain rfl : k = 3 := by omega
    refine ⟨h, st, nz, nf, nod, nln, nlt, nal, nto, pz, pf, pis, pln, plt, sz, sf, slt, fpc, fsf, faf, ford, fpf, fio, ?_, ?_, hD⟩
    · show ND_mixWorth_b15 F t0s t0b t1s t1b t2s t2b dt x1 _ h _ st nz nf nod nln nlt nal nto pz pf pis pln plt sz sf slt fpc fsf faf ford fpf fio ws wl = _
      unfold ND_mixWorth_b15
      rw [if_pos (show (2 : Int32) < nI 3 by decide)]
    · show Mo_digest_b412 F fd rgs bytes typed se rl _ h _ ra rn rp rs td rch rlo rle ris rpl rpt rso rw lst nts = _
      unfold Mo_digest_b412
      rw [if_pos (show (3 : Int32) ≤ nI 3 by decide)]
  | succ d ih =>
    intro k f f2 h st nz nf nod nln nlt nal nto pz pf pis pln plt sz sf slt fpc fsf faf ford fpf fio hk hf hf2 hD
    obtain ⟨f, rfl⟩ : ∃ f', f = f' + 1 := ⟨f - 1, by omega⟩
    obtain ⟨f2, rfl⟩ : ∃ f', f2 = f' + 1 := ⟨f2 - 1, by omega⟩
    obtain ⟨nz', nf', nod', nln', nlt', nal', nto', pz', pf', pis', pln', plt', sz', sf', slt', fpc', fsf', faf', ford', fpf', fio', v1, g1⟩ := pool_v hT hD hF (b1 := 1) (b2 := 2) (c := k) (by omega) (by omega) (by omega)
    have v2 := Mo_poolOf_v (n2_le hT) hR hF (b1 := 1) (b2 := 2) (c := k) (by omega) (by omega) (by omega)
    rw [n11, n22] at v1 v2
    obtain ⟨h2, st', nz', nf', nod', nln', nlt', nal', nto', pz', pf', pis', pln', plt', sz', sf', slt', fpc', fsf', faf', ford', fpf', fio', k1, k2, k3⟩ := ih (k + 1) f f2 (31 * h + Int32.toInt64 (nI (pop (FM T n (poolB 1 2 k))))) 0 nz' nf' nod' nln' nlt' nal' nto' pz' pf' pis' pln' plt' sz' sf' slt' fpc' fsf' faf' ford' fpf' fio' (by omega) (by omega) (by omega) g1
    refine ⟨h2, st', nz', nf', nod', nln', nlt', nal', nto', pz', pf', pis', pln', plt', sz', sf', slt', fpc', fsf', faf', ford', fpf', fio', ?_, ?_, k3⟩
    · rw [← k1]
      show ND_mixWorth_b15 F t0s t0b t1s t1b t2s t2b dt x1 (ND_mixWorth_l15 F t0s t0b t1s t1b t2s t2b dt x1 f) h _ st nz nf nod nln nlt nal nto pz pf pis pln plt sz sf slt fpc fsf faf ford fpf fio ws wl = _
      unfold ND_mixWorth_b15 ND_mix
      rw [if_neg (show ¬ (2 : Int32) < nI k by rw [n2, ltN (by omega) (by omega)]; omega), v1, cb23_s, cb1_s, show nI k + 1 = nI (k + 1) from nI_1 _]
    · rw [← k2]
      show Mo_digest_b412 F fd rgs bytes typed se rl (Mo_digest_l412 F fd rgs bytes typed se rl f2) h _ ra rn rp rs td rch rlo rle ris rpl rpt rso rw lst nts = _
      unfold Mo_digest_b412
      rw [if_neg (show ¬ (3 : Int32) ≤ nI k by rw [n3, leN (by omega) (by omega)]; omega), v2, cb1_s, show nI k + 1 = nI (k + 1) from nI_1 _]
theorem dg_worth {T : Nat → Nat → Nat} {n : Nat → Nat} {t0s : Int32} {t0b : (Nat → Int32)} {t1s : Int32} {t1b : (Nat → Int32)} {t2s : Int32} {t2b : (Nat → Int32)} (hT : TxC T n t0s t0b t1s t1b t2s t2b) {F : Nat} (hF : 2000 ≤ F) (hF2 : 13000 ≤ F) {bytes typed : Nat → Int32} (hM : TxR T n bytes typed) {tm : Nat → Nat} {dt : Nat → Int32} (hC : TmC tm dt) (hTm : TmOK tm) (fd rgs : Int32) (se rl : Nat → Int32) {ws : Int32} {wl : Nat → Int32} (hW : WiC T n tm ws wl) (h : Int64) (st : Int32) (nz : Int32) (nf : Int32) (nod : (Nat → Int32)) (nln : (Nat → Int32)) (nlt : (Nat → Int32)) (nal : (Nat → Int32)) (nto : (Nat → Int32)) (pz : Int32) (pf : Int32) (pis : (Nat → Int32)) (pln : (Nat → Int32)) (plt : (Nat → Int32)) (sz : Int32) (sf : Int32) (slt : (Nat → Int32)) (fpc : Int32) (fsf : Int32) (faf : Int32) (ford : Int32) (fpf : (Nat → Int32)) (fio : (Nat → Int32)) (hD : DrC T n st nz nf nod nln nlt nal nto pz pf pis pln plt sz sf slt fpc fsf faf ford fpf fio) {ra : Int32} {rn : Int32} {rp : Int32} {rs : Int32} {td : Int32} {rch : (Nat → Int32)} {rlo : (Nat → Int32)} {rle : (Nat → Int32)} {ris : (Nat → Int32)} {rpl : (Nat → Int32)} {rpt : (Nat → Int32)} {rso : (Nat → Int32)} {rw : (Nat → Int32)} {lst : (Nat → Int64)} {nts : (Nat → Int32)} (hR : RdOK T n rn rp rs rch rlo rle ris rpl rpt rso) : ∃ h' st' nz' nf' nod' nln' nlt' nal' nto' pz' pf' pis' pln' plt' sz' sf' slt' fpc' fsf' faf' ford' fpf' fio' ws' wl' ra' rn' rp' rs' td' rch' rlo' rle' ris' rpl' rpt' rso' rw' lst' nts', ND_mixWorth F t0s t0b t1s t1b t2s t2b dt st nz nf nod nln nlt nal nto pz pf pis pln plt sz sf slt fpc fsf faf ford fpf fio ws wl h = some (h', st', nz', nf', nod', nln', nlt', nal', nto', pz', pf', pis', pln', plt', sz', sf', slt', fpc', fsf', faf', ford', fpf', fio', ws', wl') ∧ Mo_digest_l412 F fd rgs bytes typed se rl F (31 * h + Int32.toInt64 (SPV T n tm 99)) (nI 0) ra rn rp rs td rch rlo rle ris rpl rpt rso rw lst nts = some (h', ra', rn', rp', rs', td', rch', rlo', rle', ris', rpl', rpt', rso', rw', lst', nts') ∧ DrC T n st' nz' nf' nod' nln' nlt' nal' nto' pz' pf' pis' pln' plt' sz' sf' slt' fpc' fsf' faf' ford' fpf' fio' ∧ WiC T n tm ws' wl' := by
  obtain ⟨p0, p1, p2, p3, p4, p5, p6, p7, p8, p9, p10, p11, p12, p13, p14, p15, p16, p17, p18, p19, p20, ws', wl', v1, g1, w1⟩ := spun_v hT hD hF hF2 hC hTm hW (x := 99) (by omega)
  have v1' : ND_spun F t0s t0b t1s t1b t2s t2b dt st nz nf nod nln nlt nal nto pz pf pis pln plt sz sf slt fpc fsf faf ford fpf fio ws wl 99 = some (SPV T n tm 99, 0, p0, p1, p2, p3, p4, p5, p6, p7, p8, p9, p10, p11, p12, p13, p14, p15, p16, p17, p18, p19, p20, ws', wl') := v1
  obtain ⟨h2, sq, q0, q1, q2, q3, q4, q5, q6, q7, q8, q9, q10, q11, q12, q13, q14, q15, q16, q17, q18, q19, q20, k1, k2, k3⟩ := dg_pools hT hF fd rgs dt se rl bytes typed ws' wl' h (ra := ra) (td := td) (rw := rw) (lst := lst) (nts := nts) hR 3 0 F F (31 * h + Int32.toInt64 (SPV T n tm 99)) 0 p0 p1 p2 p3 p4 p5 p6 p7 p8 p9 p10 p11 p12 p13 p14 p15 p16 p17 p18 p19 p20 (by omega) (by omega) (by omega) g1
  obtain ⟨r2, _, _, _, _, _, _, _, _, _, _, _, _, _, _, _, _, _, _, _, _, _, v2, g2, w2⟩ := shortest_v hT k3 hF (show 0 ≤ 1 by omega)
  obtain ⟨r3, _, _, _, _, _, _, _, _, _, _, _, _, _, _, _, _, _, _, _, _, _, v3, g3, w3⟩ := shortest_v hT g2 hF (show 1 ≤ 1 by omega)
  have w2' := w2 _ _ _ _ _ _ _ _ _ _ hR
  have w3' := w3 _ _ _ _ _ _ _ _ _ _ hR
  rw [n00] at v2
  rw [n11] at v3
  obtain ⟨r4, st', nz', nf', nod', nln', nlt', nal', nto', pz', pf', pis', pln', plt', sz', sf', slt', fpc', fsf', faf', ford', fpf', fio', ra', rn', rp', rs', rch', rlo', rle', ris', rpl', rpt', rso', v4, u4, g4⟩ := sung_ok hT g3 hF hM ra rn rp rs rch rlo rle ris rpl rpt rso 3 0
  refine ⟨31 * (31 * (31 * h2 + Int32.toInt64 r2) + Int32.toInt64 r3) + Int32.toInt64 r4, st', nz', nf', nod', nln', nlt', nal', nto', pz', pf', pis', pln', plt', sz', sf', slt', fpc', fsf', faf', ford', fpf', fio', ws', wl', ra', rn', rp', rs', td, rch', rlo', rle', ris', rpl', rpt', rso', rw, lst, nts, ?_, ?_, g4, w1⟩
  · unfold ND_mixWorth ND_mix
    rw [v1', cb25_s, cb1_s, show ND_mixWorth_l15 F t0s t0b t1s t1b t2s t2b dt h F (31 * h + Int32.toInt64 (SPV T n tm 99)) 0 0 p0 p1 p2 p3 p4 p5 p6 p7 p8 p9 p10 p11 p12 p13 p14 p15 p16 p17 p18 p19 p20 ws' wl' = _ from k1]
    unfold ND_mixWorth_b41 ND_mix
    rw [v2, cb23_s, cb1_s, v3, cb23_s, cb1_s, v4, cb23_s, cb1_s]
  · rw [k2]
    unfold Mo_digest_b440
    obtain ⟨f, hf⟩ : ∃ f, F = f + 3 := ⟨F - 3, by omega⟩
    have e : ∀ f h, Mo_digest_l443 F fd rgs bytes typed se rl (f + 3) h (nI 0) ra rn rp rs td rch rlo rle ris rpl rpt rso rw lst nts = Mo_digest_b469 F fd rgs bytes typed se rl (31 * (31 * h + Int32.toInt64 r2) + Int32.toInt64 r3) ra rn rp rs td rch rlo rle ris rpl rpt rso rw lst nts := by
      intro f h
      show Mo_digest_b443 F fd rgs bytes typed se rl (Mo_digest_l443 F fd rgs bytes typed se rl (f + 2)) h (nI 0) ra rn rp rs td rch rlo rle ris rpl rpt rso rw lst nts = _
      unfold Mo_digest_b443
      rw [if_neg (show ¬ (2 : Int32) ≤ nI 0 by decide), w2', cb1_s, show nI 0 + 1 = nI 1 from rfl]
      show Mo_digest_b443 F fd rgs bytes typed se rl (Mo_digest_l443 F fd rgs bytes typed se rl (f + 1)) _ (nI 1) ra rn rp rs td rch rlo rle ris rpl rpt rso rw lst nts = _
      unfold Mo_digest_b443
      rw [if_neg (show ¬ (2 : Int32) ≤ nI 1 by decide), w3', cb1_s, show nI 1 + 1 = nI 2 from rfl]
      show Mo_digest_b443 F fd rgs bytes typed se rl (Mo_digest_l443 F fd rgs bytes typed se rl f) _ (nI 2) ra rn rp rs td rch rlo rle ris rpl rpt rso rw lst nts = _
      unfold Mo_digest_b443
      rw [if_pos (show (2 : Int32) ≤ nI 2 by decide)]
    have e' := e f
    rw [← hf] at e'
    rw [show (0 : Int32) = nI 0 from rfl, e']
    unfold Mo_digest_b469
    rw [u4, cb12_s]
