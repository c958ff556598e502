/-! the derived parts of both sides -/
theorem cb3_s {A B C β : Type} (a : A) (b : B) (c : C) (k : A → B → C → Option β) : cb3 (some (a, b, c)) k = k a b c := rfl
theorem cb4_s {A B C D β : Type} (a : A) (b : B) (c : C) (d : D) (k : A → B → C → D → Option β) : cb4 (some (a, b, c, d)) k = k a b c d := rfl
theorem cb7_s {A B C D E G H β : Type} (a : A) (b : B) (c : C) (d : D) (e : E) (g : G) (h : H) (k : A → B → C → D → E → G → H → Option β) : cb7 (some (a, b, c, d, e, g, h)) k = k a b c d e g h := rfl
theorem pS_le {T : Nat → Nat} {n : Nat} (hn : n ≤ 6) : (pS T n).2 ≤ 6 := by
  have key : ∀ (m j : Nat), j + m = n → (goS T n m j).2 ≤ 6 := by
    intro m
    induction m with
    | zero => intro j hj; rw [goS]; show _ ≤ 6; omega
    | succ m ih => intro j hj; rw [goS]; split
                   · exact ih (j + 1) (by omega)
                   · show _ ≤ 6; omega
  exact key n 0 (by omega)
def TxC (T : Nat → Nat → Nat) (n : Nat → Nat) (t0s : Int32) (t0b : (Nat → Int32)) (t1s : Int32) (t1b : (Nat → Int32)) (t2s : Int32) (t2b : (Nat → Int32)) : Prop := t0s = nI (n 0) ∧ TX (T 0) (n 0) 80 t0b ∧ t1s = nI (n 1) ∧ TX (T 1) (n 1) 40 t1b ∧ t2s = nI (n 2) ∧ TX (T 2) (n 2) 6 t2b
def TxR (T : Nat → Nat → Nat) (n : Nat → Nat) (bytes typed : Nat → Int32) : Prop := ∀ k, k < 3 → MT (T k) (n k) k bytes typed
def nN (T : Nat → Nat → Nat) (n : Nat → Nat) : Nat := (pN (T 0) (n 0)).2
def nP (T : Nat → Nat → Nat) (n : Nat → Nat) : Nat := (pP (T 1) (n 1)).2
def nS (T : Nat → Nat → Nat) (n : Nat → Nat) : Nat := (pS (T 2) (n 2)).2
def FM (T : Nat → Nat → Nat) (n : Nat → Nat) (B : Nat) : Nat := fm (T 0) (T 1) (T 2) (nN T n) (nP T n) (nS T n) B
def DrOK (T : Nat → Nat → Nat) (n : Nat → Nat) (nz : Int32) (nf : Int32) (nod : (Nat → Int32)) (nln : (Nat → Int32)) (nlt : (Nat → Int32)) (nal : (Nat → Int32)) (nto : (Nat → Int32)) (pz : Int32) (pf : Int32) (pis : (Nat → Int32)) (pln : (Nat → Int32)) (plt : (Nat → Int32)) (sz : Int32) (sf : Int32) (slt : (Nat → Int32)) (fpc : Int32) (fsf : Int32) (faf : Int32) (ford : Int32) (fpf : (Nat → Int32)) (fio : (Nat → Int32)) : Prop := NA (T 0) (n 0) nz nf nod nln nlt nal nto ∧ (pz = nI (nP T n) ∧ pf = fI (pP (T 1) (n 1)).1 ∧ PcOK (T 1) (nP T n) pis pln plt) ∧ (sz = nI (nS T n) ∧ sf = fI (pS (T 2) (n 2)).1 ∧ SgOK (T 2) (nS T n) slt) ∧ FtOK (T 0) (T 1) (T 2) (nN T n) (nP T n) (nS T n) fpc fsf faf ford fpf fio
def DrC (T : Nat → Nat → Nat) (n : Nat → Nat) (st : Int32) (nz : Int32) (nf : Int32) (nod : (Nat → Int32)) (nln : (Nat → Int32)) (nlt : (Nat → Int32)) (nal : (Nat → Int32)) (nto : (Nat → Int32)) (pz : Int32) (pf : Int32) (pis : (Nat → Int32)) (pln : (Nat → Int32)) (plt : (Nat → Int32)) (sz : Int32) (sf : Int32) (slt : (Nat → Int32)) (fpc : Int32) (fsf : Int32) (faf : Int32) (ford : Int32) (fpf : (Nat → Int32)) (fio : (Nat → Int32)) : Prop := nto 0 = 0 ∧ (st = 0 → DrOK T n nz nf nod nln nlt nal nto pz pf pis pln plt sz sf slt fpc fsf faf ford fpf fio)
theorem DrC_0 {T : Nat → Nat → Nat} {n : Nat → Nat} {nz : Int32} {nf : Int32} {nod : (Nat → Int32)} {nln : (Nat → Int32)} {nlt : (Nat → Int32)} {nal : (Nat → Int32)} {nto : (Nat → Int32)} {pz : Int32} {pf : Int32} {pis : (Nat → Int32)} {pln : (Nat → Int32)} {plt : (Nat → Int32)} {sz : Int32} {sf : Int32} {slt : (Nat → Int32)} {fpc : Int32} {fsf : Int32} {faf : Int32} {ford : Int32} {fpf : (Nat → Int32)} {fio : (Nat → Int32)} (h : DrOK T n nz nf nod nln nlt nal nto pz pf pis pln plt sz sf slt fpc fsf faf ford fpf fio) : DrC T n 0 nz nf nod nln nlt nal nto pz pf pis pln plt sz sf slt fpc fsf faf ford fpf fio := by
  refine ⟨?_, fun _ => h⟩
  rw [h.1.2.2.2.2 0 (Nat.two_pow_pos _)]
  have : wt (Od (T 0)) 0 10 = 0 := by simp [wt]
  rw [this]; rfl
theorem ND_refresh_ok {T : Nat → Nat → Nat} {n : Nat → Nat} {t0s : Int32} {t0b : (Nat → Int32)} {t1s : Int32} {t1b : (Nat → Int32)} {t2s : Int32} {t2b : (Nat → Int32)} {st : Int32} {nz : Int32} {nf : Int32} {nod : (Nat → Int32)} {nln : (Nat → Int32)} {nlt : (Nat → Int32)} {nal : (Nat → Int32)} {nto : (Nat → Int32)} {pz : Int32} {pf : Int32} {pis : (Nat → Int32)} {pln : (Nat → Int32)} {plt : (Nat → Int32)} {sz : Int32} {sf : Int32} {slt : (Nat → Int32)} {fpc : Int32} {fsf : Int32} {faf : Int32} {ford : Int32} {fpf : (Nat → Int32)} {fio : (Nat → Int32)} (hT : TxC T n t0s t0b t1s t1b t2s t2b) (hD : DrC T n st nz nf nod nln nlt nal nto pz pf pis pln plt sz sf slt fpc fsf faf ford fpf fio) {F : Nat} (hF : 2000 ≤ F) : ∃ nz' nf' nod' nln' nlt' nal' nto' pz' pf' pis' pln' plt' sz' sf' slt' fpc' fsf' faf' ford' fpf' fio', ND_refresh F t0s t0b t1s t1b t2s t2b st nz nf nod nln nlt nal nto pz pf pis pln plt sz sf slt fpc fsf faf ford fpf fio = some (0, nz', nf', nod', nln', nlt', nal', nto', pz', pf', pis', pln', plt', sz', sf', slt', fpc', fsf', faf', ford', fpf', fio') ∧ DrOK T n nz' nf' nod' nln' nlt' nal' nto' pz' pf' pis' pln' plt' sz' sf' slt' fpc' fsf' faf' ford' fpf' fio' := by
  obtain ⟨a0, a1, a2, a3, a4, a5⟩ := hT
  subst a0 a2 a4
  unfold ND_refresh
  by_cases h0 : st = 0
  · rw [if_pos h0, h0]
    exact ⟨_, _, _, _, _, _, _, _, _, _, _, _, _, _, _, _, _, _, _, _, _, rfl, hD.2 h0⟩
  · obtain ⟨nz1, nf1, nod1, nln1, nlt1, nal1, nto1, e1, g1⟩ := Na_parse_ok a1 hF nz nf nod nln nlt nal nto hD.1
    obtain ⟨pis1, pln1, plt1, e2, g2⟩ := Pi_parse_ok a3 (show 100 ≤ F by omega) pz pf pis pln plt
    obtain ⟨slt1, e3, g3⟩ := So_parse_ok a5 a5.1 (show 100 ≤ F by omega) sz sf slt
    obtain ⟨x1, x2, x3, x4, x5, x6, e4, g4⟩ := Fi_update_ok g1.2.2.1 pN_le g2 pP_le g3 (pS_le a5.1) (show 100 ≤ F by omega) fpc fsf faf ford fpf fio
    rw [if_neg h0, e1, cb7_s, e2, cb5_s, e3, cb3_s, g1.1, e4, cb6_s]
    exact ⟨_, _, _, _, _, _, _, _, _, _, _, _, _, _, _, _, _, _, _, _, _, rfl, ⟨rfl, g1.2⟩, ⟨rfl, rfl, g2⟩, ⟨rfl, rfl, g3⟩, g4⟩
def RdOK (T : Nat → Nat → Nat) (n : Nat → Nat) (rn : Int32) (rp : Int32) (rs : Int32) (rch : (Nat → Int32)) (rlo : (Nat → Int32)) (rle : (Nat → Int32)) (ris : (Nat → Int32)) (rpl : (Nat → Int32)) (rpt : (Nat → Int32)) (rso : (Nat → Int32)) : Prop := rn = nI (nN T n) ∧ rp = nI (nP T n) ∧ rs = nI (nS T n) ∧ NmOK (T 0) (nN T n) rch rlo rle ∧ PcOK (T 1) (nP T n) ris rpl rpt ∧ SgOK (T 2) (nS T n) rso
theorem Mo_reads_ok {T : Nat → Nat → Nat} {n : Nat → Nat} {t0s : Int32} {t0b : (Nat → Int32)} {t1s : Int32} {t1b : (Nat → Int32)} {t2s : Int32} {t2b : (Nat → Int32)} (hT : TxC T n t0s t0b t1s t1b t2s t2b) {bytes typed : Nat → Int32} (hM : TxR T n bytes typed) {F : Nat} (hF : 2000 ≤ F) (ra : Int32) (rn : Int32) (rp : Int32) (rs : Int32) (rch : (Nat → Int32)) (rlo : (Nat → Int32)) (rle : (Nat → Int32)) (ris : (Nat → Int32)) (rpl : (Nat → Int32)) (rpt : (Nat → Int32)) (rso : (Nat → Int32)) : ∃ ra' rn' rp' rs' rch' rlo' rle' ris' rpl' rpt' rso', Mo_reads F bytes typed ra rn rp rs rch rlo rle ris rpl rpt rso = some (ra', rn', rp', rs', rch', rlo', rle', ris', rpl', rpt', rso') ∧ RdOK T n rn' rp' rs' rch' rlo' rle' ris' rpl' rpt' rso' := by
  obtain ⟨a0, a1, a2, a3, a4, a5⟩ := hT
  obtain ⟨y1, ch', lo', le', e1, g1⟩ := Mo_names_ok a1 (hM 0 (by omega)) (show 100 ≤ F by omega) ra rn rch rlo rle
  obtain ⟨y2, is', pl', pt', e2, g2⟩ := Mo_pieces_ok a3 (hM 1 (by omega)) (show 100 ≤ F by omega) y1 rp ris rpl rpt
  obtain ⟨y3, so', e3, g3⟩ := Mo_song_ok a5 a5.1 (hM 2 (by omega)) (show 100 ≤ F by omega) y2 rs rso
  have g1' : NmOK (T 0) (pN (T 0) (n 0)).2 ch' lo' le' := by
    by_cases hf : (pN (T 0) (n 0)).1 = 1000
    · exact g1 hf
    · rw [pN_0 hf]; exact fun i hi => absurd hi (Nat.not_lt_zero i)
  unfold Mo_reads
  rw [e1, cb6_s, e2, cb6_s, e3, cb4_s]
  exact ⟨_, _, _, _, _, _, _, _, _, _, _, rfl, rfl, rfl, rfl, g1', g2, g3⟩
