/-! fits agrees; which NAMES are there -/
theorem cb11_s {A1 A2 A3 A4 A5 A6 A7 A8 A9 A10 A11 β : Type} (a1 : A1) (a2 : A2) (a3 : A3) (a4 : A4) (a5 : A5) (a6 : A6) (a7 : A7) (a8 : A8) (a9 : A9) (a10 : A10) (a11 : A11) (k : A1 → A2 → A3 → A4 → A5 → A6 → A7 → A8 → A9 → A10 → A11 → Option β) : cb11 (some (a1, a2, a3, a4, a5, a6, a7, a8, a9, a10, a11)) k = k a1 a2 a3 a4 a5 a6 a7 a8 a9 a10 a11 := rfl
theorem cb22_s {A1 A2 A3 A4 A5 A6 A7 A8 A9 A10 A11 A12 A13 A14 A15 A16 A17 A18 A19 A20 A21 A22 β : Type} (a1 : A1) (a2 : A2) (a3 : A3) (a4 : A4) (a5 : A5) (a6 : A6) (a7 : A7) (a8 : A8) (a9 : A9) (a10 : A10) (a11 : A11) (a12 : A12) (a13 : A13) (a14 : A14) (a15 : A15) (a16 : A16) (a17 : A17) (a18 : A18) (a19 : A19) (a20 : A20) (a21 : A21) (a22 : A22) (k : A1 → A2 → A3 → A4 → A5 → A6 → A7 → A8 → A9 → A10 → A11 → A12 → A13 → A14 → A15 → A16 → A17 → A18 → A19 → A20 → A21 → A22 → Option β) : cb22 (some (a1, a2, a3, a4, a5, a6, a7, a8, a9, a10, a11, a12, a13, a14, a15, a16, a17, a18, a19, a20, a21, a22)) k = k a1 a2 a3 a4 a5 a6 a7 a8 a9 a10 a11 a12 a13 a14 a15 a16 a17 a18 a19 a20 a21 a22 := rfl
theorem has_cases (N : Nat) (hN : N ≤ 10) (x : Int32) : (∃ k, k < N ∧ x = nI k ∧ Na_has (nI N) x = some 1 ∧ Mo_in (Int32.toInt64 x) 0 (Int32.toInt64 (nI N - 1)) = some 1) ∨ (Na_has (nI N) x = some 0 ∧ Mo_in (Int32.toInt64 x) 0 (Int32.toInt64 (nI N - 1)) = some 0) := by
  unfold Na_has
  rw [Mo_in_ok, i0, Int32.toInt_toInt64, Int32.toInt_toInt64, n1, pk_sub_toInt (by omega) (by omega)]
  by_cases h : x < 0
  · have h' := h
    rw [neg_toInt] at h'
    exact Or.inr ⟨by rw [if_pos h], by rw [if_neg (fun hc => by omega)]⟩
  · obtain ⟨j, hj, rfl⟩ := nI_of h
    rw [if_neg h, nI_toInt hj]
    by_cases h3 : j < N
    · exact Or.inl ⟨j, h3, rfl, by rw [if_neg (show ¬ nI N ≤ nI j by rw [leN (by omega) (by omega)]; omega)], by rw [if_pos (by omega)]⟩
    · exact Or.inr ⟨by rw [if_pos (show nI N ≤ nI j by rw [leN (by omega) (by omega)]; omega)], by rw [if_neg (fun hc => by omega)]⟩
theorem isName_cases (N : Nat) (hN : N ≤ 10) (x : Int32) : (∃ k, k < N ∧ x = nI k ∧ Na_has (nI N) x = some 1 ∧ Mo_isName (nI N) x = some 1) ∨ (Na_has (nI N) x = some 0 ∧ Mo_isName (nI N) x = some 0) := by
  unfold Mo_isName
  rcases has_cases N hN x with ⟨k, h1, h2, h3, h4⟩ | ⟨h3, h4⟩
  · exact Or.inl ⟨k, h1, h2, h3, by rw [h4, cb1_s, gd_s (by exact Or.inr rfl)]⟩
  · exact Or.inr ⟨h3, by rw [h4, cb1_s, gd_s (by exact Or.inl rfl)]⟩
theorem fits_ok {T : Nat → Nat → Nat} {n : Nat → Nat} {t0s : Int32} {t0b : (Nat → Int32)} {t1s : Int32} {t1b : (Nat → Int32)} {t2s : Int32} {t2b : (Nat → Int32)} {st : Int32} {nz : Int32} {nf : Int32} {nod : (Nat → Int32)} {nln : (Nat → Int32)} {nlt : (Nat → Int32)} {nal : (Nat → Int32)} {nto : (Nat → Int32)} {pz : Int32} {pf : Int32} {pis : (Nat → Int32)} {pln : (Nat → Int32)} {plt : (Nat → Int32)} {sz : Int32} {sf : Int32} {slt : (Nat → Int32)} {fpc : Int32} {fsf : Int32} {faf : Int32} {ford : Int32} {fpf : (Nat → Int32)} {fio : (Nat → Int32)} (hT : TxC T n t0s t0b t1s t1b t2s t2b) (hD : DrC T n st nz nf nod nln nlt nal nto pz pf pis pln plt sz sf slt fpc fsf faf ford fpf fio) {bytes typed : Nat → Int32} (hM : TxR T n bytes typed) {F : Nat} (hF : 2000 ≤ F) (ra : Int32) (rn : Int32) (rp : Int32) (rs : Int32) (rch : (Nat → Int32)) (rlo : (Nat → Int32)) (rle : (Nat → Int32)) (ris : (Nat → Int32)) (rpl : (Nat → Int32)) (rpt : (Nat → Int32)) (rso : (Nat → Int32)) : ∃ r st' nz' nf' nod' nln' nlt' nal' nto' pz' pf' pis' pln' plt' sz' sf' slt' fpc' fsf' faf' ford' fpf' fio' ra' rn' rp' rs' rch' rlo' rle' ris' rpl' rpt' rso', ND_fits F t0s t0b t1s t1b t2s t2b st nz nf nod nln nlt nal nto pz pf pis pln plt sz sf slt fpc fsf faf ford fpf fio = some (r, st', nz', nf', nod', nln', nlt', nal', nto', pz', pf', pis', pln', plt', sz', sf', slt', fpc', fsf', faf', ford', fpf', fio') ∧ Mo_fits F bytes typed ra rn rp rs rch rlo rle ris rpl rpt rso = some (r, ra', rn', rp', rs', rch', rlo', rle', ris', rpl', rpt', rso') ∧ DrC T n st' nz' nf' nod' nln' nlt' nal' nto' pz' pf' pis' pln' plt' sz' sf' slt' fpc' fsf' faf' ford' fpf' fio' := by
  obtain ⟨nz', nf', nod', nln', nlt', nal', nto', pz', pf', pis', pln', plt', sz', sf', slt', fpc', fsf', faf', ford', fpf', fio', e, g⟩ := ND_refresh_ok hT hD hF
  obtain ⟨ra', rn', rp', rs', rch', rlo', rle', ris', rpl', rpt', rso', f, q1, q2, q3, q4, q5, q6⟩ := Mo_reads_ok hT hM hF ra rn rp rs rch rlo rle ris rpl rpt rso
  unfold ND_fits Mo_fits
  rw [e, cb22_s, f, cb11_s, q1, q2, q3, Mo_fitsNow_ok q4 pN_le q5 pP_le q6 (pS_le hT.2.2.2.2.2.1) (show 100 ≤ F by omega), cb1_s, show Fi_byAll faf' = some faf' from rfl, cb1_s, g.2.2.2.2.2.1]
  exact ⟨_, _, _, _, _, _, _, _, _, _, _, _, _, _, _, _, _, _, _, _, _, _, _, _, _, _, _, _, _, _, _, _, _, _, rfl, rfl, g.2.2.2.2.2.1 ▸ DrC_0 g⟩
