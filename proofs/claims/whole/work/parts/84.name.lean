/-! name agrees -/
theorem what_cases (x : Int32) : (x = -2 ∨ x = -1 ∨ ∃ p, p < 6 ∧ x = nI p) ∨ ((x < -2 ∨ ¬ x < 6) ∧ Mo_in (Int32.toInt64 x) (-2) 5 = some 0) := by
  have e1 : (-2 : Int64).toInt = -2 := by decide
  have e2 : (5 : Int64).toInt = 5 := by decide
  have e3 : (-2 : Int32).toInt = -2 := by decide
  have e4 : (6 : Int32).toInt = 6 := by decide
  rw [Mo_in_ok, Int32.toInt_toInt64, e1, e2]
  by_cases h : -2 ≤ x.toInt ∧ x.toInt ≤ 5
  · refine Or.inl ?_
    by_cases h0 : x < 0
    · rw [neg_toInt] at h0
      by_cases h2 : x.toInt = -2
      · exact Or.inl (Int32.toInt_inj.mp (by rw [h2, e3]))
      · exact Or.inr (Or.inl (Int32.toInt_inj.mp (by rw [m1_toInt]; omega)))
    · obtain ⟨j, hj, rfl⟩ := nI_of h0
      rw [nI_toInt hj] at h
      exact Or.inr (Or.inr ⟨j, by omega, rfl⟩)
  · refine Or.inr ⟨?_, by rw [if_neg h]⟩
    rw [Int32.lt_iff_toInt_lt, Int32.lt_iff_toInt_lt, e3, e4]; omega
theorem what_in : Mo_in (Int32.toInt64 (-2)) (-2) 5 = some 1 ∧ Mo_in (Int32.toInt64 (-1)) (-2) 5 = some 1 ∧ ∀ p, p < 6 → Mo_in (Int32.toInt64 (nI p)) (-2) 5 = some 1 := by decide +kernel
theorem name_ok {T : Nat → Nat → Nat} {n : Nat → Nat} {t0s : Int32} {t0b : (Nat → Int32)} {t1s : Int32} {t1b : (Nat → Int32)} {t2s : Int32} {t2b : (Nat → Int32)} {st : Int32} {nz : Int32} {nf : Int32} {nod : (Nat → Int32)} {nln : (Nat → Int32)} {nlt : (Nat → Int32)} {nal : (Nat → Int32)} {nto : (Nat → Int32)} {pz : Int32} {pf : Int32} {pis : (Nat → Int32)} {pln : (Nat → Int32)} {plt : (Nat → Int32)} {sz : Int32} {sf : Int32} {slt : (Nat → Int32)} {fpc : Int32} {fsf : Int32} {faf : Int32} {ford : Int32} {fpf : (Nat → Int32)} {fio : (Nat → Int32)} (hT : TxC T n t0s t0b t1s t1b t2s t2b) (hD : DrC T n st nz nf nod nln nlt nal nto pz pf pis pln plt sz sf slt fpc fsf faf ford fpf fio) {bytes typed : Nat → Int32} (hM : TxR T n bytes typed) {F : Nat} (hF : 2000 ≤ F) (ra : Int32) (rn : Int32) (rp : Int32) (rs : Int32) (rch : (Nat → Int32)) (rlo : (Nat → Int32)) (rle : (Nat → Int32)) (ris : (Nat → Int32)) (rpl : (Nat → Int32)) (rpt : (Nat → Int32)) (rso : (Nat → Int32)) (x1 x2 : Int32) : ∃ r st' nz' nf' nod' nln' nlt' nal' nto' pz' pf' pis' pln' plt' sz' sf' slt' fpc' fsf' faf' ford' fpf' fio' ra' rn' rp' rs' rch' rlo' rle' ris' rpl' rpt' rso', ND_name F t0s t0b t1s t1b t2s t2b st nz nf nod nln nlt nal nto pz pf pis pln plt sz sf slt fpc fsf faf ford fpf fio x1 x2 = some (r, st', nz', nf', nod', nln', nlt', nal', nto', pz', pf', pis', pln', plt', sz', sf', slt', fpc', fsf', faf', ford', fpf', fio') ∧ Mo_name F bytes typed ra rn rp rs rch rlo rle ris rpl rpt rso x1 x2 = some (r, ra', rn', rp', rs', rch', rlo', rle', ris', rpl', rpt', rso') ∧ DrC T n st' nz' nf' nod' nln' nlt' nal' nto' pz' pf' pis' pln' plt' sz' sf' slt' fpc' fsf' faf' ford' fpf' fio' := by
  obtain ⟨nz', nf', nod', nln', nlt', nal', nto', pz', pf', pis', pln', plt', sz', sf', slt', fpc', fsf', faf', ford', fpf', fio', e, g⟩ := ND_refresh_ok hT hD hF
  obtain ⟨ra', rn', rp', rs', rch', rlo', rle', ris', rpl', rpt', rso', f, q1, q2, q3, q4, q5, q6⟩ := Mo_reads_ok hT hM hF ra rn rp rs rch rlo rle ris rpl rpt rso
  have g' := DrC_0 g
  obtain ⟨g1, g2, g3, _⟩ := g.1
  have hN10 : nN T n ≤ 10 := pN_le
  have hz : nz' = nI (nN T n) := g1
  have hO : NmOK (T 0) (nN T n) nod' nln' nlt' := g3
  unfold ND_name Mo_name
  rw [e, cb22_s, f, cb11_s, q1, hz]
  rw [hz] at g'
  rcases isName_cases (nN T n) hN10 x1 with ⟨k, hk, rfl, e1, e2⟩ | ⟨e1, e2⟩
  · have hL := Ln_le (T 0) k
    rw [e1, e2, cb1_s, cb1_s, if_neg (show ¬ (1 : Int32) = 0 by decide), if_neg (show ¬ (1 : Int32) = 0 by decide)]
    unfold Mo_nameOf
    rcases what_cases x2 with (rfl | rfl | ⟨p, hp, rfl⟩) | ⟨h1, h2⟩
    · rw [what_in.1, cb1_s, if_neg (show ¬ (-2 : Int32) < -2 by decide), if_pos (show (-2 : Int32) < 6 by decide), if_pos rfl, Na_lengthOf_ok hO hN10 hk, cb1_s, if_neg (show ¬ (1 : Int32) = 0 by decide), if_neg (show ¬ (-2 : Int32) = -1 by decide), if_pos rfl, rdN (by omega) (by omega), (q4 k hk).2.2.2.1, cb1_s]
      exact ⟨_, _, _, _, _, _, _, _, _, _, _, _, _, _, _, _, _, _, _, _, _, _, _, _, _, _, _, _, _, _, _, _, _, _, rfl, rfl, g'⟩
    · rw [what_in.2.1, cb1_s, if_neg (show ¬ (-1 : Int32) < -2 by decide), if_pos (show (-1 : Int32) < 6 by decide), if_neg (show ¬ (-1 : Int32) = -2 by decide), if_pos rfl, Na_oddsOf_ok hO hN10 hk, cb1_s, if_neg (show ¬ (1 : Int32) = 0 by decide), if_pos rfl, rdN (by omega) (by omega), (q4 k hk).2.2.1, cb1_s]
      exact ⟨_, _, _, _, _, _, _, _, _, _, _, _, _, _, _, _, _, _, _, _, _, _, _, _, _, _, _, _, _, _, _, _, _, _, rfl, rfl, g'⟩
    · have hge : ¬ nI p < -2 := fun hc => by
        rw [Int32.lt_iff_toInt_lt, nI_toInt (by omega)] at hc
        have : (-2 : Int32).toInt = -2 := by decide
        omega
      have hne : ¬ nI p = -2 := fun hc => hge (by
        have := nI_toInt (show p < 2 ^ 31 by omega)
        rw [hc] at this
        have e3 : (-2 : Int32).toInt = -2 := by decide
        omega)
      rw [what_in.2.2 p hp, cb1_s, if_neg hge, if_pos (show nI p < 6 by rw [n6, ltN (by omega) (by omega)]; omega), if_neg hne, if_neg (ne_m1 (by omega)), Na_letterAt_ok hO hN10 hk (by omega), cb1_s, if_neg (show ¬ (1 : Int32) = 0 by decide), if_neg (ne_m1 (by omega)), if_neg hne, rdN (by omega) (by omega), (q4 k hk).2.2.2.1]
      by_cases hpl : p < Ln (T 0) k
      · rw [if_pos hpl, if_neg (show ¬ nI (Ln (T 0) k) ≤ nI p by rw [leN (by omega) (by omega)]; omega), n6, mulN, nI_add, rdN (by omega) (by omega), (q4 k hk).2.2.2.2 p hpl, cb1_s]
        exact ⟨_, _, _, _, _, _, _, _, _, _, _, _, _, _, _, _, _, _, _, _, _, _, _, _, _, _, _, _, _, _, _, _, _, _, rfl, rfl, g'⟩
      · rw [if_neg hpl, if_pos (show nI (Ln (T 0) k) ≤ nI p by rw [leN (by omega) (by omega)]; omega), cb1_s]
        exact ⟨_, _, _, _, _, _, _, _, _, _, _, _, _, _, _, _, _, _, _, _, _, _, _, _, _, _, _, _, _, _, _, _, _, _, rfl, rfl, g'⟩
    · rw [h2, cb1_s, if_pos rfl]
      rcases h1 with h1 | h1
      · rw [if_pos h1]
        exact ⟨_, _, _, _, _, _, _, _, _, _, _, _, _, _, _, _, _, _, _, _, _, _, _, _, _, _, _, _, _, _, _, _, _, _, rfl, rfl, g'⟩
      · by_cases h3 : x2 < -2
        · rw [if_pos h3]
          exact ⟨_, _, _, _, _, _, _, _, _, _, _, _, _, _, _, _, _, _, _, _, _, _, _, _, _, _, _, _, _, _, _, _, _, _, rfl, rfl, g'⟩
        · rw [if_neg h3, if_neg h1]
          exact ⟨_, _, _, _, _, _, _, _, _, _, _, _, _, _, _, _, _, _, _, _, _, _, _, _, _, _, _, _, _, _, _, _, _, _, rfl, rfl, g'⟩
  · rw [e1, e2, cb1_s, cb1_s, if_pos rfl, if_pos rfl]
    exact ⟨_, _, _, _, _, _, _, _, _, _, _, _, _, _, _, _, _, _, _, _, _, _, _, _, _, _, _, _, _, _, _, _, _, _, rfl, rfl, g'⟩
