/-! wipe, undo, fault -/
theorem TX_eqn {T : Nat → Nat} {n m cap : Nat} {b : Nat → Int32} (h : TX T n cap b) (e : n = m) : TX T m cap b := e ▸ h
theorem wipe_ok {T : Nat → Nat → Nat} {n : Nat → Nat} {t0s : Int32} {t0b : (Nat → Int32)} {t1s : Int32} {t1b : (Nat → Int32)} {t2s : Int32} {t2b : (Nat → Int32)} (hT : TxC T n t0s t0b t1s t1b t2s t2b) {bytes typed : Nat → Int32} (hM : TxR T n bytes typed) (st ws ys x1 : Int32) : ∃ r st' t0s' t1s' t2s' ws' ys' typed' T' n', ND_wipe st t0s t1s t2s ws ys x1 = some (r, st', t0s', t1s', t2s', ws', ys') ∧ Mo_wipe typed x1 = some (r, typed') ∧ TxC T' n' t0s' t0b t1s' t1b t2s' t2b ∧ TxR T' n' bytes typed' ∧ Chg T n st ws ys T' n' st' ws' ys' := by
  have hall := TxC_n hT
  rcases text_cases x1 with ⟨k, hk, rfl⟩ | ⟨e1, e2⟩
  · have hcap := cap_le k
    have hnk := hall k hk
    unfold ND_wipe Mo_wipe
    rw [(isText_k k hk).1, (isText_k k hk).2, cb1_s, cb1_s, if_neg (show ¬ (1 : Int32) = 0 by decide), if_neg (show ¬ (1 : Int32) = 0 by decide), rdN hk (by omega), (hM k hk).1]
    obtain ⟨a0, a1, a2, a3, a4, a5⟩ := hT
    subst a0 a2 a4
    have b1 := a1.1
    have b3 := a3.1
    have b5 := a5.1
    rw [wrN hk (by omega)]
    rcases (show k = 0 ∨ k = 1 ∨ k = 2 by omega) with rfl | rfl | rfl
    · rw [if_pos (show nI 0 = 0 from rfl)]
      exact ⟨_, _, _, _, _, _, _, _, upT T 0 (fun _ => 999), upT n 0 0, rfl, rfl, ⟨rfl, TX_wipe a1, rfl, a3, rfl, a5⟩, TxR_pop hM hk 0 _ (by omega) (fun j hj => absurd hj (Nat.not_lt_zero j)), Chg_0 _ _ _ _ _ _ _⟩
    · rw [if_neg (show ¬ nI 1 = 0 by decide), if_pos (show nI 1 = 1 from rfl)]
      exact ⟨_, _, _, _, _, _, _, _, upT T 1 (fun _ => 999), upT n 1 0, rfl, rfl, ⟨rfl, a1, rfl, TX_wipe a3, rfl, a5⟩, TxR_pop hM hk 0 _ (by omega) (fun j hj => absurd hj (Nat.not_lt_zero j)), Chg_k _ _ _ _ _ (by decide) _ _⟩
    · rw [if_neg (show ¬ nI 2 = 0 by decide), if_neg (show ¬ nI 2 = 1 by decide), if_pos (show nI 2 = 2 from rfl)]
      exact ⟨_, _, _, _, _, _, _, _, upT T 2 (fun _ => 999), upT n 2 0, rfl, rfl, ⟨rfl, a1, rfl, a3, rfl, TX_wipe a5⟩, TxR_pop hM hk 0 _ (by omega) (fun j hj => absurd hj (Nat.not_lt_zero j)), Chg_k _ _ _ _ _ (by decide) _ _⟩
  · refine ⟨-2, _, _, _, _, _, _, _, _, _, ?_, ?_, hT, hM, Chg_same _ _ _ _ _⟩
    · unfold ND_wipe; rw [e1, cb1_s, if_pos rfl]
    · unfold Mo_wipe; rw [e2, cb1_s, if_pos rfl]
theorem undo_ok {T : Nat → Nat → Nat} {n : Nat → Nat} {t0s : Int32} {t0b : (Nat → Int32)} {t1s : Int32} {t1b : (Nat → Int32)} {t2s : Int32} {t2b : (Nat → Int32)} (hT : TxC T n t0s t0b t1s t1b t2s t2b) {bytes typed : Nat → Int32} (hM : TxR T n bytes typed) (st ws ys x1 : Int32) : ∃ r st' t0s' t1s' t2s' ws' ys' typed' T' n', ND_undo st t0s t1s t2s ws ys x1 = some (r, st', t0s', t1s', t2s', ws', ys') ∧ Mo_undo typed x1 = some (r, typed') ∧ TxC T' n' t0s' t0b t1s' t1b t2s' t2b ∧ TxR T' n' bytes typed' ∧ Chg T n st ws ys T' n' st' ws' ys' := by
  have hall := TxC_n hT
  rcases text_cases x1 with ⟨k, hk, rfl⟩ | ⟨e1, e2⟩
  · have hcap := cap_le k
    have hnk := hall k hk
    unfold ND_undo Mo_undo
    rw [(isText_k k hk).1, (isText_k k hk).2, cb1_s, cb1_s, if_neg (show ¬ (1 : Int32) = 0 by decide), if_neg (show ¬ (1 : Int32) = 0 by decide), rdN hk (by omega), (hM k hk).1]
    obtain ⟨a0, a1, a2, a3, a4, a5⟩ := hT
    subst a0 a2 a4
    have b1 := a1.1
    have b3 := a3.1
    have b5 := a5.1
    by_cases h0 : n k = 0
    · rw [if_pos (show nI (n k) = 0 by rw [h0]; rfl)]
      rcases (show k = 0 ∨ k = 1 ∨ k = 2 by omega) with rfl | rfl | rfl
      · rw [if_pos (show nI 0 = 0 from rfl)]
        rw [show Te_size (nI (n 0)) = some (nI (n 0)) from rfl, cb1_s, if_pos (show nI (n 0) = 0 by rw [h0]; rfl)]
        exact ⟨_, _, _, _, _, _, _, _, _, _, rfl, rfl, ⟨rfl, a1, rfl, a3, rfl, a5⟩, hM, Chg_same _ _ _ _ _⟩
      · rw [if_neg (show ¬ nI 1 = 0 by decide), if_pos (show nI 1 = 1 from rfl)]
        rw [show Te_size (nI (n 1)) = some (nI (n 1)) from rfl, cb1_s, if_pos (show nI (n 1) = 0 by rw [h0]; rfl)]
        exact ⟨_, _, _, _, _, _, _, _, _, _, rfl, rfl, ⟨rfl, a1, rfl, a3, rfl, a5⟩, hM, Chg_same _ _ _ _ _⟩
      · rw [if_neg (show ¬ nI 2 = 0 by decide), if_neg (show ¬ nI 2 = 1 by decide), if_pos (show nI 2 = 2 from rfl)]
        rw [show Te_size (nI (n 2)) = some (nI (n 2)) from rfl, cb1_s, if_pos (show nI (n 2) = 0 by rw [h0]; rfl)]
        exact ⟨_, _, _, _, _, _, _, _, _, _, rfl, rfl, ⟨rfl, a1, rfl, a3, rfl, a5⟩, hM, Chg_same _ _ _ _ _⟩
    · obtain ⟨m, hm⟩ : ∃ m, n k = m + 1 := ⟨n k - 1, by omega⟩
      have hdl : Te_dropLast (nI (n k)) = some (nI m) := by
        unfold Te_dropLast
        rw [hm, if_neg (show ¬ nI (m + 1) ≤ 0 by rw [n0, leN (by omega) (by omega)]; omega), nI_pred]
      rw [if_neg (show ¬ nI (n k) = 0 by rw [n0, eqN (by omega) (by omega)]; exact h0), rdN hk (by omega), (hM k hk).1, wrN hk (by omega), rdN hk (by omega), upd_s, show nI (n k) - 1 = nI m by rw [hm, nI_pred]]
      have hR := TxR_pop hM hk m (upT (T k) m 999) (by omega) (fun j hj => upT_n (by omega))
      rcases (show k = 0 ∨ k = 1 ∨ k = 2 by omega) with rfl | rfl | rfl
      · rw [if_pos (show nI 0 = 0 from rfl)]
        rw [show Te_size (nI (n 0)) = some (nI (n 0)) from rfl, cb1_s, if_neg (show ¬ nI (n 0) = 0 by rw [n0, eqN (by omega) (by omega)]; exact h0), hdl, cb1_s]
        exact ⟨_, _, _, _, _, _, _, _, upT T 0 (upT (T 0) m 999), upT n 0 m, rfl, rfl, ⟨rfl, TX_pop (TX_eqn a1 hm), rfl, a3, rfl, a5⟩, hR, Chg_0 _ _ _ _ _ _ _⟩
      · rw [if_neg (show ¬ nI 1 = 0 by decide), if_pos (show nI 1 = 1 from rfl)]
        rw [show Te_size (nI (n 1)) = some (nI (n 1)) from rfl, cb1_s, if_neg (show ¬ nI (n 1) = 0 by rw [n0, eqN (by omega) (by omega)]; exact h0), hdl, cb1_s]
        exact ⟨_, _, _, _, _, _, _, _, upT T 1 (upT (T 1) m 999), upT n 1 m, rfl, rfl, ⟨rfl, a1, rfl, TX_pop (TX_eqn a3 hm), rfl, a5⟩, hR, Chg_k _ _ _ _ _ (by decide) _ _⟩
      · rw [if_neg (show ¬ nI 2 = 0 by decide), if_neg (show ¬ nI 2 = 1 by decide), if_pos (show nI 2 = 2 from rfl)]
        rw [show Te_size (nI (n 2)) = some (nI (n 2)) from rfl, cb1_s, if_neg (show ¬ nI (n 2) = 0 by rw [n0, eqN (by omega) (by omega)]; exact h0), hdl, cb1_s]
        exact ⟨_, _, _, _, _, _, _, _, upT T 2 (upT (T 2) m 999), upT n 2 m, rfl, rfl, ⟨rfl, a1, rfl, a3, rfl, TX_pop (TX_eqn a5 hm)⟩, hR, Chg_k _ _ _ _ _ (by decide) _ _⟩
  · refine ⟨-2, _, _, _, _, _, _, _, _, _, ?_, ?_, hT, hM, Chg_same _ _ _ _ _⟩
    · unfold ND_undo; rw [e1, cb1_s, if_pos rfl]
    · unfold Mo_undo; rw [e2, cb1_s, if_pos rfl]
theorem ND_fault_ok {T : Nat → Nat → Nat} {n : Nat → Nat} {t0s : Int32} {t0b : (Nat → Int32)} {t1s : Int32} {t1b : (Nat → Int32)} {t2s : Int32} {t2b : (Nat → Int32)} {st : Int32} {nz : Int32} {nf : Int32} {nod : (Nat → Int32)} {nln : (Nat → Int32)} {nlt : (Nat → Int32)} {nal : (Nat → Int32)} {nto : (Nat → Int32)} {pz : Int32} {pf : Int32} {pis : (Nat → Int32)} {pln : (Nat → Int32)} {plt : (Nat → Int32)} {sz : Int32} {sf : Int32} {slt : (Nat → Int32)} {fpc : Int32} {fsf : Int32} {faf : Int32} {ford : Int32} {fpf : (Nat → Int32)} {fio : (Nat → Int32)} (hT : TxC T n t0s t0b t1s t1b t2s t2b) (hD : DrC T n st nz nf nod nln nlt nal nto pz pf pis pln plt sz sf slt fpc fsf faf ford fpf fio) {bytes typed : Nat → Int32} (hM : TxR T n bytes typed) {F : Nat} (hF : 2000 ≤ F) (x1 : Int32) (ra : Int32) (rn : Int32) (rp : Int32) (rs : Int32) (rch : (Nat → Int32)) (rlo : (Nat → Int32)) (rle : (Nat → Int32)) (ris : (Nat → Int32)) (rpl : (Nat → Int32)) (rpt : (Nat → Int32)) (rso : (Nat → Int32)) : ∃ r st' nz' nf' nod' nln' nlt' nal' nto' pz' pf' pis' pln' plt' sz' sf' slt' fpc' fsf' faf' ford' fpf' fio' ra' rn' rp' rs' rch' rlo' rle' ris' rpl' rpt' rso', ND_fault F t0s t0b t1s t1b t2s t2b st nz nf nod nln nlt nal nto pz pf pis pln plt sz sf slt fpc fsf faf ford fpf fio x1 = some (r, st', nz', nf', nod', nln', nlt', nal', nto', pz', pf', pis', pln', plt', sz', sf', slt', fpc', fsf', faf', ford', fpf', fio') ∧ Mo_fault F bytes typed ra rn rp rs rch rlo rle ris rpl rpt rso x1 = some (r, ra', rn', rp', rs', rch', rlo', rle', ris', rpl', rpt', rso') ∧ DrC T n st' nz' nf' nod' nln' nlt' nal' nto' pz' pf' pis' pln' plt' sz' sf' slt' fpc' fsf' faf' ford' fpf' fio' := by
  rcases text_cases x1 with ⟨k, hk, rfl⟩ | ⟨e1, e2⟩
  · have h1 := ND_refresh_ok hT hD hF
    obtain ⟨nz', nf', nod', nln', nlt', nal', nto', pz', pf', pis', pln', plt', sz', sf', slt', fpc', fsf', faf', ford', fpf', fio', e, g⟩ := h1
    obtain ⟨a0, a1, a2, a3, a4, a5⟩ := hT
    have gD := DrC_0 g
    unfold ND_fault Mo_fault
    rw [(isText_k k hk).1, (isText_k k hk).2, cb1_s, cb1_s, if_neg (show ¬ (1 : Int32) = 0 by decide), if_neg (show ¬ (1 : Int32) = 0 by decide), e]
    rcases (show k = 0 ∨ k = 1 ∨ k = 2 by omega) with rfl | rfl | rfl
    · obtain ⟨y1, ch', lo', le', f1, _⟩ := Mo_names_ok a1 (hM 0 (by omega)) (show 100 ≤ F by omega) ra rn rch rlo rle
      rw [if_pos (show nI 0 = 0 from rfl), f1, cb6_s, ← g.1.2.1]
      exact ⟨_, _, _, _, _, _, _, _, _, _, _, _, _, _, _, _, _, _, _, _, _, _, _, _, _, _, _, _, _, _, _, _, _, _, rfl, rfl, gD⟩
    · obtain ⟨y1, ch', lo', le', f1, _⟩ := Mo_pieces_ok a3 (hM 1 (by omega)) (show 100 ≤ F by omega) ra rp ris rpl rpt
      rw [if_neg (show ¬ nI 1 = 0 by decide), if_pos (show nI 1 = 1 from rfl), f1, cb6_s, ← g.2.1.2.1]
      exact ⟨_, _, _, _, _, _, _, _, _, _, _, _, _, _, _, _, _, _, _, _, _, _, _, _, _, _, _, _, _, _, _, _, _, _, rfl, rfl, gD⟩
    · obtain ⟨y1, so', f1, _⟩ := Mo_song_ok a5 a5.1 (hM 2 (by omega)) (show 100 ≤ F by omega) ra rs rso
      rw [if_neg (show ¬ nI 2 = 0 by decide), if_neg (show ¬ nI 2 = 1 by decide), f1, cb4_s, ← g.2.2.1.2.1]
      exact ⟨_, _, _, _, _, _, _, _, _, _, _, _, _, _, _, _, _, _, _, _, _, _, _, _, _, _, _, _, _, _, _, _, _, _, rfl, rfl, gD⟩
  · refine ⟨-2, st, nz, nf, nod, nln, nlt, nal, nto, pz, pf, pis, pln, plt, sz, sf, slt, fpc, fsf, faf, ford, fpf, fio, ra, rn, rp, rs, rch, rlo, rle, ris, rpl, rpt, rso, ?_, ?_, hD⟩
    · unfold ND_fault; rw [e1, cb1_s, if_pos rfl]
    · unfold Mo_fault; rw [e2, cb1_s, if_pos rfl]
