/-! mean and changes agree -/
def payT (tm : Nat → Nat) (j : Nat) : Nat := if j < tm 2 * tm 4 then paidN tm j else ruinN tm + tm 1 * (tm 2 * tm 4)
theorem payT_le {tm : Nat → Nat} (hT : TmOK tm) (j : Nat) : payT tm j ≤ 420000 := by
  have hb := TmB hT
  unfold payT
  split
  · next h => have := (paid_bd hT h).2.2; omega
  · have h2 : tm 2 * tm 4 ≤ 12 * 3 := Nat.mul_le_mul (by omega) (by omega)
    have h3 := pw12 (g := tm 0) (k := tm 2) (by omega) (by omega)
    have h4 : tm 1 * (tm 2 * tm 4) ≤ 99 * 36 := Nat.mul_le_mul (by omega) h2
    unfold ruinN; omega
def payS (od tm rw : Nat → Nat) : Nat → Nat
  | 0 => 0
  | j + 1 => payS od tm rw j + od (rw j) * payT tm j
theorem payS_le {od tm rw : Nat → Nat} (hT : TmOK tm) (ho : ∀ i, od (rw i) ≤ 9) : ∀ j, payS od tm rw j ≤ j * 3780000
  | 0 => by rw [payS]; omega
  | j + 1 => by
    have h1 := payS_le (od := od) (rw := rw) hT ho j
    have h2 := Nat.mul_le_mul (ho j) (payT_le hT j)
    rw [payS]; omega
theorem row_in {od : Nat → Nat} {N M : Nat} (hN : N ≤ 10) {j : Nat} (hj : j < cnt M N) : sel od (remM od N M j) N < N := by
  have h := remM_cnt (od := od) (N := N) (M := M) hN j (by omega)
  obtain ⟨i, hi, hb⟩ := cnt_ex (m := remM od N M j) (n := N) (by omega)
  exact (sel_in (by omega) hi hb).1
theorem De_pay_ok {tm : Nat → Nat} {dt : Nat → Int32} (h : TmC tm dt) (hT : TmOK tm) {j c : Nat} (hj : j < c) (hc : c < 1000) : De_paidAt dt (nI j) (nI c) = some (nI (payT tm j)) := by
  unfold payT
  by_cases hk : j < tm 2 * tm 4
  · rw [if_pos hk]; exact De_paid_at h hT hk _
  · rw [if_neg hk, De_paid_past h hT (by omega) (by omega) hc, Nat.min_eq_right (by omega)]
theorem mean_cl {T : Nat → Nat} {N M : Nat} {od ln lt : Nat → Int32} (hO : NmOK T N od ln lt) (hN : N ≤ 10) {tm : Nat → Nat} {dt : Nat → Int32} (hC : TmC tm dt) (hT : TmOK tm) {ford : Int32} {fio : Nat → Int32} (hR : RowOK (Od T) N M ford fio) (F : Nat) (t0s : Int32) (t0b : (Nat → Int32)) (t1s : Int32) (t1b : (Nat → Int32)) (t2s : Int32) (t2b : (Nat → Int32)) (x1 st nf : Int32) (nal nto : Nat → Int32) (pz : Int32) (pf : Int32) (pis : (Nat → Int32)) (pln : (Nat → Int32)) (plt : (Nat → Int32)) (sz : Int32) (sf : Int32) (slt : (Nat → Int32)) (fpc fsf faf : Int32) (fpf : Nat → Int32) : ∀ (d j f : Nat), j + d = cnt M N → d < f →
    ND_mean_l40 F t0s t0b t1s t1b t2s t2b dt x1 f ford (nI (payS (Od T) tm (fun j => sel (Od T) (remM (Od T) N M j) N) j)) (nI j) st (nI N) nf od ln lt nal nto pz pf pis pln plt sz sf slt fpc fsf faf ford fpf fio = ND_mean_b82 F t0s t0b t1s t1b t2s t2b dt x1 (nI (payS (Od T) tm (fun j => sel (Od T) (remM (Od T) N M j) N) (cnt M N))) st (nI N) nf od ln lt nal nto pz pf pis pln plt sz sf slt fpc fsf faf ford fpf fio := by
  obtain ⟨rr1, rr2⟩ := hR
  subst rr1
  have hc := cnt_le M N
  intro d
  induction d with
  | zero =>
    intro j f hj hf
    obtain ⟨f, rfl⟩ : ∃ f', f = f' + 1 := ⟨f - 1, by omega⟩
    show ND_mean_b40 F t0s t0b t1s t1b t2s t2b dt x1 _ _ _ (nI j) st (nI N) nf od ln lt nal nto pz pf pis pln plt sz sf slt fpc fsf faf _ fpf fio = _
    unfold ND_mean_b40
    rw [if_pos (show nI (cnt M N) ≤ nI j by rw [leN (by omega) (by omega)]; omega), show j = cnt M N by omega]
  | succ d ih =>
    intro j f hj hf
    obtain ⟨f, rfl⟩ : ∃ f', f = f' + 1 := ⟨f - 1, by omega⟩
    show ND_mean_b40 F t0s t0b t1s t1b t2s t2b dt x1 (ND_mean_l40 F t0s t0b t1s t1b t2s t2b dt x1 f) _ _ (nI j) st (nI N) nf od ln lt nal nto pz pf pis pln plt sz sf slt fpc fsf faf _ fpf fio = _
    unfold ND_mean_b40 Fi_inRow
    have hs := row_in (od := Od T) (M := M) hN (j := j) (by omega)
    rw [if_neg (show ¬ nI (cnt M N) ≤ nI j by rw [leN (by omega) (by omega)]; omega), if_neg (nI_pos (by omega)), if_neg (show ¬ nI (cnt M N) ≤ nI j by rw [leN (by omega) (by omega)]; omega), rdN (by omega) (by omega), rr2 j (by omega), cb1_s, Na_oddsOf_ok hO hN hs, cb1_s, De_pay_ok hC hT (show j < cnt M N by omega) (by omega), cb1_s, mulN, nI_add, show nI j + 1 = nI (j + 1) from nI_1 _]
    exact ih (j + 1) f (by omega) (by omega)
theorem mean_rl {T : Nat → Nat} {N M : Nat} {od ln lt : Nat → Int32} (hO : NmOK T N od ln lt) (hN : N ≤ 10) {tm : Nat → Nat} {se : Nat → Int32} (hC : TmC tm se) (hT : TmOK tm) {ford : Int32} {row : Nat → Int32} (hR : RowOK (Od T) N M ford row) (F : Nat) (rp rs : Int32) (ris rpl rpt rso : Nat → Int32) (x1 : Int32) : ∀ (d j f : Nat), j + d = cnt M N → d < f →
    Mo_meanOf_l10 F (nI N) rp rs od ln lt ris rpl rpt rso se x1 f ford (lI (payS (Od T) tm (fun j => sel (Od T) (remM (Od T) N M j) N) j)) (nI j) row = Mo_meanOf_b111 F (nI N) rp rs od ln lt ris rpl rpt rso se x1 ford (lI (payS (Od T) tm (fun j => sel (Od T) (remM (Od T) N M j) N) (cnt M N))) row := by
  obtain ⟨rr1, rr2⟩ := hR
  subst rr1
  have hc := cnt_le M N
  have hb := TmB hT
  have h2 : tm 2 * tm 4 ≤ 12 * 3 := Nat.mul_le_mul (by omega) (by omega)
  have h4 : ¬ nI (tm 4) = 0 := fun hq => by have := (nI_eq (b := 0) (by omega) (by omega)).mp hq; omega
  intro d
  induction d with
  | zero =>
    intro j f hj hf
    obtain ⟨f, rfl⟩ : ∃ f', f = f' + 1 := ⟨f - 1, by omega⟩
    show Mo_meanOf_b10 F (nI N) rp rs od ln lt ris rpl rpt rso se x1 _ _ _ (nI j) row = _
    unfold Mo_meanOf_b10
    rw [if_pos (show nI (cnt M N) ≤ nI j by rw [leN (by omega) (by omega)]; omega), show j = cnt M N by omega]
  | succ d ih =>
    intro j f hj hf
    obtain ⟨f, rfl⟩ : ∃ f', f = f' + 1 := ⟨f - 1, by omega⟩
    show Mo_meanOf_b10 F (nI N) rp rs od ln lt ris rpl rpt rso se x1 (Mo_meanOf_l10 F (nI N) rp rs od ln lt ris rpl rpt rso se x1 f) _ _ (nI j) row = _
    have hs := row_in (od := Od T) (M := M) hN (j := j) (by omega)
    have ho := (Od_le hO hs).2
    have key : Mo_meanOf_b84 F (nI N) rp rs od ln lt ris rpl rpt rso se x1 (Mo_meanOf_l10 F (nI N) rp rs od ln lt ris rpl rpt rso se x1 f) (nI (cnt M N)) (lI (payS (Od T) tm (fun j => sel (Od T) (remM (Od T) N M j) N) j)) (nI j) (lI (payT tm j)) row = Mo_meanOf_l10 F (nI N) rp rs od ln lt ris rpl rpt rso se x1 f (nI (cnt M N)) (lI (payS (Od T) tm (fun j => sel (Od T) (remM (Od T) N M j) N) (j + 1))) (nI (j + 1)) row := by
      unfold Mo_meanOf_b84
      rw [rdN (by omega) (by omega), rr2 j (by omega), rdN (by omega) (by omega), (hO _ hs).2.2.1, tL (by omega), lI_mul, lI_add, show nI j + 1 = nI (j + 1) from nI_1 _]; rfl
    unfold Mo_meanOf_b10
    have h5 : j / tm 4 ≤ j := Nat.div_le_self _ _
    rw [if_neg (show ¬ nI (cnt M N) ≤ nI j by rw [leN (by omega) (by omega)]; omega), r4, hC 4 (by omega), gd_s h4, r2, hC 2 (by omega), pk_div (by omega) (by omega) (by omega)]
    refine Eq.trans ?_ (key.trans (ih (j + 1) f (by omega) (by omega)))
    unfold payT
    by_cases hk : j < tm 2 * tm 4
    · have h3 := paid_bd hT hk
      have h6 := pw12 (g := tm 0) (k := j / tm 4) (by omega) (by omega)
      have h7 : tm 1 * j ≤ 99 * 36 := Nat.mul_le_mul (by omega) (by omega)
      have h8 : ¬ tm 2 ≤ j / tm 4 := fun hc => by have := (Nat.le_div_iff_mul_le (by omega)).mp hc; omega
      rw [if_pos hk, if_neg (show ¬ nI (tm 2) ≤ nI (j / tm 4) by rw [leN (by omega) (by omega)]; exact h8), Mo_promise_ok hC hT (by omega), cb1_s, r1, hC 1 (by omega), mulN, Nat.mul_comm j, tL (by omega), lI_add]; rfl
    · have h8 : tm 2 ≤ j / tm 4 := (Nat.le_div_iff_mul_le (by omega)).mpr (by omega)
      have hpl := payT_le hT j
      unfold payT at hpl
      rw [if_neg hk] at hpl
      rw [if_neg hk, if_pos (show nI (tm 2) ≤ nI (j / tm 4) by rw [leN (by omega) (by omega)]; exact h8), Mo_ruin_ok hC hT, cb1_s, r4, hC 4 (by omega), r2, hC 2 (by omega), r1, hC 1 (by omega), mulN, mulN, nI_add, Nat.mul_comm (tm 4), Nat.mul_comm (tm 2 * tm 4), tL (by omega)]
theorem mean_v {T : Nat → Nat → Nat} {n : Nat → Nat} {t0s : Int32} {t0b : (Nat → Int32)} {t1s : Int32} {t1b : (Nat → Int32)} {t2s : Int32} {t2b : (Nat → Int32)} {st : Int32} {nz : Int32} {nf : Int32} {nod : (Nat → Int32)} {nln : (Nat → Int32)} {nlt : (Nat → Int32)} {nal : (Nat → Int32)} {nto : (Nat → Int32)} {pz : Int32} {pf : Int32} {pis : (Nat → Int32)} {pln : (Nat → Int32)} {plt : (Nat → Int32)} {sz : Int32} {sf : Int32} {slt : (Nat → Int32)} {fpc : Int32} {fsf : Int32} {faf : Int32} {ford : Int32} {fpf : (Nat → Int32)} {fio : (Nat → Int32)} (hT : TxC T n t0s t0b t1s t1b t2s t2b) (hD : DrC T n st nz nf nod nln nlt nal nto pz pf pis pln plt sz sf slt fpc fsf faf ford fpf fio) {F : Nat} (hF : 2000 ≤ F) {tm : Nat → Nat} {dt : Nat → Int32} (hC : TmC tm dt) (hTm : TmOK tm) {c : Nat} (hc : c ≤ 1) : ∃ r nz' nf' nod' nln' nlt' nal' nto' pz' pf' pis' pln' plt' sz' sf' slt' fpc' fsf' faf' ford' fpf' fio', ND_mean F t0s t0b t1s t1b t2s t2b dt st nz nf nod nln nlt nal nto pz pf pis pln plt sz sf slt fpc fsf faf ford fpf fio (nI c) = some (r, 0, nz', nf', nod', nln', nlt', nal', nto', pz', pf', pis', pln', plt', sz', sf', slt', fpc', fsf', faf', ford', fpf', fio') ∧ DrC T n 0 nz' nf' nod' nln' nlt' nal' nto' pz' pf' pis' pln' plt' sz' sf' slt' fpc' fsf' faf' ford' fpf' fio' ∧ (∀ (rn : Int32) (rp : Int32) (rs : Int32) (rch : (Nat → Int32)) (rlo : (Nat → Int32)) (rle : (Nat → Int32)) (ris : (Nat → Int32)) (rpl : (Nat → Int32)) (rpt : (Nat → Int32)) (rso : (Nat → Int32)) (se row : Nat → Int32), RdOK T n rn rp rs rch rlo rle ris rpl rpt rso → TmC tm se → ∃ row', Mo_meanOf F rn rp rs rch rlo rle ris rpl rpt rso se row (nI c) = some (r, row')) := by
  obtain ⟨nz', nf', nod', nln', nlt', nal', nto', pz', pf', pis', pln', plt', sz', sf', slt', fpc', fsf', faf', ford', fpf', fio', e, g⟩ := ND_refresh_ok hT hD hF
  have g' := DrC_0 g
  have hO : NmOK (T 0) (nN T n) nod' nln' nlt' := g.1.2.2.1
  have hz : nz' = nI (nN T n) := g.1.1
  have hW : OtOK (T 0) (2 ^ (nN T n)) nto' := g.1.2.2.2.2
  have g8 : faf' = nI (FM T n 63) := g.2.2.2.2.2.1
  have hRw : RowOK (Od (T 0)) (nN T n) (FM T n 63) ford' fio' := g.2.2.2.2.2.2.1
  have hN10 : nN T n ≤ 10 := pN_le
  have hl : FM T n 63 < 2 ^ (nN T n) := fm_lt _ _ _ _ _ _ _
  have hcl := cnt_le (FM T n 63) (nN T n)
  have h210 := p2_10 hN10
  have two : ND_isZeroOrOne (nI c) = some 1 := by
    rcases Nat.le_one_iff_eq_zero_or_eq_one.mp hc with rfl | rfl <;> rfl
  unfold ND_mean Fi_rowSize
  rw [two, cb1_s, if_neg (show ¬ (1 : Int32) = 0 by decide), e, cb22_s, cb1_s, hRw.1]
  by_cases h0 : cnt (FM T n 63) (nN T n) = 0
  · rw [h0, if_pos (show nI 0 = 0 from rfl)]
    unfold ND_asLong
    rw [cb1_s, ← h0, ← hRw.1]
    refine ⟨_, _, _, _, _, _, _, _, _, _, _, _, _, _, _, _, _, _, _, _, _, _, rfl, g', ?_⟩
    intro rn rp rs rch rlo rle ris rpl rpt rso se row hR hS
    obtain ⟨q1, q2, q3, q4, q5, q6⟩ := hR
    obtain ⟨c2, row', w1, w2, w3⟩ := Mo_findRow_ok q4 pN_le q5 pP_le q6 (pS_le (n2_le hT)) (show 100 ≤ F by omega) row
    unfold Mo_meanOf
    rw [q1, q2, q3, w1, cb2_s]
    have hm := mean_rl q4 pN_le hS hTm (M := FM T n 63) ⟨w2, w3⟩ F (nI (nP T n)) (nI (nS T n)) ris rpl rpt rso (nI c) 0 0 F (by omega) (by omega)
    have hm' : Mo_meanOf_l10 F (nI (nN T n)) (nI (nP T n)) (nI (nS T n)) rch rlo rle ris rpl rpt rso se (nI c) F c2 0 0 row' = _ := hm
    have w2' : c2 = nI (cnt (FM T n 63) (nN T n)) := w2
    rw [hm', w2', h0]
    unfold Mo_meanOf_b111 Mo_no
    rw [if_pos (show nI 0 = 0 from rfl), cb1_s]
    exact ⟨_, rfl⟩
  · have hne : FM T n 63 ≠ 0 := fun hq => by
      obtain ⟨i, hi, hb⟩ := cnt_ex (m := FM T n 63) (n := nN T n) (by omega)
      rw [hq, Nat.zero_testBit] at hb; cases hb
    obtain ⟨w1, w2⟩ := wt_pos hO hN10 hl hne
    have hcn : ¬ nI (cnt (FM T n 63) (nN T n)) = 0 := fun hq => h0 ((nI_eq (b := 0) (by omega) (by omega)).mp hq)
    rw [if_neg hcn, ← hRw.1, hz]
    have hm : ND_mean_l40 F t0s t0b t1s t1b t2s t2b dt (nI c) F ford' 0 0 _ _ _ _ _ _ _ _ pz' pf' pis' pln' plt' sz' sf' slt' _ _ _ _ _ _ = _ := mean_cl hO hN10 hC hTm hRw F t0s t0b t1s t1b t2s t2b (nI c) 0 nf' nal' nto' pz' pf' pis' pln' plt' sz' sf' slt' fpc' fsf' faf' fpf' (cnt (FM T n 63) (nN T n)) 0 F (by omega) (by omega)
    rw [hm]
    unfold ND_mean_b82 Fi_byAll
    have hS : payS (Od (T 0)) tm (fun j => sel (Od (T 0)) (remM (Od (T 0)) (nN T n) (FM T n 63) j) (nN T n)) (cnt (FM T n 63) (nN T n)) ≤ 10 * 3780000 := by
      have : ∀ j, j ≤ cnt (FM T n 63) (nN T n) → payS (Od (T 0)) tm (fun j => sel (Od (T 0)) (remM (Od (T 0)) (nN T n) (FM T n 63) j) (nN T n)) j ≤ j * 3780000 := by
        intro j
        induction j with
        | zero => intro _; rw [payS]; exact Nat.zero_le _
        | succ j ihj =>
          intro hj
          have i1 := ihj (by omega)
          have i2 := Nat.mul_le_mul (Od_le hO (row_in (od := Od (T 0)) (M := FM T n 63) hN10 (j := j) (by omega))).2 (payT_le hTm j)
          rw [payS]; omega
      exact Nat.le_trans (this _ (Nat.le_refl _)) (Nat.mul_le_mul_right _ (by omega))
    obtain ⟨q, hq, t1, t2⟩ := term_ok hF (show payS (Od (T 0)) tm (fun j => sel (Od (T 0)) (remM (Od (T 0)) (nN T n) (FM T n 63) j) (nN T n)) (cnt (FM T n 63) (nN T n)) < 2147483648 by omega) (show wt (Od (T 0)) (FM T n 63) 10 < 100 by omega) w1 (nI c)
    rw [g8, cb1_s, Na_oddsOfAll_ok hW hN10 hl, cb1_s, t1, cb1_s, ← g8, ← hz]
    refine ⟨_, _, _, _, _, _, _, _, _, _, _, _, _, _, _, _, _, _, _, _, _, _, rfl, g', ?_⟩
    intro rn rp rs rch rlo rle ris rpl rpt rso se row hR hS
    obtain ⟨q1, q2, q3, q4, q5, q6⟩ := hR
    obtain ⟨c2, row', w1, w2, w3⟩ := Mo_findRow_ok q4 pN_le q5 pP_le q6 (pS_le (n2_le hT)) (show 100 ≤ F by omega) row
    unfold Mo_meanOf
    rw [q1, q2, q3, w1, cb2_s]
    have hm := mean_rl q4 pN_le hS hTm (M := FM T n 63) ⟨w2, w3⟩ F (nI (nP T n)) (nI (nS T n)) ris rpl rpt rso (nI c) (cnt (FM T n 63) (nN T n)) 0 F (by omega) (by omega)
    have hm' : Mo_meanOf_l10 F (nI (nN T n)) (nI (nP T n)) (nI (nS T n)) rch rlo rle ris rpl rpt rso se (nI c) F c2 0 0 row' = _ := hm
    have w2' : c2 = nI (cnt (FM T n 63) (nN T n)) := w2
    rw [hm', w2']
    unfold Mo_meanOf_b111
    rw [if_neg hcn, Mo_fitsNow_ok q4 pN_le q5 pP_le q6 (pS_le (n2_le hT)) (show 100 ≤ F by omega), cb1_s, show fm (T 0) (T 1) (T 2) (nN T n) (nP T n) (nS T n) 63 = FM T n 63 from rfl, Mo_weight_ok q4 hN10 (by omega) hl, cb1_s, tL (by omega), t2, cb1_s, tL hq]
    exact ⟨_, rfl⟩
theorem mean_ok {T : Nat → Nat → Nat} {n : Nat → Nat} {t0s : Int32} {t0b : (Nat → Int32)} {t1s : Int32} {t1b : (Nat → Int32)} {t2s : Int32} {t2b : (Nat → Int32)} {st : Int32} {nz : Int32} {nf : Int32} {nod : (Nat → Int32)} {nln : (Nat → Int32)} {nlt : (Nat → Int32)} {nal : (Nat → Int32)} {nto : (Nat → Int32)} {pz : Int32} {pf : Int32} {pis : (Nat → Int32)} {pln : (Nat → Int32)} {plt : (Nat → Int32)} {sz : Int32} {sf : Int32} {slt : (Nat → Int32)} {fpc : Int32} {fsf : Int32} {faf : Int32} {ford : Int32} {fpf : (Nat → Int32)} {fio : (Nat → Int32)} (hT : TxC T n t0s t0b t1s t1b t2s t2b) (hD : DrC T n st nz nf nod nln nlt nal nto pz pf pis pln plt sz sf slt fpc fsf faf ford fpf fio) {F : Nat} (hF : 2000 ≤ F) {bytes typed : Nat → Int32} (hM : TxR T n bytes typed) {tm : Nat → Nat} {dt se : Nat → Int32} (hC : TmC tm dt) (hS : TmC tm se) (hTm : TmOK tm) (ra : Int32) (rn : Int32) (rp : Int32) (rs : Int32) (rch : (Nat → Int32)) (rlo : (Nat → Int32)) (rle : (Nat → Int32)) (ris : (Nat → Int32)) (rpl : (Nat → Int32)) (rpt : (Nat → Int32)) (rso : (Nat → Int32)) (row : Nat → Int32) (x1 : Int32) : ∃ r st' nz' nf' nod' nln' nlt' nal' nto' pz' pf' pis' pln' plt' sz' sf' slt' fpc' fsf' faf' ford' fpf' fio' ra' rn' rp' rs' rch' rlo' rle' ris' rpl' rpt' rso' row', ND_mean F t0s t0b t1s t1b t2s t2b dt st nz nf nod nln nlt nal nto pz pf pis pln plt sz sf slt fpc fsf faf ford fpf fio x1 = some (r, st', nz', nf', nod', nln', nlt', nal', nto', pz', pf', pis', pln', plt', sz', sf', slt', fpc', fsf', faf', ford', fpf', fio') ∧ Mo_mean F bytes typed se ra rn rp rs rch rlo rle ris rpl rpt rso row x1 = some (r, ra', rn', rp', rs', rch', rlo', rle', ris', rpl', rpt', rso', row') ∧ DrC T n st' nz' nf' nod' nln' nlt' nal' nto' pz' pf' pis' pln' plt' sz' sf' slt' fpc' fsf' faf' ford' fpf' fio' := by
  obtain ⟨ra', rn', rp', rs', rch', rlo', rle', ris', rpl', rpt', rso', f, hR⟩ := Mo_reads_ok hT hM hF ra rn rp rs rch rlo rle ris rpl rpt rso
  unfold Mo_mean
  rw [f, cb11_s]
  rcases two_cases x1 with ⟨c, hc, rfl, e1, e1'⟩ | ⟨e1, e1'⟩
  · obtain ⟨r, nz', nf', nod', nln', nlt', nal', nto', pz', pf', pis', pln', plt', sz', sf', slt', fpc', fsf', faf', ford', fpf', fio', v, g, w⟩ := mean_v hT hD hF hC hTm hc
    obtain ⟨row', w'⟩ := w _ _ _ _ _ _ _ _ _ _ se row hR hS
    rw [v, e1', cb1_s, if_neg (show ¬ (1 : Int32) = 0 by decide), w', cb2_s]
    exact ⟨_, _, _, _, _, _, _, _, _, _, _, _, _, _, _, _, _, _, _, _, _, _, _, _, _, _, _, _, _, _, _, _, _, _, _, rfl, rfl, g⟩
  · rw [e1', cb1_s, if_pos rfl]
    unfold Mo_no
    rw [cb1_s]
    refine ⟨_, st, nz, nf, nod, nln, nlt, nal, nto, pz, pf, pis, pln, plt, sz, sf, slt, fpc, fsf, faf, ford, fpf, fio, ra', rn', rp', rs', rch', rlo', rle', ris', rpl', rpt', rso', row, ?_, rfl, hD⟩
    unfold ND_mean ND_asLong
    rw [e1, cb1_s, if_pos rfl, cb1_s]
