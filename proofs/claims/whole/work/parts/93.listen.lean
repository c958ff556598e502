/-! listen agrees -/
def snd (T : Nat → Nat) (N p c : Nat) : Nat := bo (fun i => sdc T i p == c) N
theorem snd_lt (T : Nat → Nat) (N p c : Nat) : snd T N p c < 2 ^ N := bo_lt _ _
def mx (f : Nat → Nat) : Nat → Nat
  | 0 => 0
  | k + 1 => max (mx f k) (f k)
theorem mx_rot (f : Nat → Nat) : mx (fun c => f ((c + 1) % 7)) 7 = mx f 7 := by
  simp only [mx, Nat.reduceAdd, Nat.reduceMod, Nat.zero_add]; omega
theorem mxI_ok {a b : Nat} (ha : a < 2147483648) (hb : b < 2147483648) : mxI (nI a) (nI b) = nI (max a b) := by
  unfold mxI
  by_cases h : a < b
  · rw [if_pos (by rw [ltN ha hb]; exact h), Nat.max_eq_right (by omega)]
  · rw [if_neg (by rw [ltN ha hb]; exact h), Nat.max_eq_left (by omega)]
theorem mx_le {f : Nat → Nat} {m : Nat} (h : ∀ c, f c ≤ m) : ∀ k, mx f k ≤ m
  | 0 => Nat.zero_le _
  | k + 1 => by have := mx_le h k; have := h k; rw [mx]; omega
theorem Mo_with_loop {T : Nat → Nat} {N : Nat} {od ln lt : Nat → Int32} (hO : NmOK T N od ln lt) (hN : N ≤ 10) (F : Nat) {M p c : Nat} (hM : M < 2147483648) (hp : p < 6) (hc : c < 7) : ∀ (d k f : Nat), k + d = N → d < f → Mo_withLetter_l6 F (nI N) ln lt (nI M) (nI p) (nI c) f (nI (bo (fun i => M.testBit i && sdc T i p == (c + 1) % 7) k)) (nI k) = some (nI (bo (fun i => M.testBit i && sdc T i p == (c + 1) % 7) N)) := by
  intro d
  induction d with
  | zero =>
    intro k f hk hf
    obtain ⟨f, rfl⟩ : ∃ f', f = f' + 1 := ⟨f - 1, by omega⟩
    show Mo_withLetter_b6 F (nI N) ln lt (nI M) (nI p) (nI c) _ _ (nI k) = _
    unfold Mo_withLetter_b6
    rw [if_pos (show nI N ≤ nI k by rw [leN (by omega) (by omega)]; omega), show k = N by omega]
  | succ d ih =>
    intro k f hk hf
    obtain ⟨f, rfl⟩ : ∃ f', f = f' + 1 := ⟨f - 1, by omega⟩
    show Mo_withLetter_b6 F (nI N) ln lt (nI M) (nI p) (nI c) (Mo_withLetter_l6 F (nI N) ln lt (nI M) (nI p) (nI c) f) _ (nI k) = _
    unfold Mo_withLetter_b6 Mo_withLetter_b44 Mo_withLetter_b45
    have b1 : (if p < Ln T k then Lt T k p else 6) < 2147483648 := by
      split
      · next h => have := Lt_lt h; omega
      · omega
    have hs : ((if p < Ln T k then Lt T k p else 6) = c) ↔ (sdc T k p == (c + 1) % 7) = true := by
      unfold sdc
      rw [beq_iff_eq]
      by_cases h1 : p < Ln T k
      · have := Lt_lt h1
        rw [if_pos h1, if_pos h1]; omega
      · rw [if_neg h1, if_neg h1]; omega
    rw [if_neg (show ¬ nI N ≤ nI k by rw [leN (by omega) (by omega)]; omega), Mo_isIn_ok hM (by omega), cb1_s, Mo_letterAt_v hO hN (show k < N by omega) hp, cb1_s, show nI k + 1 = nI (k + 1) from nI_1 _, sh1 k (by omega), iteE b1 (by omega), ← ih (k + 1) f (by omega) (by omega)]
    cases hb : M.testBit k with
    | false => rw [if_neg (show ¬ (false = true) by decide), if_pos rfl, bo_no (by rw [hb]; rfl), n0, bOr, Nat.or_zero]
    | true =>
      rw [if_pos rfl, if_neg (show ¬ (1 : Int32) = 0 by decide)]
      cases hq : (sdc T k p == (c + 1) % 7) with
      | true => rw [if_pos (hs.mpr hq), bo_orI (by rw [hb, hq]; rfl)]
      | false => rw [if_neg (fun h => by rw [hs.mp h] at hq; cases hq), bo_no (by rw [hq, Bool.and_false]), n0, bOr, Nat.or_zero]
theorem Mo_with_ok {T : Nat → Nat} {N : Nat} {od ln lt : Nat → Int32} (hO : NmOK T N od ln lt) (hN : N ≤ 10) {F : Nat} (hF : 100 ≤ F) {M p c : Nat} (hM : M < 2 ^ N) (hp : p < 6) (hc : c < 7) : Mo_withLetter F (nI N) ln lt (nI M) (nI p) (nI c) = some (nI (M &&& snd T N p ((c + 1) % 7))) := by
  have h10 := p2_10 hN
  have h := Mo_with_loop hO hN F (show M < 2147483648 by omega) hp hc N 0 F (by omega) (by omega)
  rw [show M &&& snd T N p ((c + 1) % 7) = bo (fun i => M.testBit i && sdc T i p == (c + 1) % 7) N from m_ext (n := N) (and_lt hM) (bo_lt _ _) (fun i hi => by
    rw [Nat.testBit_and, snd, bo_bit, bo_bit]; simp [hi])]
  exact h
def worst (T : Nat → Nat) (N M p : Nat) : Nat := mx (fun c => pop (M &&& snd T N p c)) 7
theorem worst_le (T : Nat → Nat) (N M p : Nat) : worst T N M p ≤ 10 := mx_le (fun _ => pop_le _) 7
theorem m1s : (∀ c, c < 7 → ¬ (6 : Int32) ≤ nI c + (-1) ∧ nI c + (-1) + 1 = nI (c + 1) + (-1)) ∧ (6 : Int32) ≤ nI 7 + (-1) := by decide +kernel
theorem Sp_left_loop {T : Nat → Nat} {N : Nat} {al : Nat → Int32} (hG : GrOK T N 6 al) (hN : N ≤ 10) (F : Nat) {M p : Nat} (hM : M < 2 ^ N) (hp : p < 6) : ∀ (d c f : Nat), c + d = 7 → d < f → Sp_leftAtWorst_l5 F al (nI M) (nI p) f (nI (mx (fun c => pop (M &&& snd T N p c)) c)) (nI c + (-1)) = some (nI (worst T N M p)) := by
  have h10 := p2_10 hN
  intro d
  induction d with
  | zero =>
    intro c f hc hf
    obtain ⟨f, rfl⟩ : ∃ f', f = f' + 1 := ⟨f - 1, by omega⟩
    obtain rfl : c = 7 := by omega
    show Sp_leftAtWorst_b5 F al (nI M) (nI p) _ _ _ = _
    unfold Sp_leftAtWorst_b5
    rw [if_pos m1s.2]; rfl
  | succ d ih =>
    intro c f hc hf
    obtain ⟨f, rfl⟩ : ∃ f', f = f' + 1 := ⟨f - 1, by omega⟩
    show Sp_leftAtWorst_b5 F al (nI M) (nI p) (Sp_leftAtWorst_l5 F al (nI M) (nI p) f) _ _ = _
    unfold Sp_leftAtWorst_b5
    have h1 := mx_le (fun c => pop_le (M &&& snd T N p c)) c
    have h2 := pop_le (M &&& snd T N p c)
    have h3 := and_lt (b := snd T N p c) hM
    rw [if_neg (m1s.1 c (by omega)).1, Na_sounding_c hG hp (by omega), cb1_s, (m1s.1 c (by omega)).2, show bo (fun i => sdc T i p == c) N = snd T N p c from rfl, bAnd, Jint_bitCount_ok _ (by omega), cb1_s, mxI_ok (by omega) (by omega)]
    exact ih (c + 1) f (by omega) (by omega)
theorem Sp_left_ok {T : Nat → Nat} {N : Nat} {al : Nat → Int32} (hG : GrOK T N 6 al) (hN : N ≤ 10) {F : Nat} (hF : 100 ≤ F) {M p : Nat} (hM : M < 2 ^ N) (hp : p < 6) : Sp_leftAtWorst F al (nI M) (nI p) = some (nI (worst T N M p)) := Sp_left_loop hG hN F hM hp 7 0 F rfl (by omega)
theorem Mo_worst_loop {T : Nat → Nat} {N : Nat} {od ln lt : Nat → Int32} (hO : NmOK T N od ln lt) (hN : N ≤ 10) {F : Nat} (hF : 100 ≤ F) {M p : Nat} (hM : M < 2 ^ N) (hp : p < 6) : ∀ (d c f : Nat), c + d = 7 → d < f → Mo_worstAt_l5 F (nI N) ln lt (nI M) (nI p) f (nI (mx (fun c => pop (M &&& snd T N p ((c + 1) % 7))) c)) (nI c) = some (nI (worst T N M p)) := by
  have h10 := p2_10 hN
  intro d
  induction d with
  | zero =>
    intro c f hc hf
    obtain ⟨f, rfl⟩ : ∃ f', f = f' + 1 := ⟨f - 1, by omega⟩
    obtain rfl : c = 7 := by omega
    show Mo_worstAt_b5 F (nI N) ln lt (nI M) (nI p) _ _ _ = _
    unfold Mo_worstAt_b5
    rw [if_pos (show (7 : Int32) ≤ nI 7 by decide)]
    exact congrArg (fun a => some (nI a)) (mx_rot (fun c => pop (M &&& snd T N p c)))
  | succ d ih =>
    intro c f hc hf
    obtain ⟨f, rfl⟩ : ∃ f', f = f' + 1 := ⟨f - 1, by omega⟩
    show Mo_worstAt_b5 F (nI N) ln lt (nI M) (nI p) (Mo_worstAt_l5 F (nI N) ln lt (nI M) (nI p) f) _ _ = _
    unfold Mo_worstAt_b5 Mo_worstAt_b37
    have h1 := mx_le (fun c => pop_le (M &&& snd T N p ((c + 1) % 7))) c
    have h2 := pop_le (M &&& snd T N p ((c + 1) % 7))
    have h3 := and_lt (b := snd T N p ((c + 1) % 7)) hM
    rw [n7, if_neg (show ¬ nI 7 ≤ nI c by rw [leN (by omega) (by omega)]; omega), Mo_with_ok hO hN hF hM hp (by omega), cb1_s, Mo_ones_ok hF (by omega), cb1_s, show nI c + 1 = nI (c + 1) from nI_1 _, ← ih (c + 1) f (by omega) (by omega), mx]
    by_cases h : pop (M &&& snd T N p ((c + 1) % 7)) ≤ mx (fun c => pop (M &&& snd T N p ((c + 1) % 7))) c
    · rw [if_pos (by rw [leN (by omega) (by omega)]; exact h), Nat.max_eq_left h]
    · rw [if_neg (by rw [leN (by omega) (by omega)]; exact h), Nat.max_eq_right (by omega)]
theorem Mo_worst_ok {T : Nat → Nat} {N : Nat} {od ln lt : Nat → Int32} (hO : NmOK T N od ln lt) (hN : N ≤ 10) {F : Nat} (hF : 100 ≤ F) {M p : Nat} (hM : M < 2 ^ N) (hp : p < 6) : Mo_worstAt F (nI N) ln lt (nI M) (nI p) = some (nI (worst T N M p)) := Mo_worst_loop hO hN hF hM hp 7 0 F rfl (by omega)
/-- the best place of the first k + 1 -/
def bp (T : Nat → Nat) (N M : Nat) : Nat → Nat
  | 0 => 0
  | k + 1 => if worst T N M (bp T N M k) ≤ worst T N M (k + 1) then bp T N M k else k + 1
theorem bp_le (T : Nat → Nat) (N M : Nat) : ∀ k, bp T N M k ≤ k
  | 0 => Nat.le_refl _
  | k + 1 => by have := bp_le T N M k; rw [bp]; split <;> omega
theorem Sp_best_loop {T : Nat → Nat} {N : Nat} {al : Nat → Int32} (hG : GrOK T N 6 al) (hN : N ≤ 10) {F : Nat} (hF : 100 ≤ F) {M : Nat} (hM : M < 2 ^ N) : ∀ (d k f : Nat), k + d = 5 → d < f → Sp_bestPlace_l4 F al (nI M) f (nI (bp T N M k)) (nI (k + 1)) = some (nI (bp T N M 5)) := by
  intro d
  induction d with
  | zero =>
    intro k f hc hf
    obtain ⟨f, rfl⟩ : ∃ f', f = f' + 1 := ⟨f - 1, by omega⟩
    obtain rfl : k = 5 := by omega
    show Sp_bestPlace_b4 F al (nI M) _ _ _ = _
    unfold Sp_bestPlace_b4
    rw [if_pos (show (6 : Int32) ≤ nI (5 + 1) by decide)]
  | succ d ih =>
    intro k f hc hf
    obtain ⟨f, rfl⟩ : ∃ f', f = f' + 1 := ⟨f - 1, by omega⟩
    show Sp_bestPlace_b4 F al (nI M) (Sp_bestPlace_l4 F al (nI M) f) _ _ = _
    unfold Sp_bestPlace_b4 Sp_bestPlace_b27
    have h1 := bp_le T N M k
    have h2 := worst_le T N M (k + 1); have h3 := worst_le T N M (bp T N M k)
    rw [n6, if_neg (show ¬ nI 6 ≤ nI (k + 1) by rw [leN (by omega) (by omega)]; omega), Sp_left_ok hG hN hF hM (show k + 1 < 6 by omega), cb1_s, Sp_left_ok hG hN hF hM (show bp T N M k < 6 by omega), cb1_s, show nI (k + 1) + 1 = nI (k + 1 + 1) from nI_1 _, ← ih (k + 1) f (by omega) (by omega), bp]
    by_cases h : worst T N M (bp T N M k) ≤ worst T N M (k + 1)
    · rw [if_pos (by rw [leN (by omega) (by omega)]; exact h), if_pos h]
    · rw [if_neg (by rw [leN (by omega) (by omega)]; exact h), if_neg h]
theorem Mo_best_loop {T : Nat → Nat} {N : Nat} {od ln lt : Nat → Int32} (hO : NmOK T N od ln lt) (hN : N ≤ 10) {F : Nat} (hF : 100 ≤ F) {M : Nat} (hM : M < 2 ^ N) (rp rs x1 : Int32) (ris rpl rpt rso : Nat → Int32) : ∀ (d k f : Nat), k + d = 5 → d < f → Mo_listenOf_l17 F (nI N) rp rs ln lt ris rpl rpt rso x1 f (nI M) (nI (bp T N M k)) (nI (k + 1)) = Mo_listenOf_b53 F (nI N) rp rs ln lt ris rpl rpt rso x1 (nI M) (nI (bp T N M 5)) := by
  intro d
  induction d with
  | zero =>
    intro k f hc hf
    obtain ⟨f, rfl⟩ : ∃ f', f = f' + 1 := ⟨f - 1, by omega⟩
    obtain rfl : k = 5 := by omega
    show Mo_listenOf_b17 F (nI N) rp rs ln lt ris rpl rpt rso x1 _ _ _ _ = _
    unfold Mo_listenOf_b17
    rw [if_pos (show (6 : Int32) ≤ nI (5 + 1) by decide)]
  | succ d ih =>
    intro k f hc hf
    obtain ⟨f, rfl⟩ : ∃ f', f = f' + 1 := ⟨f - 1, by omega⟩
    show Mo_listenOf_b17 F (nI N) rp rs ln lt ris rpl rpt rso x1 (Mo_listenOf_l17 F (nI N) rp rs ln lt ris rpl rpt rso x1 f) _ _ _ = _
    unfold Mo_listenOf_b17 Mo_listenOf_b46
    have h1 := bp_le T N M k
    have h2 := worst_le T N M (k + 1); have h3 := worst_le T N M (bp T N M k)
    rw [n6, if_neg (show ¬ nI 6 ≤ nI (k + 1) by rw [leN (by omega) (by omega)]; omega), Mo_worst_ok hO hN hF hM (show k + 1 < 6 by omega), cb1_s, Mo_worst_ok hO hN hF hM (show bp T N M k < 6 by omega), cb1_s, show nI (k + 1) + 1 = nI (k + 1 + 1) from nI_1 _, ← ih (k + 1) f (by omega) (by omega), bp]
    by_cases h : worst T N M (bp T N M k) ≤ worst T N M (k + 1)
    · rw [if_pos (by rw [leN (by omega) (by omega)]; exact h), if_pos h]
    · rw [if_neg (by rw [leN (by omega) (by omega)]; exact h), if_neg h]
theorem listen_v {T : Nat → Nat → Nat} {n : Nat → Nat} {t0s : Int32} {t0b : (Nat → Int32)} {t1s : Int32} {t1b : (Nat → Int32)} {t2s : Int32} {t2b : (Nat → Int32)} {st : Int32} {nz : Int32} {nf : Int32} {nod : (Nat → Int32)} {nln : (Nat → Int32)} {nlt : (Nat → Int32)} {nal : (Nat → Int32)} {nto : (Nat → Int32)} {pz : Int32} {pf : Int32} {pis : (Nat → Int32)} {pln : (Nat → Int32)} {plt : (Nat → Int32)} {sz : Int32} {sf : Int32} {slt : (Nat → Int32)} {fpc : Int32} {fsf : Int32} {faf : Int32} {ford : Int32} {fpf : (Nat → Int32)} {fio : (Nat → Int32)} (hT : TxC T n t0s t0b t1s t1b t2s t2b) (hD : DrC T n st nz nf nod nln nlt nal nto pz pf pis pln plt sz sf slt fpc fsf faf ford fpf fio) {F : Nat} (hF : 2000 ≤ F) {c : Nat} (hc : c ≤ 1) : ∃ r nz' nf' nod' nln' nlt' nal' nto' pz' pf' pis' pln' plt' sz' sf' slt' fpc' fsf' faf' ford' fpf' fio', ND_listen F t0s t0b t1s t1b t2s t2b st nz nf nod nln nlt nal nto pz pf pis pln plt sz sf slt fpc fsf faf ford fpf fio (nI c) = some (r, 0, nz', nf', nod', nln', nlt', nal', nto', pz', pf', pis', pln', plt', sz', sf', slt', fpc', fsf', faf', ford', fpf', fio') ∧ DrC T n 0 nz' nf' nod' nln' nlt' nal' nto' pz' pf' pis' pln' plt' sz' sf' slt' fpc' fsf' faf' ford' fpf' fio' ∧ (∀ (rn : Int32) (rp : Int32) (rs : Int32) (rch : (Nat → Int32)) (rlo : (Nat → Int32)) (rle : (Nat → Int32)) (ris : (Nat → Int32)) (rpl : (Nat → Int32)) (rpt : (Nat → Int32)) (rso : (Nat → Int32)), RdOK T n rn rp rs rch rlo rle ris rpl rpt rso → Mo_listenOf F rn rp rs rlo rle ris rpl rpt rso (nI c) = some r) := by
  obtain ⟨nz', nf', nod', nln', nlt', nal', nto', pz', pf', pis', pln', plt', sz', sf', slt', fpc', fsf', faf', ford', fpf', fio', e, g⟩ := ND_refresh_ok hT hD hF
  have g' := DrC_0 g
  have hG : GrOK (T 0) (nN T n) 6 nal' := g.1.2.2.2.1
  have g8 : faf' = nI (FM T n 63) := g.2.2.2.2.2.1
  have hN10 : nN T n ≤ 10 := pN_le
  have hl : FM T n 63 < 2 ^ (nN T n) := fm_lt _ _ _ _ _ _ _
  have h210 := p2_10 hN10
  have two : ND_isZeroOrOne (nI c) = some 1 := by
    rcases Nat.le_one_iff_eq_zero_or_eq_one.mp hc with rfl | rfl <;> rfl
  have hb5 := bp_le (T 0) (nN T n) (FM T n 63) 5
  unfold ND_listen Fi_byAll
  rw [two, cb1_s, if_neg (show ¬ (1 : Int32) = 0 by decide), e, cb22_s, cb1_s]
  by_cases h0 : FM T n 63 = 0
  · rw [if_pos (show faf' = 0 by rw [g8, h0]; rfl)]
    refine ⟨_, _, _, _, _, _, _, _, _, _, _, _, _, _, _, _, _, _, _, _, _, _, rfl, g', ?_⟩
    intro rn rp rs rch rlo rle ris rpl rpt rso hR
    obtain ⟨q1, q2, q3, q4, q5, q6⟩ := hR
    unfold Mo_listenOf
    rw [q1, q2, q3, Mo_fitsNow_ok q4 pN_le q5 pP_le q6 (pS_le (n2_le hT)) (show 100 ≤ F by omega), cb1_s, if_pos (show nI (fm (T 0) (T 1) (T 2) (nN T n) (nP T n) (nS T n) 63) = 0 from congrArg nI h0)]
  · have hne : ¬ nI (FM T n 63) = 0 := fun hq => h0 ((nI_eq (b := 0) (by omega) (by omega)).mp hq)
    have hs : Sp_bestPlace F nal' (nI (FM T n 63)) = some (nI (bp (T 0) (nN T n) (FM T n 63) 5)) := Sp_best_loop hG hN10 (by omega) hl 5 0 F (by omega) (by omega)
    rw [if_neg (show ¬ faf' = 0 by rw [g8]; exact hne), g8, hs, cb1_s, Sp_left_ok hG hN10 (by omega) hl (show bp (T 0) (nN T n) (FM T n 63) 5 < 6 by omega), cb1_s]
    rw [g8] at g'
    have hv : ∀ (rn : Int32) (rp : Int32) (rs : Int32) (rch : (Nat → Int32)) (rlo : (Nat → Int32)) (rle : (Nat → Int32)) (ris : (Nat → Int32)) (rpl : (Nat → Int32)) (rpt : (Nat → Int32)) (rso : (Nat → Int32)), RdOK T n rn rp rs rch rlo rle ris rpl rpt rso → Mo_listenOf F rn rp rs rlo rle ris rpl rpt rso (nI c) = if nI c = 0 then some (nI (bp (T 0) (nN T n) (FM T n 63) 5)) else some (nI (worst (T 0) (nN T n) (FM T n 63) (bp (T 0) (nN T n) (FM T n 63) 5))) := by
      intro rn rp rs rch rlo rle ris rpl rpt rso hR
      obtain ⟨q1, q2, q3, q4, q5, q6⟩ := hR
      unfold Mo_listenOf
      have hm := Mo_best_loop q4 hN10 (show 100 ≤ F by omega) hl (nI (nP T n)) (nI (nS T n)) (nI c) ris rpl rpt rso 5 0 F (by omega) (by omega)
      have hm' : Mo_listenOf_l17 F (nI (nN T n)) (nI (nP T n)) (nI (nS T n)) rlo rle ris rpl rpt rso (nI c) F (nI (FM T n 63)) 0 1 = _ := hm
      rw [q1, q2, q3, Mo_fitsNow_ok q4 pN_le q5 pP_le q6 (pS_le (n2_le hT)) (show 100 ≤ F by omega), cb1_s, show fm (T 0) (T 1) (T 2) (nN T n) (nP T n) (nS T n) 63 = FM T n 63 from rfl, if_neg hne, hm']
      unfold Mo_listenOf_b53
      rw [Mo_worst_ok q4 hN10 (by omega) hl (show bp (T 0) (nN T n) (FM T n 63) 5 < 6 by omega), cb1_s]
    rcases Nat.le_one_iff_eq_zero_or_eq_one.mp hc with rfl | rfl
    · rw [if_pos (show nI 0 = 0 from rfl)]
      refine ⟨_, _, _, _, _, _, _, _, _, _, _, _, _, _, _, _, _, _, _, _, _, _, rfl, g', ?_⟩
      intro rn rp rs rch rlo rle ris rpl rpt rso hR
      rw [hv _ _ _ _ _ _ _ _ _ _ hR, if_pos (show nI 0 = 0 from rfl)]
    · rw [if_neg (show ¬ nI 1 = 0 by decide)]
      refine ⟨_, _, _, _, _, _, _, _, _, _, _, _, _, _, _, _, _, _, _, _, _, _, rfl, g', ?_⟩
      intro rn rp rs rch rlo rle ris rpl rpt rso hR
      rw [hv _ _ _ _ _ _ _ _ _ _ hR, if_neg (show ¬ nI 1 = 0 by decide)]
theorem listen_ok {T : Nat → Nat → Nat} {n : Nat → Nat} {t0s : Int32} {t0b : (Nat → Int32)} {t1s : Int32} {t1b : (Nat → Int32)} {t2s : Int32} {t2b : (Nat → Int32)} {st : Int32} {nz : Int32} {nf : Int32} {nod : (Nat → Int32)} {nln : (Nat → Int32)} {nlt : (Nat → Int32)} {nal : (Nat → Int32)} {nto : (Nat → Int32)} {pz : Int32} {pf : Int32} {pis : (Nat → Int32)} {pln : (Nat → Int32)} {plt : (Nat → Int32)} {sz : Int32} {sf : Int32} {slt : (Nat → Int32)} {fpc : Int32} {fsf : Int32} {faf : Int32} {ford : Int32} {fpf : (Nat → Int32)} {fio : (Nat → Int32)} (hT : TxC T n t0s t0b t1s t1b t2s t2b) (hD : DrC T n st nz nf nod nln nlt nal nto pz pf pis pln plt sz sf slt fpc fsf faf ford fpf fio) {F : Nat} (hF : 2000 ≤ F) {bytes typed : Nat → Int32} (hM : TxR T n bytes typed) (ra : Int32) (rn : Int32) (rp : Int32) (rs : Int32) (rch : (Nat → Int32)) (rlo : (Nat → Int32)) (rle : (Nat → Int32)) (ris : (Nat → Int32)) (rpl : (Nat → Int32)) (rpt : (Nat → Int32)) (rso : (Nat → Int32)) (x1 : Int32) : ∃ r st' nz' nf' nod' nln' nlt' nal' nto' pz' pf' pis' pln' plt' sz' sf' slt' fpc' fsf' faf' ford' fpf' fio' ra' rn' rp' rs' rch' rlo' rle' ris' rpl' rpt' rso', ND_listen F t0s t0b t1s t1b t2s t2b st nz nf nod nln nlt nal nto pz pf pis pln plt sz sf slt fpc fsf faf ford fpf fio x1 = some (r, st', nz', nf', nod', nln', nlt', nal', nto', pz', pf', pis', pln', plt', sz', sf', slt', fpc', fsf', faf', ford', fpf', fio') ∧ Mo_listen F bytes typed ra rn rp rs rch rlo rle ris rpl rpt rso x1 = some (r, ra', rn', rp', rs', rch', rlo', rle', ris', rpl', rpt', rso') ∧ DrC T n st' nz' nf' nod' nln' nlt' nal' nto' pz' pf' pis' pln' plt' sz' sf' slt' fpc' fsf' faf' ford' fpf' fio' := by
  obtain ⟨ra', rn', rp', rs', rch', rlo', rle', ris', rpl', rpt', rso', f, hR⟩ := Mo_reads_ok hT hM hF ra rn rp rs rch rlo rle ris rpl rpt rso
  unfold Mo_listen
  rw [f, cb11_s]
  rcases two_cases x1 with ⟨c, hc, rfl, e1, e1'⟩ | ⟨e1, e1'⟩
  · obtain ⟨r, nz', nf', nod', nln', nlt', nal', nto', pz', pf', pis', pln', plt', sz', sf', slt', fpc', fsf', faf', ford', fpf', fio', v, g, w⟩ := listen_v hT hD hF hc
    rw [v, e1', cb1_s, if_neg (show ¬ (1 : Int32) = 0 by decide), w _ _ _ _ _ _ _ _ _ _ hR, cb1_s]
    exact ⟨_, _, _, _, _, _, _, _, _, _, _, _, _, _, _, _, _, _, _, _, _, _, _, _, _, _, _, _, _, _, _, _, _, _, rfl, rfl, g⟩
  · rw [e1', cb1_s, if_pos rfl]
    refine ⟨-2, st, nz, nf, nod, nln, nlt, nal, nto, pz, pf, pis, pln, plt, sz, sf, slt, fpc, fsf, faf, ford, fpf, fio, ra', rn', rp', rs', rch', rlo', rle', ris', rpl', rpt', rso', ?_, rfl, hD⟩
    unfold ND_listen
    rw [e1, cb1_s, if_pos rfl]
