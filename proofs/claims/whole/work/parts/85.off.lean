/-! off agrees; the sounds of a place -/
theorem iteE {α : Type} {a b : Nat} {x y : α} (ha : a < 2147483648) (hb : b < 2147483648) : (if nI a = nI b then x else y) = if a = b then x else y := by
  by_cases h : a = b
  · rw [if_pos h, if_pos (congrArg nI h)]
  · rw [if_neg h, if_neg (fun hc => h ((nI_eq ha hb).mp hc))]
theorem Na_sounding_c {T : Nat → Nat} {N : Nat} {al : Nat → Int32} (hG : GrOK T N 6 al) {p c : Nat} (hp : p < 6) (hc : c < 7) : Na_soundingAt al (nI p) (nI c + (-1)) = some (nI (bo (fun i => sdc T i p == c) N)) := by
  have e : ∀ c, c < 7 → ¬ (nI c + (-1) < -1) ∧ nI c + (-1) < 6 := by decide +kernel
  have e2 : ∀ a : Int32, a + (-1) + 1 = a := fun a => by rw [Int32.add_assoc]; exact Int32.add_zero a
  unfold Na_soundingAt
  rw [if_neg (nI_pos (by omega)), n6, if_neg (show ¬ nI 6 ≤ nI p by rw [leN (by omega) (by omega)]; omega), if_neg (e c hc).1, ← n6, if_pos (e c hc).2, n7, mulN, ← Int32.add_assoc, e2, nI_add, rdN (by omega) (by omega), show p * 7 + c = 7 * p + c by omega, hG.1 p hp c hc]
theorem sdc_m1 (T : Nat → Nat) (k p : Nat) : (if p < Ln T k then nI (Lt T k p) else -1) = nI (sdc T k p) + (-1) := by
  unfold sdc; split
  · rw [m1_add]
  · decide
theorem Na_sounding_ok {T : Nat → Nat} {N : Nat} {al : Nat → Int32} (hG : GrOK T N 6 al) {p k : Nat} (hp : p < 6) : Na_soundingAt al (nI p) (if p < Ln T k then nI (Lt T k p) else -1) = some (nI (bo (fun i => sdc T i p == sdc T k p) N)) := by
  rw [sdc_m1]; exact Na_sounding_c hG hp (sdc_lt T k p)
theorem Na_asLong_loop {T : Nat → Nat} {N : Nat} {od ln lt : Nat → Int32} (hO : NmOK T N od ln lt) (hN : N ≤ 10) (F : Nat) {x : Nat} (hx : x < N) : ∀ (m k f : Nat), k + m = N → m < f → Na_asLongAs_l4 F (nI N) ln (nI x) f (nI (bo (fun i => Ln T i == Ln T x) k)) (nI k) = some (nI (bo (fun i => Ln T i == Ln T x) N)) := by
  intro m
  induction m with
  | zero =>
    intro k f hk hf
    obtain ⟨f, rfl⟩ : ∃ f', f = f' + 1 := ⟨f - 1, by omega⟩
    show Na_asLongAs_b4 F (nI N) ln (nI x) _ _ (nI k) = _
    unfold Na_asLongAs_b4
    rw [if_pos (show nI N ≤ nI k by rw [leN (by omega) (by omega)]; omega), show k = N by omega]
  | succ m ih =>
    intro k f hk hf
    obtain ⟨f, rfl⟩ : ∃ f', f = f' + 1 := ⟨f - 1, by omega⟩
    show Na_asLongAs_b4 F (nI N) ln (nI x) (Na_asLongAs_l4 F (nI N) ln (nI x) f) _ (nI k) = _
    unfold Na_asLongAs_b4 Na_asLongAs_b32
    have h1 := Ln_le T k; have h2 := Ln_le T x
    rw [if_neg (show ¬ nI N ≤ nI k by rw [leN (by omega) (by omega)]; omega), rdN (by omega) (by omega), Na_lengthOf_ok hO hN hx, cb1_s, (hO k (by omega)).2.2.2.1, sh1 k (by omega), show nI k + 1 = nI (k + 1) from nI_1 _, iteE (by omega) (by omega)]
    rw [← ih (k + 1) f (by omega) (by omega)]
    by_cases e : Ln T k = Ln T x
    · rw [if_pos e, bo_orI (by simpa using e)]
    · rw [if_neg e, bo_no (by simpa using e)]
theorem Na_asLong_ok {T : Nat → Nat} {N : Nat} {od ln lt : Nat → Int32} (hO : NmOK T N od ln lt) (hN : N ≤ 10) {F : Nat} (hF : 100 ≤ F) {x : Nat} (hx : x < N) : Na_asLongAs F (nI N) ln (nI x) = some (nI (bo (fun i => Ln T i == Ln T x) N)) :=
  Na_asLong_loop hO hN F hx N 0 F (by omega) (by omega)
/-- how many of the places below p sound otherwise -/
def dcnt (T : Nat → Nat) (i x : Nat) : Nat → Nat
  | 0 => 0
  | p + 1 => dcnt T i x p + if sdc T i p = sdc T x p then 0 else 1
theorem dcnt_le (T : Nat → Nat) (i x : Nat) : ∀ p, dcnt T i x p ≤ p
  | 0 => Nat.le_refl 0
  | p + 1 => by have := dcnt_le T i x p; unfold dcnt; split <;> omega
def offB (T : Nat → Nat) (x i : Nat) : Bool := decide (dcnt T i x 6 = 1) && (Ln T i == Ln T x)
def offM (T : Nat → Nat) (N x : Nat) : Nat := bo (offB T x) N
theorem Na_oneLetter_loop {T : Nat → Nat} {N : Nat} {od ln lt al : Nat → Int32} (hO : NmOK T N od ln lt) (hN : N ≤ 10) (hG : GrOK T N 6 al) {F : Nat} (hF : 100 ≤ F) {x : Nat} (hx : x < N) : ∀ (m p f : Nat), p + m = 6 → m < f → Na_oneLetterFrom_l7 F (nI N) ln lt al (nI x) f (nI (bo (fun i => decide (1 ≤ dcnt T i x p)) N)) (nI (bo (fun i => decide (2 ≤ dcnt T i x p)) N)) (nI p) = some (nI (offM T N x)) := by
  intro m
  induction m with
  | zero =>
    intro p f hk hf
    obtain ⟨f, rfl⟩ : ∃ f', f = f' + 1 := ⟨f - 1, by omega⟩
    show Na_oneLetterFrom_b7 F (nI N) ln lt al (nI x) _ _ _ (nI p) = _
    unfold Na_oneLetterFrom_b7 Na_oneLetterFrom_b54
    rw [n6, if_pos (show nI 6 ≤ nI p by rw [leN (by omega) (by omega)]; omega), Na_asLong_ok hO hN hF hx, cb1_s, bNot, bAnd]
    refine congrArg (fun a => some (nI a)) (m_ext (n := N) (and_lt (ndf_lt (bo_lt _ _))) (bo_lt _ _) (fun i hi => ?_))
    rw [Nat.testBit_and, ndf_bit, bo_bit, bo_bit, bo_bit, offM, bo_bit, show p = 6 by omega]
    unfold offB
    have hd : (decide (1 ≤ dcnt T i x 6) && !decide (2 ≤ dcnt T i x 6)) = decide (dcnt T i x 6 = 1) := by
      by_cases h1 : dcnt T i x 6 = 1
      · simp [h1]
      · by_cases h2 : 2 ≤ dcnt T i x 6
        · have h3 : 1 ≤ dcnt T i x 6 := by omega
          simp [h1, h2, h3]
        · have : dcnt T i x 6 = 0 := by omega
          simp [this]
    simp only [hi, decide_true, Bool.true_and]
    rw [hd]
  | succ m ih =>
    intro p f hk hf
    obtain ⟨f, rfl⟩ : ∃ f', f = f' + 1 := ⟨f - 1, by omega⟩
    show Na_oneLetterFrom_b7 F (nI N) ln lt al (nI x) (Na_oneLetterFrom_l7 F (nI N) ln lt al (nI x) f) _ _ (nI p) = _
    unfold Na_oneLetterFrom_b7 Na_all
    rw [n6, if_neg (show ¬ nI 6 ≤ nI p by rw [leN (by omega) (by omega)]; omega), cb1_s, Na_letterAt_ok hO hN hx (by omega), cb1_s, Na_sounding_ok hG (by omega), cb1_s, allI hN, bNot, bOr, bAnd, bOr, show nI p + 1 = nI (p + 1) from nI_1 _]
    rw [← ih (p + 1) f (by omega) (by omega)]
    have hA : ∀ i, i < N → (ndf (2 ^ N - 1) (bo (fun i => sdc T i p == sdc T x p) N)).testBit i = !(sdc T i p == sdc T x p) := fun i hi => by
      rw [ndf_bit, all_bit, bo_bit]; simp [hi]
    have hlt : (2 ^ N - 1) < 2 ^ N := by have := Nat.two_pow_pos N; omega
    have e1 : bo (fun i => decide (1 ≤ dcnt T i x p)) N ||| ndf (2 ^ N - 1) (bo (fun i => sdc T i p == sdc T x p) N) = bo (fun i => decide (1 ≤ dcnt T i x (p + 1))) N := by
      refine m_ext (n := N) (Nat.or_lt_two_pow (bo_lt _ _) (ndf_lt hlt)) (bo_lt _ _) (fun i hi => ?_)
      rw [Nat.testBit_or, hA i hi, bo_bit, bo_bit, dcnt]
      by_cases h : sdc T i p = sdc T x p
      · simp [h, hi]
      · simp [h, hi]
    have e2 : bo (fun i => decide (2 ≤ dcnt T i x p)) N ||| (bo (fun i => decide (1 ≤ dcnt T i x p)) N &&& ndf (2 ^ N - 1) (bo (fun i => sdc T i p == sdc T x p) N)) = bo (fun i => decide (2 ≤ dcnt T i x (p + 1))) N := by
      refine m_ext (n := N) (Nat.or_lt_two_pow (bo_lt _ _) (and_lt (bo_lt _ _))) (bo_lt _ _) (fun i hi => ?_)
      rw [Nat.testBit_or, Nat.testBit_and, hA i hi, bo_bit, bo_bit, bo_bit, dcnt]
      by_cases h : sdc T i p = sdc T x p
      · simp [h, hi]
      · simp only [h, hi, if_false, decide_true, Bool.true_and, beq_eq_false_iff_ne.mpr h, Bool.not_false, Bool.and_true]
        by_cases h1 : 1 ≤ dcnt T i x p
        · have : 2 ≤ dcnt T i x p + 1 := by omega
          simp [h1, this]
        · have h2 : ¬ 2 ≤ dcnt T i x p + 1 := by omega
          have h3 : ¬ 2 ≤ dcnt T i x p := by omega
          simp [h1, h2, h3]
    rw [e1, e2]
theorem bo_f (p : Nat → Bool) : ∀ {N : Nat}, (∀ i, i < N → p i = false) → bo p N = 0
  | 0, _ => rfl
  | N + 1, h => by rw [bo_no (h N (by omega)), bo_f p (fun i hi => h i (by omega))]
theorem Na_oneLetter_ok {T : Nat → Nat} {N : Nat} {od ln lt al : Nat → Int32} (hO : NmOK T N od ln lt) (hN : N ≤ 10) (hG : GrOK T N 6 al) {F : Nat} (hF : 100 ≤ F) {x : Nat} (hx : x < N) : Na_oneLetterFrom F (nI N) ln lt al (nI x) = some (nI (offM T N x)) := by
  have h := Na_oneLetter_loop hO hN hG hF hx 6 0 F rfl (by omega)
  rw [bo_f (fun i => decide (1 ≤ dcnt T i x 0)) (fun i _ => by simp [dcnt]), bo_f (fun i => decide (2 ≤ dcnt T i x 0)) (fun i _ => by simp [dcnt])] at h
  exact h
theorem offM_lt (T : Nat → Nat) (N x : Nat) : offM T N x < 2 ^ N := bo_lt _ _
theorem Mo_off_in {T : Nat → Nat} {N : Nat} {od ln lt : Nat → Int32} (hO : NmOK T N od ln lt) (hN : N ≤ 10) (F : Nat) {x k : Nat} (hx : x < N) (hk : k < N) (rec4 : Int32 → Int32 → Option Int32) (x2 : Int32) (hL : Ln T k = Ln T x) : ∀ (m p f : Nat), p + m = Ln T x → m < f → Mo_offOf_l18 F (nI N) ln lt (nI x) rec4 f x2 (nI k) (nI (dcnt T k x p)) (nI p) = rec4 (x2 ||| (if offB T x k = true then nI (2 ^ k) else 0)) (nI (k + 1)) := by
  intro m
  have h2 := Ln_le T x
  induction m with
  | zero =>
    intro p f hp hf
    obtain ⟨f, rfl⟩ : ∃ f', f = f' + 1 := ⟨f - 1, by omega⟩
    show Mo_offOf_b18 F (nI N) ln lt (nI x) rec4 _ x2 (nI k) _ (nI p) = _
    unfold Mo_offOf_b18 Mo_offOf_b87 Mo_offOf_b101
    have hd := dcnt_le T k x p
    rw [rdN (by omega) (by omega), (hO x hx).2.2.2.1, if_pos (show nI (Ln T x) ≤ nI p by rw [leN (by omega) (by omega)]; omega), show (if nI (dcnt T k x p) = 1 then rec4 (x2 ||| 1 <<< (nI k &&& 31)) (nI k + 1) else rec4 (x2 ||| 0) (nI k + 1)) = (if dcnt T k x p = 1 then rec4 (x2 ||| 1 <<< (nI k &&& 31)) (nI k + 1) else rec4 (x2 ||| 0) (nI k + 1)) from iteE (b := 1) (by omega) (by omega), sh1 k (by omega), show nI k + 1 = nI (k + 1) from nI_1 _]
    have e : ∀ q, dcnt T k x (p + q) = dcnt T k x p := by
      intro q
      induction q with
      | zero => rfl
      | succ q ihq =>
        rw [← Nat.add_assoc, dcnt, ihq, show sdc T k (p + q) = 0 from if_neg (by omega), show sdc T x (p + q) = 0 from if_neg (by omega)]
        rfl
    have e6 := e (6 - p)
    rw [show p + (6 - p) = 6 by omega] at e6
    have hb : offB T x k = decide (dcnt T k x p = 1) := by
      unfold offB
      rw [e6, hL, beq_self_eq_true, Bool.and_true]
    by_cases h : dcnt T k x p = 1
    · rw [if_pos h, if_pos (hb.trans (decide_eq_true h))]
    · rw [if_neg h, if_neg (fun hc => h (of_decide_eq_true (hb.symm.trans hc)))]
  | succ m ih =>
    intro p f hp hf
    obtain ⟨f, rfl⟩ : ∃ f', f = f' + 1 := ⟨f - 1, by omega⟩
    show Mo_offOf_b18 F (nI N) ln lt (nI x) rec4 (Mo_offOf_l18 F (nI N) ln lt (nI x) rec4 f) x2 (nI k) _ (nI p) = _
    unfold Mo_offOf_b18 Mo_offOf_b78
    have hd := dcnt_le T k x p
    rw [rdN (by omega) (by omega), (hO x hx).2.2.2.1, if_neg (show ¬ nI (Ln T x) ≤ nI p by rw [leN (by omega) (by omega)]; omega), rdN (by omega) (by omega), (hO k hk).2.2.2.1, rdN (by omega) (by omega), (hO x hx).2.2.2.1, hL, if_pos rfl, n6, mulN, nI_add, rdN (by omega) (by omega), mulN, nI_add, rdN (by omega) (by omega), (hO k hk).2.2.2.2 p (by omega), (hO x hx).2.2.2.2 p (by omega)]
    have l1 := Lt_lt (T := T) (k := k) (i := p) (by omega)
    have l2 := Lt_lt (T := T) (k := x) (i := p) (by omega)
    have hs : sdc T k p = sdc T x p ↔ Lt T k p = Lt T x p := by
      unfold sdc; rw [if_pos (by omega), if_pos (by omega)]; exact ⟨fun h => by omega, fun h => by omega⟩
    rw [iteE (by omega) (by omega), show nI p + 1 = nI (p + 1) from nI_1 _, ← ih (p + 1) f (by omega) (by omega), dcnt]
    by_cases h : Lt T k p = Lt T x p
    · rw [if_pos h, if_pos (hs.mpr h), n0, nI_add]
    · rw [if_neg h, if_neg (fun hc => h (hs.mp hc)), n1, nI_add]
theorem Mo_off_loop {T : Nat → Nat} {N : Nat} {od ln lt : Nat → Int32} (hO : NmOK T N od ln lt) (hN : N ≤ 10) {F : Nat} (hF : 100 ≤ F) {x : Nat} (hx : x < N) : ∀ (m k f : Nat), k + m = N → m < f → Mo_offOf_l4 F (nI N) ln lt (nI x) f (nI (bo (offB T x) k)) (nI k) = some (nI (offM T N x)) := by
  intro m
  have h2 := Ln_le T x
  induction m with
  | zero =>
    intro k f hk hf
    obtain ⟨f, rfl⟩ : ∃ f', f = f' + 1 := ⟨f - 1, by omega⟩
    show Mo_offOf_b4 F (nI N) ln lt (nI x) _ _ (nI k) = _
    unfold Mo_offOf_b4
    rw [if_pos (show nI N ≤ nI k by rw [leN (by omega) (by omega)]; omega), show k = N by omega]; rfl
  | succ m ih =>
    intro k f hk hf
    obtain ⟨f, rfl⟩ : ∃ f', f = f' + 1 := ⟨f - 1, by omega⟩
    show Mo_offOf_b4 F (nI N) ln lt (nI x) (Mo_offOf_l4 F (nI N) ln lt (nI x) f) _ (nI k) = _
    unfold Mo_offOf_b4
    have hl := Ln_le T k
    rw [if_neg (show ¬ nI N ≤ nI k by rw [leN (by omega) (by omega)]; omega)]
    rw [← ih (k + 1) f (by omega) (by omega)]
    by_cases hL : Ln T k = Ln T x
    · have := Mo_off_in hO hN F hx (show k < N by omega) (Mo_offOf_l4 F (nI N) ln lt (nI x) f) (nI (bo (offB T x) k)) hL (Ln T x) 0 F (by omega) (by omega)
      rw [show (0 : Int32) = nI (dcnt T k x 0) from rfl]
      rw [show nI (dcnt T k x 0) = nI 0 from rfl] at this ⊢
      rw [this]
      cases hb : offB T x k with
      | true => rw [if_pos rfl, bo_orI hb]
      | false => rw [if_neg (by decide), n0, bOr, Nat.or_zero, bo_no hb]
    · obtain ⟨F, rfl⟩ : ∃ f', F = f' + 1 := ⟨F - 1, by omega⟩
      show Mo_offOf_b18 _ (nI N) ln lt (nI x) _ _ _ (nI k) _ _ = _
      unfold Mo_offOf_b18 Mo_offOf_b87 Mo_offOf_b101
      have hp := (hO x hx).2.1
      rw [rdN (by omega) (by omega), (hO x hx).2.2.2.1, n0, if_neg (show ¬ nI (Ln T x) ≤ nI 0 by rw [leN (by omega) (by omega)]; omega), rdN (by omega) (by omega), (hO k (by omega)).2.2.2.1, rdN (by omega) (by omega), (hO x hx).2.2.2.1, iteE (by omega) (by omega), if_neg hL, if_neg (show ¬ nI 0 = 1 by decide), bOr, Nat.or_zero, show nI k + 1 = nI (k + 1) from nI_1 _, bo_no]
      unfold offB
      rw [beq_eq_false_iff_ne.mpr hL, Bool.and_false]
theorem Mo_offOf_ok {T : Nat → Nat} {N : Nat} {od ln lt : Nat → Int32} (hO : NmOK T N od ln lt) (hN : N ≤ 10) {F : Nat} (hF : 100 ≤ F) {x : Nat} (hx : x < N) : Mo_offOf F (nI N) ln lt (nI x) = some (nI (offM T N x)) :=
  Mo_off_loop hO hN hF hx N 0 F (by omega) (by omega)
theorem off_ok {T : Nat → Nat → Nat} {n : Nat → Nat} {t0s : Int32} {t0b : (Nat → Int32)} {t1s : Int32} {t1b : (Nat → Int32)} {t2s : Int32} {t2b : (Nat → Int32)} {st : Int32} {nz : Int32} {nf : Int32} {nod : (Nat → Int32)} {nln : (Nat → Int32)} {nlt : (Nat → Int32)} {nal : (Nat → Int32)} {nto : (Nat → Int32)} {pz : Int32} {pf : Int32} {pis : (Nat → Int32)} {pln : (Nat → Int32)} {plt : (Nat → Int32)} {sz : Int32} {sf : Int32} {slt : (Nat → Int32)} {fpc : Int32} {fsf : Int32} {faf : Int32} {ford : Int32} {fpf : (Nat → Int32)} {fio : (Nat → Int32)} (hT : TxC T n t0s t0b t1s t1b t2s t2b) (hD : DrC T n st nz nf nod nln nlt nal nto pz pf pis pln plt sz sf slt fpc fsf faf ford fpf fio) {bytes typed : Nat → Int32} (hM : TxR T n bytes typed) {F : Nat} (hF : 2000 ≤ F) (ra : Int32) (rn : Int32) (rp : Int32) (rs : Int32) (rch : (Nat → Int32)) (rlo : (Nat → Int32)) (rle : (Nat → Int32)) (ris : (Nat → Int32)) (rpl : (Nat → Int32)) (rpt : (Nat → Int32)) (rso : (Nat → Int32)) (x1 : Int32) : ∃ r st' nz' nf' nod' nln' nlt' nal' nto' pz' pf' pis' pln' plt' sz' sf' slt' fpc' fsf' faf' ford' fpf' fio' ra' rn' rp' rs' rch' rlo' rle' ris' rpl' rpt' rso',
    ND_off F t0s t0b t1s t1b t2s t2b st nz nf nod nln nlt nal nto pz pf pis pln plt sz sf slt fpc fsf faf ford fpf fio x1 = some (r, st', nz', nf', nod', nln', nlt', nal', nto', pz', pf', pis', pln', plt', sz', sf', slt', fpc', fsf', faf', ford', fpf', fio') ∧ Mo_off F bytes typed ra rn rp rs rch rlo rle ris rpl rpt rso x1 = some (r, ra', rn', rp', rs', rch', rlo', rle', ris', rpl', rpt', rso') ∧ DrC T n st' nz' nf' nod' nln' nlt' nal' nto' pz' pf' pis' pln' plt' sz' sf' slt' fpc' fsf' faf' ford' fpf' fio' := by
  obtain ⟨nz', nf', nod', nln', nlt', nal', nto', pz', pf', pis', pln', plt', sz', sf', slt', fpc', fsf', faf', ford', fpf', fio', e, g⟩ := ND_refresh_ok hT hD hF
  obtain ⟨ra', rn', rp', rs', rch', rlo', rle', ris', rpl', rpt', rso', f, q1, q2, q3, q4, q5, q6⟩ := Mo_reads_ok hT hM hF ra rn rp rs rch rlo rle ris rpl rpt rso
  have g' := DrC_0 g
  obtain ⟨g1, g2, g3, g4, _⟩ := g.1
  have hN10 : nN T n ≤ 10 := pN_le
  have hz : nz' = nI (nN T n) := g1
  have hO : NmOK (T 0) (nN T n) nod' nln' nlt' := g3
  have hG : GrOK (T 0) (nN T n) 6 nal' := g4
  unfold ND_off Mo_off
  rw [e, cb22_s, f, cb11_s, q1, hz]
  rw [hz] at g'
  rcases isName_cases (nN T n) hN10 x1 with ⟨k, hk, rfl, e1, e2⟩ | ⟨e1, e2⟩
  · rw [e1, e2, cb1_s, cb1_s, if_neg (show ¬ (1 : Int32) = 0 by decide), if_neg (show ¬ (1 : Int32) = 0 by decide), Na_oneLetter_ok hO hN10 hG (by omega) hk, Mo_offOf_ok q4 hN10 (by omega) hk, cb1_s, cb1_s]
    exact ⟨_, _, _, _, _, _, _, _, _, _, _, _, _, _, _, _, _, _, _, _, _, _, _, _, _, _, _, _, _, _, _, _, _, _, rfl, rfl, g'⟩
  · rw [e1, e2, cb1_s, cb1_s, if_pos rfl, if_pos rfl]
    exact ⟨_, _, _, _, _, _, _, _, _, _, _, _, _, _, _, _, _, _, _, _, _, _, _, _, _, _, _, _, _, _, _, _, _, _, rfl, rfl, g'⟩
