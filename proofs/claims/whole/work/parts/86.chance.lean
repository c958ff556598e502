/-! chance agrees -/
def lI (n : Nat) : Int64 := Int64.ofNat n
theorem lI_toInt {n : Nat} (h : n < 2 ^ 63) : (lI n).toInt = n := lg_ofNat_toInt h
theorem tL {n : Nat} (h : n < 2147483648) : Int32.toInt64 (nI n) = lI n := by
  apply Int64.toInt_inj.mp
  rw [Int32.toInt_toInt64, nI_toInt h, lI_toInt (by omega)]
theorem lI_add (a b : Nat) : lI a + lI b = lI (a + b) := (Int64.ofNat_add a b).symm
theorem lI_mul (a b : Nat) : lI a * lI b = lI (a * b) := (Int64.ofNat_mul a b).symm
theorem lI_sub {a b : Nat} (h : b ≤ a) : lI a - lI b = lI (a - b) := by
  obtain ⟨c, rfl⟩ : ∃ c, a = c + b := ⟨a - b, by omega⟩
  rw [← lI_add, Int64.add_sub_cancel, Nat.add_sub_cancel]
theorem lI_div {a d : Nat} (ha : a < 2 ^ 63) (h0 : 0 < d) (hd : d < 2 ^ 63) : lI a / lI d = lI (a / d) := by
  apply Int64.toInt_inj.mp
  rw [lg_ldiv_nonneg (by rw [lI_toInt ha]; omega) (by rw [lI_toInt hd]; omega), lI_toInt ha, lI_toInt hd, lI_toInt (Nat.lt_of_le_of_lt (Nat.div_le_self a d) ha)]
  first | rfl | exact (Int.natCast_ediv _ _).symm
theorem lI_rem {a d : Nat} (ha : a < 2 ^ 63) (h0 : 0 < d) (hd : d < 2 ^ 63) : lI a - lI a / lI d * lI d = lI (a % d) := by
  rw [lI_div ha h0 hd, lI_mul, lI_sub (Nat.div_mul_le_self a d)]
  exact congrArg lI (by have := Nat.div_add_mod' a d; omega)
theorem lI_eq {a b : Nat} (ha : a < 2 ^ 63) (hb : b < 2 ^ 63) : lI a = lI b ↔ a = b := by
  refine ⟨fun h => ?_, fun h => congrArg lI h⟩
  have := congrArg Int64.toInt h
  rw [lI_toInt ha, lI_toInt hb] at this; omega
theorem two_cases (x : Int32) : (∃ b, b ≤ 1 ∧ x = nI b ∧ ND_isZeroOrOne x = some 1 ∧ Mo_isTwo x = some 1) ∨ (ND_isZeroOrOne x = some 0 ∧ Mo_isTwo x = some 0) := by
  unfold ND_isZeroOrOne Mo_isTwo
  rcases in_cases x 0 1 (by omega) (by omega) with ⟨k, _, hk, rfl, e⟩ | ⟨h1, e⟩
  · refine Or.inl ⟨k, hk, rfl, ?_, ?_⟩
    · rcases Nat.le_one_iff_eq_zero_or_eq_one.mp hk with rfl | rfl
      · rw [if_pos (show nI 0 = 0 from rfl)]; rfl
      · rw [if_neg (by decide), if_pos (show nI 1 = 1 from rfl)]; rfl
    · rw [show (0 : Int64) = Int32.toInt64 (nI 0) from rfl, show (1 : Int64) = Int32.toInt64 (nI 1) from rfl, e, cb1_s, gd_s (Or.inr rfl)]
  · refine Or.inr ⟨?_, ?_⟩
    · rw [if_neg (fun h => by subst h; revert h1; decide), if_neg (fun h => by subst h; revert h1; decide)]
    · rw [show (0 : Int64) = Int32.toInt64 (nI 0) from rfl, show (1 : Int64) = Int32.toInt64 (nI 1) from rfl, e, cb1_s, gd_s (Or.inl rfl)]
theorem Mo_weight_loop {T : Nat → Nat} {N : Nat} {od ln lt : Nat → Int32} (hO : NmOK T N od ln lt) (hN : N ≤ 10) (F : Nat) {m : Nat} (hm : m < 2147483648) : ∀ (d k f : Nat), k + d = N → d < f → Mo_weight_l4 F (nI N) od (nI m) f (nI (wt (Od T) m k)) (nI k) = some (nI (wt (Od T) m N)) := by
  intro d
  induction d with
  | zero =>
    intro k f hk hf
    obtain ⟨f, rfl⟩ : ∃ f', f = f' + 1 := ⟨f - 1, by omega⟩
    show Mo_weight_b4 F (nI N) od (nI m) _ _ (nI k) = _
    unfold Mo_weight_b4
    rw [if_pos (show nI N ≤ nI k by rw [leN (by omega) (by omega)]; omega), show k = N by omega]
  | succ d ih =>
    intro k f hk hf
    obtain ⟨f, rfl⟩ : ∃ f', f = f' + 1 := ⟨f - 1, by omega⟩
    show Mo_weight_b4 F (nI N) od (nI m) (Mo_weight_l4 F (nI N) od (nI m) f) _ (nI k) = _
    unfold Mo_weight_b4 Mo_weight_b31
    rw [if_neg (show ¬ nI N ≤ nI k by rw [leN (by omega) (by omega)]; omega), Mo_isIn_ok hm (by omega), cb1_s, show nI k + 1 = nI (k + 1) from nI_1 _, rdN (by omega) (by omega), (hO k (by omega)).2.2.1, n0, nI_add, nI_add, ← ih (k + 1) f (by omega) (by omega), wt]
    cases hb : m.testBit k with
    | true => rw [if_neg (by decide), if_pos rfl]
    | false => rw [if_pos (by decide), if_neg (by decide)]
theorem Mo_weight_ok {T : Nat → Nat} {N : Nat} {od ln lt : Nat → Int32} (hO : NmOK T N od ln lt) (hN : N ≤ 10) {F : Nat} (hF : 100 ≤ F) {m : Nat} (hm : m < 2 ^ N) : Mo_weight F (nI N) od (nI m) = some (nI (wt (Od T) m 10)) := by
  have := p2_10 hN
  rw [wt_10 hm hN]
  exact Mo_weight_loop hO hN F (by omega) N 0 F (by omega) (by omega)
theorem Na_oddsOfAll_ok {T : Nat → Nat} {N : Nat} {ot : Nat → Int32} (hT : OtOK T (2 ^ N) ot) (hN : N ≤ 10) {m : Nat} (hm : m < 2 ^ N) : Na_oddsOfAll (nI N) ot (nI m) = some (nI (wt (Od T) m 10)) := by
  have := p2_10 hN
  unfold Na_oddsOfAll
  rw [allI hN, bAnd, and_all hm, rdN (by omega) (by omega), hT m hm]
theorem gd_loop (F : Nat) (x0 x1 : Int32) : ∀ (b a c f : Nat), b < f → c + b < 100 → a < 2147483648 → ND_greatestDivisor_l7 F x0 x1 f (nI a) (nI b) (nI c) = some (nI (Nat.gcd b a)) := by
  intro b
  induction b using Nat.strongRecOn with
  | ind b ih =>
    intro a c f hf hc ha
    obtain ⟨f, rfl⟩ : ∃ f', f = f' + 1 := ⟨f - 1, by omega⟩
    show ND_greatestDivisor_b7 F x0 x1 (ND_greatestDivisor_l7 F x0 x1 f) _ _ _ = _
    unfold ND_greatestDivisor_b7
    rw [show (100 : Int32) = nI 100 from rfl, if_neg (show ¬ nI 100 ≤ nI c by rw [leN (by omega) (by omega)]; omega)]
    by_cases h : b = 0
    · subst h; rw [if_pos (show nI 0 = 0 from rfl), Nat.gcd_zero_left]
    · have hb : ¬ nI b = 0 := fun hq => h ((nI_eq (b := 0) (by omega) (by omega)).mp hq)
      have hlt := Nat.mod_lt a (show 0 < b by omega)
      rw [if_neg hb, gd_s hb, pk_rem (by omega) (by omega) (by omega), show nI c + 1 = nI (c + 1) from nI_1 _, ih (a % b) hlt b (c + 1) f (by omega) (by omega) (by omega), ← Nat.gcd_rec]
theorem ND_gcd_ok {F : Nat} (hF : 200 ≤ F) {a b : Nat} (ha : a < 2147483648) (hb : b < 100) : ND_greatestDivisor F (nI a) (nI b) = some (nI (Nat.gcd b a)) := gd_loop F _ _ b a 0 F (by omega) (by omega) ha
theorem part_loop (F : Nat) (x0 x2 : Int64) (x4 : Int32) : ∀ (b a f : Nat), b < f → a < 2147483648 → b < 1000 → Mo_part_l6 F x0 x2 x4 f (lI a) (lI b) = Mo_part_b31 F x0 x2 x4 (lI (Nat.gcd b a)) := by
  intro b
  induction b using Nat.strongRecOn with
  | ind b ih =>
    intro a f hf ha hb1
    obtain ⟨f, rfl⟩ : ∃ f', f = f' + 1 := ⟨f - 1, by omega⟩
    show Mo_part_b6 F x0 x2 x4 (Mo_part_l6 F x0 x2 x4 f) _ _ = _
    unfold Mo_part_b6
    by_cases h : b = 0
    · subst h; rw [if_pos (show lg_cmp (lI 0) 0 = 0 by decide), Nat.gcd_zero_left]
    · have hb : ¬ lI b = 0 := fun hq => h ((lI_eq (b := 0) (by omega) (by omega)).mp hq)
      have hlt := Nat.mod_lt a (show 0 < b by omega)
      rw [if_neg (fun hc => hb ((lg_cmp_eq _ _).mp hc)), gd_s hb, lI_rem (by omega) (by omega) (by omega), ih (a % b) hlt b f (by omega) (by omega) (by omega), ← Nat.gcd_rec]
theorem term_ok {F : Nat} (hF : 2000 ≤ F) {a b : Nat} (ha : a < 2147483648) (hb : b < 100) (h0 : 0 < b) (x2 : Int32) : ∃ q, q < 2147483648 ∧ ND_lowestTerm F (nI a) (nI b) x2 = some (nI q) ∧ Mo_part F (lI a) (lI b) x2 = some (lI q) := by
  have hg := Nat.gcd_pos_of_pos_left a h0
  have hg2 := Nat.gcd_le_left a h0
  unfold ND_lowestTerm Mo_part ND_lowestTerm_b21
  rw [ND_gcd_ok (by omega) (by omega) hb, part_loop F _ _ _ b a F (by omega) (by omega) (by omega), cb1_s]
  unfold Mo_part_b31 Mo_part_b41
  have e1 : ¬ nI (Nat.gcd b a) = 0 := fun hq => by have := (nI_eq (b := 0) (by omega) (by omega)).mp hq; omega
  have e2 : ¬ lI (Nat.gcd b a) = 0 := fun hq => by have := (lI_eq (b := 0) (by omega) (by omega)).mp hq; omega
  rw [if_neg e1]
  have d1 := Nat.div_le_self a (Nat.gcd b a)
  have d2 := Nat.div_le_self b (Nat.gcd b a)
  by_cases h : x2 = 0
  · rw [if_pos h, if_pos h, gd_s e1, gd_s e2, pk_div (by omega) hg (by omega), lI_div (by omega) hg (by omega)]
    exact ⟨_, by omega, rfl, rfl⟩
  · rw [if_neg h, if_neg h, gd_s e1, gd_s e2, pk_div (by omega) hg (by omega), lI_div (by omega) hg (by omega)]
    exact ⟨_, by omega, rfl, rfl⟩
theorem Od_le {T : Nat → Nat} {N : Nat} {od ln lt : Nat → Int32} (hO : NmOK T N od ln lt) {k : Nat} (hk : k < N) : 1 ≤ Od T k ∧ Od T k ≤ 9 := by
  have := (hO k hk).1
  unfold Od; omega
theorem wt_bd {od : Nat → Nat} {m : Nat} : ∀ {n : Nat}, (∀ i, i < n → od i ≤ 9) → wt od m n ≤ 9 * n
  | 0, _ => by rw [wt]; omega
  | n + 1, h => by
    have h1 := wt_bd (m := m) (n := n) (fun i hi => h i (by omega))
    have h2 := h n (by omega)
    rw [wt]; split <;> omega
theorem wt_ge {od : Nat → Nat} {m i : Nat} (hb : m.testBit i = true) : ∀ {n : Nat}, i < n → od i ≤ wt od m n
  | 0, h => absurd h (Nat.not_lt_zero _)
  | n + 1, h => by
    rw [wt]
    by_cases e : i = n
    · subst e; rw [if_pos hb]; omega
    · have := wt_ge (od := od) hb (n := n) (by omega); omega
theorem m_ex {m N : Nat} (hm : m < 2 ^ N) (h : m ≠ 0) : ∃ i, i < N ∧ m.testBit i = true := by
  apply Classical.byContradiction
  intro hc
  exact h (m_0 hm (fun i hi => by
    cases hb : m.testBit i with
    | false => rfl
    | true => exact absurd ⟨i, hi, hb⟩ hc))
theorem wt_pos {T : Nat → Nat} {N : Nat} {od ln lt : Nat → Int32} (hO : NmOK T N od ln lt) (hN : N ≤ 10) {m : Nat} (hm : m < 2 ^ N) (h : m ≠ 0) : 0 < wt (Od T) m 10 ∧ wt (Od T) m 10 ≤ 90 := by
  rw [wt_10 hm hN]
  obtain ⟨i, hi, hb⟩ := m_ex hm h
  have h1 := wt_ge (od := Od T) hb hi
  have h2 := (Od_le hO hi).1
  have h3 := wt_bd (od := Od T) (m := m) (n := N) (fun i hi => (Od_le hO hi).2)
  omega
theorem chance_ok {T : Nat → Nat → Nat} {n : Nat → Nat} {t0s : Int32} {t0b : (Nat → Int32)} {t1s : Int32} {t1b : (Nat → Int32)} {t2s : Int32} {t2b : (Nat → Int32)} {st : Int32} {nz : Int32} {nf : Int32} {nod : (Nat → Int32)} {nln : (Nat → Int32)} {nlt : (Nat → Int32)} {nal : (Nat → Int32)} {nto : (Nat → Int32)} {pz : Int32} {pf : Int32} {pis : (Nat → Int32)} {pln : (Nat → Int32)} {plt : (Nat → Int32)} {sz : Int32} {sf : Int32} {slt : (Nat → Int32)} {fpc : Int32} {fsf : Int32} {faf : Int32} {ford : Int32} {fpf : (Nat → Int32)} {fio : (Nat → Int32)} (hT : TxC T n t0s t0b t1s t1b t2s t2b) (hD : DrC T n st nz nf nod nln nlt nal nto pz pf pis pln plt sz sf slt fpc fsf faf ford fpf fio) {bytes typed : Nat → Int32} (hM : TxR T n bytes typed) {F : Nat} (hF : 2000 ≤ F) (ra : Int32) (rn : Int32) (rp : Int32) (rs : Int32) (rch : (Nat → Int32)) (rlo : (Nat → Int32)) (rle : (Nat → Int32)) (ris : (Nat → Int32)) (rpl : (Nat → Int32)) (rpt : (Nat → Int32)) (rso : (Nat → Int32)) (x1 x2 : Int32) : ∃ r st' nz' nf' nod' nln' nlt' nal' nto' pz' pf' pis' pln' plt' sz' sf' slt' fpc' fsf' faf' ford' fpf' fio' ra' rn' rp' rs' rch' rlo' rle' ris' rpl' rpt' rso',
    ND_chance F t0s t0b t1s t1b t2s t2b st nz nf nod nln nlt nal nto pz pf pis pln plt sz sf slt fpc fsf faf ford fpf fio x1 x2 = some (r, st', nz', nf', nod', nln', nlt', nal', nto', pz', pf', pis', pln', plt', sz', sf', slt', fpc', fsf', faf', ford', fpf', fio') ∧ Mo_chance F bytes typed ra rn rp rs rch rlo rle ris rpl rpt rso x1 x2 = some (r, ra', rn', rp', rs', rch', rlo', rle', ris', rpl', rpt', rso') ∧ DrC T n st' nz' nf' nod' nln' nlt' nal' nto' pz' pf' pis' pln' plt' sz' sf' slt' fpc' fsf' faf' ford' fpf' fio' := by
  obtain ⟨nz', nf', nod', nln', nlt', nal', nto', pz', pf', pis', pln', plt', sz', sf', slt', fpc', fsf', faf', ford', fpf', fio', e, g⟩ := ND_refresh_ok hT hD hF
  obtain ⟨ra', rn', rp', rs', rch', rlo', rle', ris', rpl', rpt', rso', f, q1, q2, q3, q4, q5, q6⟩ := Mo_reads_ok hT hM hF ra rn rp rs rch rlo rle ris rpl rpt rso
  have g' := DrC_0 g
  obtain ⟨⟨g1, _, g3, g4, g5⟩, _, _, _, _, g8, _⟩ := g
  have hN10 : nN T n ≤ 10 := pN_le
  have h210 := p2_10 hN10
  have hz : nz' = nI (nN T n) := g1
  have hO : NmOK (T 0) (nN T n) nod' nln' nlt' := g3
  have hW : OtOK (T 0) (2 ^ (nN T n)) nto' := g5
  have hA : faf' = nI (FM T n 63) := g8
  have hl : FM T n 63 < 2 ^ (nN T n) := fm_lt _ _ _ _ _ _ _
  unfold ND_chance Mo_chance
  rw [e, cb22_s, f, cb11_s, q1, hz]
  rw [hz] at g'
  rcases isName_cases (nN T n) hN10 x1 with ⟨k, hk, rfl, e1, e2⟩ | ⟨e1, e2⟩
  · rw [e1, e2, cb1_s, cb1_s, if_neg (show ¬ (1 : Int32) = 0 by decide), if_neg (show ¬ (1 : Int32) = 0 by decide)]
    rcases two_cases x2 with ⟨b, hb, rfl, e3, e4⟩ | ⟨e3, e4⟩
    · rw [e3, e4, cb1_s, cb1_s, if_neg (show ¬ (1 : Int32) = 0 by decide), if_neg (show ¬ (1 : Int32) = 0 by decide)]
      unfold Fi_byAll Mo_chanceOf
      rw [cb1_s, q2, q3, Mo_fitsNow_ok q4 hN10 q5 pP_le q6 (pS_le hT.2.2.2.2.2.1) (show 100 ≤ F by omega), cb1_s, hA, show fm (T 0) (T 1) (T 2) (nN T n) (nP T n) (nS T n) 63 = FM T n 63 from rfl]
      rw [hA] at g'
      by_cases hz0 : FM T n 63 = 0
      · rw [hz0] at g' ⊢
        rw [if_pos (show nI 0 = 0 from rfl), if_pos (show nI 0 = 0 from rfl)]
        exact ⟨_, _, _, _, _, _, _, _, _, _, _, _, _, _, _, _, _, _, _, _, _, _, _, _, _, _, _, _, _, _, _, _, _, _, rfl, rfl, g'⟩
      · have hz1 : ¬ nI (FM T n 63) = 0 := fun hq => hz0 ((nI_eq (b := 0) (by omega) (by omega)).mp hq)
        obtain ⟨w1, w2⟩ := wt_pos hO hN10 hl hz0
        rw [if_neg hz1, if_neg hz1, Mo_isIn_ok (by omega) (by omega), sh1 k (by omega)]
        unfold ND_chance_b66 Mo_chanceOf_b36
        rw [Na_oddsOf_ok hO hN10 hk, Na_oddsOfAll_ok hW hN10 hl]
        simp only [cb1_s]
        rw [Mo_weight_ok q4 hN10 (by omega) hl, rdN (by omega) (by omega), (q4 k hk).2.2.1]
        simp only [cb1_s]
        have hk9 := (Od_le hO hk).2
        rw [tL (show Od (T 0) k < 2147483648 by omega), tL (show wt (Od (T 0)) (FM T n 63) 10 < 2147483648 by omega)]
        cases hb : (FM T n 63).testBit k with
        | true =>
          obtain ⟨q, hq, t1, t2⟩ := term_ok hF (show Od (T 0) k < 2147483648 by omega) (show wt (Od (T 0)) (FM T n 63) 10 < 100 by omega) w1 (nI b)
          rw [if_neg (show ¬ nI (FM T n 63) &&& nI (2 ^ k) = 0 by rw [bBit (by omega), hb]; decide), if_neg (by decide), t1, t2]
          simp only [cb1_s]
          rw [tL (show q < 2147483648 by omega)]
          exact ⟨_, _, _, _, _, _, _, _, _, _, _, _, _, _, _, _, _, _, _, _, _, _, _, _, _, _, _, _, _, _, _, _, _, _, rfl, rfl, g'⟩
        | false =>
          obtain ⟨q, hq, t1, t2⟩ := term_ok hF (show 0 < 2147483648 by omega) (show wt (Od (T 0)) (FM T n 63) 10 < 100 by omega) w1 (nI b)
          rw [if_pos (show nI (FM T n 63) &&& nI (2 ^ k) = 0 by rw [bBit (by omega), hb]), if_pos (by decide), show (0 : Int32) = nI 0 from rfl, show (0 : Int64) = lI 0 from rfl, t1, t2]
          simp only [cb1_s]
          rw [tL (show q < 2147483648 by omega)]
          exact ⟨_, _, _, _, _, _, _, _, _, _, _, _, _, _, _, _, _, _, _, _, _, _, _, _, _, _, _, _, _, _, _, _, _, _, rfl, rfl, g'⟩
    · rw [e3, e4, cb1_s, cb1_s, if_pos rfl, if_pos rfl]
      exact ⟨_, _, _, _, _, _, _, _, _, _, _, _, _, _, _, _, _, _, _, _, _, _, _, _, _, _, _, _, _, _, _, _, _, _, rfl, rfl, g'⟩
  · rw [e1, e2, cb1_s, cb1_s, if_pos rfl, if_pos rfl]
    exact ⟨_, _, _, _, _, _, _, _, _, _, _, _, _, _, _, _, _, _, _, _, _, _, _, _, _, _, _, _, _, _, _, _, _, _, rfl, rfl, g'⟩
