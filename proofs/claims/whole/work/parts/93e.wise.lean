/-! the class's table of what is least -/
def LsOK (T : Nat → Nat) (N : Nat) (tm : Nat → Nat) (tbl : Nat → Int32) : Prop := ∀ n m, n < tm 2 → m < 2 ^ N → tbl (n * 2 ^ N + m) = -1 ∨ tbl (n * 2 ^ N + m) = nI (VV T N tm (tm 2 - n) m)
theorem idx_inj {p n m n' m' : Nat} (hm : m < p) (hm' : m' < p) (h : n * p + m = n' * p + m') : n = n' ∧ m = m' := by
  have h1 : (n * p + m) / p = n := by rw [Nat.mul_comm, Nat.mul_add_div (by omega), Nat.div_eq_of_lt hm]; omega
  have h2 : (n' * p + m') / p = n' := by rw [Nat.mul_comm, Nat.mul_add_div (by omega), Nat.div_eq_of_lt hm']; omega
  have e : n = n' := by rw [← h1, h, h2]
  subst e
  exact ⟨rfl, by omega⟩
theorem LsOK_put {T : Nat → Nat} {N : Nat} {tm : Nat → Nat} {tbl : Nat → Int32} (h : LsOK T N tm tbl) {n m : Nat} (hm : m < 2 ^ N) : LsOK T N tm (upd tbl (n * 2 ^ N + m) (nI (VV T N tm (tm 2 - n) m))) := by
  intro n' m' hn' hm'
  by_cases e : n' * 2 ^ N + m' = n * 2 ^ N + m
  · obtain ⟨rfl, rfl⟩ := idx_inj hm' hm e
    rw [upd_s]; exact Or.inr rfl
  · rw [upd_n e]; exact h n' m' hn' hm'
abbrev LFt := (Nat → Int32) → Int32 → Int32 → Option (Int32 × (Nat → Int32))
def LFok (T : Nat → Nat) (N : Nat) (tm : Nat → Nat) (LF : LFt) (n : Nat) : Prop := ∀ tbl m, LsOK T N tm tbl → m < 2 ^ N → ∃ tbl', LF tbl (nI n) (nI m) = some (nI (VV T N tm (tm 2 - n) m), tbl') ∧ LsOK T N tm tbl'
theorem Wi_sumUn_ok {T : Nat → Nat} {N : Nat} {ot : Nat → Int32} (hW : OtOK T (2 ^ N) ot) (hN : N ≤ 10) {tm : Nat → Nat} {dt : Nat → Int32} (hC : TmC tm dt) (hT : TmOK tm) {m : Nat} (hm : m < 2 ^ N) : Wi_sumUnnamed (nI N) ot dt (nI m) = some (nI (UU T tm m)) := by
  unfold Wi_sumUnnamed
  rw [Na_oddsOfAll_ok hW hN hm, cb1_s, De_ruin_ok hC hT, cb1_s, mulN]; rfl
theorem ca_bd {T : Nat → Nat} {N : Nat} {od ln lt : Nat → Int32} (hO : NmOK T N od ln lt) (hN : N ≤ 10) {tm : Nat → Nat} (hT : TmOK tm) {m n r : Nat} (hm : m < 2 ^ N) (hn : n ≤ 12) (a : Nat) : ca T N tm (VV T N tm r) n m a ≤ 2147483647 := by
  have h1 := (UU_bd hO hN hT hm).2.2
  have h2 : ∀ p, lv T N (VV T N tm r) m p ≤ UU T tm m := fun p => by
    rw [← UU_split hN hm p]
    exact sm_le (fun c _ => VV_U tm hN r _ (and_lt hm))
  have h3 := h2 (a - 10)
  unfold ca
  by_cases h : a < 10
  · rw [if_pos h]
    cases hb : m.testBit a with
    | false => rw [if_neg (by decide)]; omega
    | true =>
      rw [if_pos rfl]
      have haN : a < N := by
        apply Classical.byContradiction
        intro hc
        rw [Nat.testBit_lt_two_pow (Nat.lt_of_lt_of_le hm (p2_le (show N ≤ a by omega)))] at hb; cases hb
      have := (gv_bd hO hN hT (r := r) hm haN hn).1; omega
  · rw [if_neg h]; split <;> omega
theorem Wi_guess_ok {T : Nat → Nat} {N : Nat} {od ln lt al ot : Nat → Int32} (hO : NmOK T N od ln lt) (hW : OtOK T (2 ^ N) ot) (hN : N ≤ 10) {tm : Nat → Nat} {dt : Nat → Int32} (hC : TmC tm dt) (hT : TmOK tm) (F : Nat) {LF : LFt} {n r : Nat} (hnr : n + r + 1 = tm 2) (hLF : LFok T N tm LF (n + 1)) {tbl : Nat → Int32} (hL : LsOK T N tm tbl) {m k : Nat} (hm : m < 2 ^ N) (hk : k < 10) : ∃ tbl', Wi_sumOfGuess F LF (nI N) od al ot dt tbl (nI k) (nI n) (nI m) = some (nI (ca T N tm (VV T N tm r) n m k), tbl') ∧ LsOK T N tm tbl' := by
  have h10 := p2_10 hN
  have hb := TmB hT
  unfold Wi_sumOfGuess ca
  rw [if_pos hk, sh1 k (by omega)]
  cases hbit : m.testBit k with
  | false =>
    rw [if_pos (show nI m &&& nI (2 ^ k) = 0 by rw [bBit (by omega), hbit]), if_neg (by decide)]
    exact ⟨tbl, rfl, hL⟩
  | true =>
    have hkN : k < N := by
      apply Classical.byContradiction
      intro hc
      rw [Nat.testBit_lt_two_pow (Nat.lt_of_lt_of_le hm (p2_le (show N ≤ k by omega)))] at hbit; cases hbit
    obtain ⟨tbl', e1, e2⟩ := hLF tbl (ndf m (2 ^ k)) hL (ndf_lt hm)
    unfold De_cow
    rw [if_neg (show ¬ nI m &&& nI (2 ^ k) = 0 by rw [bBit (by omega), hbit]; decide), if_pos rfl, ndfI, Na_oddsOf_ok hO hN hkN, cb1_s, De_promised_ok hC hT (by omega), cb1_s, Na_oddsOfAll_ok hW hN (ndf_lt hm), cb1_s, r1, hC 1 (by omega), cb1_s, show nI n + 1 = nI (n + 1) from nI_1 _, e1, cb2_s, mulN, mulN, nI_add, nI_add, show tm 2 - (n + 1) = r by omega]
    exact ⟨tbl', rfl, e2⟩
theorem Wi_listen_lp {T : Nat → Nat} {N : Nat} {od ln lt al ot : Nat → Int32} (hO : NmOK T N od ln lt) (hG : GrOK T N 6 al) (hW : OtOK T (2 ^ N) ot) (hN : N ≤ 10) {tm : Nat → Nat} {dt : Nat → Int32} (hC : TmC tm dt) (hT : TmOK tm) (F : Nat) {LF : LFt} {n r : Nat} (hnr : n + r + 1 = tm 2) (hLF : LFok T N tm LF (n + 1)) {m p : Nat} (hm : m < 2 ^ N) (hp : p < 6) : ∀ (d c f : Nat) (tbl : Nat → Int32), c + d = 7 → d < f → LsOK T N tm tbl → (∀ c', c' < c → m &&& snd T N p c' ≠ m) → ∃ tbl', Wi_sumOfListening_l6 F LF (nI N) od al ot dt (nI p) (nI n) (nI m) f (nI (sm (fun c => VV T N tm r (m &&& snd T N p c)) c)) (nI c + (-1)) tbl = some (nI (if unsp T N m p = true then UU T tm m else lv T N (VV T N tm r) m p), tbl') ∧ LsOK T N tm tbl' := by
  have h10 := p2_10 hN
  intro d
  induction d with
  | zero =>
    intro c f tbl hc hf hL hu
    obtain ⟨f, rfl⟩ : ∃ f', f = f' + 1 := ⟨f - 1, by omega⟩
    obtain rfl : c = 7 := by omega
    show ∃ tbl', Wi_sumOfListening_b6 F LF (nI N) od al ot dt (nI p) (nI n) (nI m) _ _ _ tbl = _ ∧ _
    unfold Wi_sumOfListening_b6
    rw [if_pos m1s.2, if_neg]
    · exact ⟨tbl, rfl, hL⟩
    · intro hq
      obtain ⟨c, hc, hq⟩ := anyB_iff.mp hq
      exact hu c hc (by simpa using hq)
  | succ d ih =>
    intro c f tbl hc hf hL hu
    obtain ⟨f, rfl⟩ : ∃ f', f = f' + 1 := ⟨f - 1, by omega⟩
    show ∃ tbl', Wi_sumOfListening_b6 F LF (nI N) od al ot dt (nI p) (nI n) (nI m) (Wi_sumOfListening_l6 F LF (nI N) od al ot dt (nI p) (nI n) (nI m) f) _ _ tbl = _ ∧ _
    unfold Wi_sumOfListening_b6 Wi_sumOfListening_b33
    rw [if_neg (m1s.1 c (by omega)).1, Na_sounding_c hG hp (by omega), cb1_s, (m1s.1 c (by omega)).2, show bo (fun i => sdc T i p == c) N = snd T N p c from rfl, bAnd]
    by_cases he : m &&& snd T N p c = m
    · rw [if_pos ((and_eqI hm hN).mpr he), Wi_sumUn_ok hW hN hC hT hm, cb1_s, if_pos (show unsp T N m p = true from anyB_iff.mpr ⟨c, by omega, by rw [he]; exact beq_self_eq_true _⟩)]
      exact ⟨tbl, rfl, hL⟩
    · obtain ⟨tbl', e1, e2⟩ := hLF tbl (m &&& snd T N p c) hL (and_lt hm)
      rw [if_neg (fun hq => he ((and_eqI hm hN).mp hq)), show nI n + 1 = nI (n + 1) from nI_1 _, e1, cb2_s, nI_add, show tm 2 - (n + 1) = r by omega]
      exact ih (c + 1) f tbl' (by omega) (by omega) e2 (fun c' hc' => by
        by_cases e : c' = c
        · subst e; exact he
        · exact hu c' (by omega))
theorem Wi_sumOf_ok {T : Nat → Nat} {N : Nat} {od ln lt al ot : Nat → Int32} (hO : NmOK T N od ln lt) (hG : GrOK T N 6 al) (hW : OtOK T (2 ^ N) ot) (hN : N ≤ 10) {tm : Nat → Nat} {dt : Nat → Int32} (hC : TmC tm dt) (hT : TmOK tm) {F : Nat} (hF : 100 ≤ F) {LF : LFt} {n r : Nat} (hnr : n + r + 1 = tm 2) (hLF : LFok T N tm LF (n + 1)) {tbl : Nat → Int32} (hL : LsOK T N tm tbl) {m a : Nat} (hm : m < 2 ^ N) (ha : a < 16) : ∃ tbl', Wi_sumOf F LF (nI N) od al ot dt tbl (nI a) (nI n) (nI m) = some (nI (ca T N tm (VV T N tm r) n m a), tbl') ∧ LsOK T N tm tbl' := by
  unfold Wi_sumOf
  by_cases h : a < 10
  · obtain ⟨tbl', e1, e2⟩ := Wi_guess_ok hO hW hN hC hT F hnr hLF hL hm h (al := al)
    rw [if_neg (show ¬ (10 : Int32) ≤ nI a by rw [n10, leN (by omega) (by omega)]; omega), e1, cb2_s]
    exact ⟨tbl', rfl, e2⟩
  · obtain ⟨tbl', e1, e2⟩ := Wi_listen_lp hO hG hW hN hC hT F hnr hLF hm (show a - 10 < 6 by omega) 7 0 F tbl rfl (by omega) hL (fun c' hc' => absurd hc' (Nat.not_lt_zero c'))
    unfold Wi_sumOfListening
    rw [if_pos (show (10 : Int32) ≤ nI a by rw [n10, leN (by omega) (by omega)]; omega), show nI a - 10 = nI (a - 10) from subN (b := 10) (by omega), show Wi_sumOfListening_l6 F LF (nI N) od al ot dt (nI (a - 10)) (nI n) (nI m) F 0 (-1) tbl = _ from e1, cb2_s]
    unfold ca
    rw [if_neg h]
    exact ⟨tbl', rfl, e2⟩
theorem Wi_acts_lp {T : Nat → Nat} {N : Nat} {od ln lt al ot : Nat → Int32} (hO : NmOK T N od ln lt) (hG : GrOK T N 6 al) (hW : OtOK T (2 ^ N) ot) (hN : N ≤ 10) {tm : Nat → Nat} {dt : Nat → Int32} (hC : TmC tm dt) (hT : TmOK tm) {F : Nat} (hF : 100 ≤ F) {LF : LFt} {n r : Nat} (hnr : n + r + 1 = tm 2) (hLF : LFok T N tm LF (n + 1)) {m : Nat} (hm : m < 2 ^ N) (h0 : m ≠ 0) : ∀ (d k f : Nat) (tbl : Nat → Int32), k + d = 16 → d < f → LsOK T N tm tbl → ∃ tbl', Wi_leastFrom_o_l69 F LF (nI N) od al ot dt (nI n) (nI m) f (nI (n * 2 ^ N + m)) (nI (mnf (ca T N tm (VV T N tm r) n m) k)) (nI k) tbl = some (nI (VV T N tm (r + 1) m), tbl') ∧ LsOK T N tm tbl' := by
  have h10 := p2_10 hN
  have hb := TmB hT
  have hidx : n * 2 ^ N + m < 12288 := by
    have := Nat.mul_le_mul (show n ≤ 11 by omega) h10
    omega
  intro d
  induction d with
  | zero =>
    intro k f tbl hk hf hL
    obtain ⟨f, rfl⟩ : ∃ f', f = f' + 1 := ⟨f - 1, by omega⟩
    obtain rfl : k = 16 := by omega
    show ∃ tbl', Wi_leastFrom_o_b69 F LF (nI N) od al ot dt (nI n) (nI m) _ _ _ _ tbl = _ ∧ _
    have hk := (ca_ra hO hN hT (r := r) (by omega) hm h0).1
    rw [show tm 2 - (r + 1) = n by omega] at hk
    unfold Wi_leastFrom_o_b69 Wi_leastFrom_o_b97 Wi_leastFrom_o_b105
    rw [if_pos (show (16 : Int32) ≤ nI 16 by decide), wrN (by omega) (by omega), rdN (by omega) (by omega), upd_s, hk]
    refine ⟨_, rfl, ?_⟩
    have := LsOK_put hL (n := n) hm
    rwa [show tm 2 - n = r + 1 by omega] at this
  | succ d ih =>
    intro k f tbl hk hf hL
    obtain ⟨f, rfl⟩ : ∃ f', f = f' + 1 := ⟨f - 1, by omega⟩
    show ∃ tbl', Wi_leastFrom_o_b69 F LF (nI N) od al ot dt (nI n) (nI m) (Wi_leastFrom_o_l69 F LF (nI N) od al ot dt (nI n) (nI m) f) _ _ _ tbl = _ ∧ _
    obtain ⟨tbl', e1, e2⟩ := Wi_sumOf_ok hO hG hW hN hC hT hF hnr hLF hL hm (show k < 16 by omega)
    have c1 := ca_bd hO hN hT (r := r) hm (show n ≤ 12 by omega) k
    have c2 := mnf_top (ca T N tm (VV T N tm r) n m) k
    unfold Wi_leastFrom_o_b69
    rw [if_neg (show ¬ (16 : Int32) ≤ nI k by rw [show (16 : Int32) = nI 16 from rfl, leN (by omega) (by omega)]; omega), e1, cb2_s, mnI_ok (by omega) (by omega), show nI k + 1 = nI (k + 1) from nI_1 _]
    exact ih (k + 1) f tbl' (by omega) (by omega) e2
theorem Wi_least_ok {T : Nat → Nat} {N : Nat} {od ln lt al ot : Nat → Int32} (hO : NmOK T N od ln lt) (hG : GrOK T N 6 al) (hW : OtOK T (2 ^ N) ot) (hN : N ≤ 10) {tm : Nat → Nat} {dt : Nat → Int32} (hC : TmC tm dt) (hT : TmOK tm) {F : Nat} (hF : 100 ≤ F) : ∀ (d n : Nat), n ≤ tm 2 → tm 2 < n + d → LFok T N tm (Wi_leastFrom F (nI N) od al ot dt d) n
  | 0, n, h1, h2 => by omega
  | d + 1, n, h1, h2 => by
    intro tbl m hL hm
    have h10 := p2_10 hN
    have hb := TmB hT
    show ∃ tbl', Wi_leastFrom_o F (Wi_leastFrom F (nI N) od al ot dt d) (nI N) od al ot dt tbl (nI n) (nI m) = _ ∧ _
    unfold Wi_leastFrom_o Na_size De_nights
    by_cases h0 : m = 0
    · subst h0
      rw [if_pos (show nI 0 = 0 from rfl), VV_z]
      exact ⟨tbl, rfl, hL⟩
    · rw [if_neg (show ¬ nI m = 0 from fun hq => h0 ((nI_eq (b := 0) (by omega) (by omega)).mp hq)), cb1_s, if_neg (nI_pos (by omega)), r2, hC 2 (by omega), cb1_s]
      by_cases hn : n = tm 2
      · unfold Wi_leastFrom_o_b46
        rw [if_pos (show nI (tm 2) ≤ nI n by rw [leN (by omega) (by omega)]; omega), Wi_sumUn_ok hW hN hC hT hm, cb1_s, hn, Nat.sub_self]
        exact ⟨tbl, rfl, hL⟩
      · have hidx : n * 2 ^ N + m < 12288 := by
          have := Nat.mul_le_mul (show n ≤ 11 by omega) h10
          omega
        have hor : n * 2 ^ N ||| m = n * 2 ^ N + m := by
          rw [Nat.mul_comm]; exact (Nat.two_pow_add_eq_or_of_lt hm n).symm
        have hix : (nI n <<< (nI N &&& 31)) ||| nI m = nI (n * 2 ^ N + m) := by
          rw [(shl_t n (by omega) N (by omega)).1, bOr, hor]
        rw [if_neg (show ¬ nI (tm 2) ≤ nI n by rw [leN (by omega) (by omega)]; omega), hix, if_neg (nI_pos (by omega)), if_pos (show nI (n * 2 ^ N + m) < 12288 by rw [show (12288 : Int32) = nI 12288 from rfl, ltN (by omega) (by omega)]; omega), rdN (by omega) (by omega)]
        rcases hL n m (by omega) hm with h | h
        · rw [if_pos h]
          have ih := Wi_least_ok hO hG hW hN hC hT hF d (n + 1) (by omega) (by omega)
          obtain ⟨r, hr⟩ : ∃ r, n + r + 1 = tm 2 := ⟨tm 2 - n - 1, by omega⟩
          obtain ⟨tbl', e1, e2⟩ := Wi_acts_lp hO hG hW hN hC hT hF hr ih hm h0 16 0 F tbl rfl (by omega) hL
          rw [show tm 2 - n = r + 1 by omega]
          exact ⟨tbl', e1, e2⟩
        · unfold Wi_leastFrom_o_b105
          have hv := VV_U (T := T) tm hN (tm 2 - n) m hm
          have hu := (UU_bd hO hN hT hm).2.2
          rw [h, if_neg (ne_m1 (by omega)), rdN (by omega) (by omega), h]
          exact ⟨tbl, rfl, hL⟩
/-- the first act that costs the least, or -1 -/
def actN (T : Nat → Nat) (N : Nat) (tm : Nat → Nat) (n m : Nat) : Int32 := if m = 0 then -1 else if n < tm 2 then nI (fsi (ra T N tm (VV T N tm (tm 2 - (n + 1))) n m) 16) else -1
theorem Wi_first_lp {T : Nat → Nat} {N : Nat} {od ln lt al ot : Nat → Int32} (hO : NmOK T N od ln lt) (hG : GrOK T N 6 al) (hW : OtOK T (2 ^ N) ot) (hN : N ≤ 10) {tm : Nat → Nat} {dt : Nat → Int32} (hC : TmC tm dt) (hT : TmOK tm) {F : Nat} (hF : 100 ≤ F) {n r : Nat} (hnr : n + r + 1 = tm 2) {m : Nat} (hm : m < 2 ^ N) (h0 : m ≠ 0) : ∀ (d k f : Nat) (tbl : Nat → Int32), k + d = fsi (ra T N tm (VV T N tm r) n m) 16 → d < f → LsOK T N tm tbl → ∃ tbl', Wi_firstAct_l27 F (nI N) od al ot dt (nI n) (nI m) f (nI (VV T N tm (r + 1) m)) (nI k) tbl = some (nI (fsi (ra T N tm (VV T N tm r) n m) 16), tbl') ∧ LsOK T N tm tbl' := by
  have h10 := p2_10 hN
  have hb := TmB hT
  have hcr := (ca_ra hO hN hT (r := r) (by omega) hm h0).2
  rw [show tm 2 - (r + 1) = n by omega] at hcr
  have e1 : VV T N tm (r + 1) m = mnf (ra T N tm (VV T N tm r) n m) 16 := by rw [VV, if_neg h0, show tm 2 - (r + 1) = n by omega]
  have hlt := ra_16 hO hN hT (r := r) hm (show n ≤ 12 by omega) h0 6
  rw [show 10 + 6 = 16 from rfl] at hlt
  obtain ⟨a1, a2, a3⟩ := fsi_at hlt.1
  have hLF := Wi_least_ok hO hG hW hN hC hT hF 14 (n + 1) (by omega) (by omega)
  intro d
  induction d with
  | zero =>
    intro k f tbl hk hf hL
    obtain ⟨f, rfl⟩ : ∃ f', f = f' + 1 := ⟨f - 1, by omega⟩
    show ∃ tbl', Wi_firstAct_b27 F (nI N) od al ot dt (nI n) (nI m) _ _ _ tbl = _ ∧ _
    obtain ⟨tbl', w1, w2⟩ := Wi_sumOf_ok hO hG hW hN hC hT hF hnr hLF hL hm (show k < 16 by omega)
    have hk' : ra T N tm (VV T N tm r) n m k = VV T N tm (r + 1) m := by rw [e1, ← a2, ← hk]; rfl
    unfold Wi_firstAct_b27
    rw [if_neg (show ¬ (16 : Int32) ≤ nI k by rw [show (16 : Int32) = nI 16 from rfl, leN (by omega) (by omega)]; omega), w1, cb2_s, (hcr k (by omega)).mpr hk', if_pos rfl, show k = fsi (ra T N tm (VV T N tm r) n m) 16 by omega]
    exact ⟨tbl', rfl, w2⟩
  | succ d ih =>
    intro k f tbl hk hf hL
    obtain ⟨f, rfl⟩ : ∃ f', f = f' + 1 := ⟨f - 1, by omega⟩
    show ∃ tbl', Wi_firstAct_b27 F (nI N) od al ot dt (nI n) (nI m) (Wi_firstAct_l27 F (nI N) od al ot dt (nI n) (nI m) f) _ _ tbl = _ ∧ _
    obtain ⟨tbl', w1, w2⟩ := Wi_sumOf_ok hO hG hW hN hC hT hF hnr hLF hL hm (show k < 16 by omega)
    have h3 := a3 k (by omega)
    have c1 := ca_bd hO hN hT (r := r) hm (show n ≤ 12 by omega) k
    have hne : ¬ ca T N tm (VV T N tm r) n m k = VV T N tm (r + 1) m := fun hq => by
      have := (hcr k (by omega)).mp hq
      omega
    unfold Wi_firstAct_b27
    rw [if_neg (show ¬ (16 : Int32) ≤ nI k by rw [show (16 : Int32) = nI 16 from rfl, leN (by omega) (by omega)]; omega), w1, cb2_s, if_neg (show ¬ nI (ca T N tm (VV T N tm r) n m k) = nI (VV T N tm (r + 1) m) from fun hq => hne ((nI_eq (by omega) (by omega)).mp hq)), show nI k + 1 = nI (k + 1) from nI_1 _]
    exact ih (k + 1) f tbl' (by omega) (by omega) w2
theorem Wi_first_ok {T : Nat → Nat} {N : Nat} {od ln lt al ot : Nat → Int32} (hO : NmOK T N od ln lt) (hG : GrOK T N 6 al) (hW : OtOK T (2 ^ N) ot) (hN : N ≤ 10) {tm : Nat → Nat} {dt : Nat → Int32} (hC : TmC tm dt) (hT : TmOK tm) {F : Nat} (hF : 100 ≤ F) {n : Nat} (hn : n ≤ tm 2) {m : Nat} (hm : m < 2 ^ N) {tbl : Nat → Int32} (hL : LsOK T N tm tbl) : ∃ tbl', Wi_firstAct F (nI N) od al ot dt tbl (nI n) (nI m) = some (actN T N tm n m, tbl') ∧ LsOK T N tm tbl' := by
  have h10 := p2_10 hN
  have hb := TmB hT
  unfold Wi_firstAct De_nights actN
  by_cases h0 : m = 0
  · rw [if_pos (show nI m = 0 from congrArg nI h0), if_pos h0]
    exact ⟨tbl, rfl, hL⟩
  · rw [if_neg (show ¬ nI m = 0 from fun hq => h0 ((nI_eq (b := 0) (by omega) (by omega)).mp hq)), if_neg h0, r2, hC 2 (by omega), cb1_s]
    by_cases h : n < tm 2
    · obtain ⟨r, hr⟩ : ∃ r, n + r + 1 = tm 2 := ⟨tm 2 - n - 1, by omega⟩
      obtain ⟨tbl1, w1, w2⟩ := Wi_least_ok hO hG hW hN hC hT hF 14 n hn (by omega) tbl m hL hm
      have hlt := ra_16 hO hN hT (r := r) hm (show n ≤ 12 by omega) h0 6
      rw [show 10 + 6 = 16 from rfl] at hlt
      have a1 := (fsi_at hlt.1).1
      obtain ⟨tbl2, v1, v2⟩ := Wi_first_lp hO hG hW hN hC hT hF hr hm h0 (fsi (ra T N tm (VV T N tm r) n m) 16) 0 F tbl1 (by omega) (by omega) w2
      rw [if_pos (show nI n < nI (tm 2) by rw [ltN (by omega) (by omega)]; exact h), if_pos h, w1, cb2_s, show tm 2 - n = r + 1 by omega, show tm 2 - (n + 1) = r by omega]
      exact ⟨tbl2, v1, v2⟩
    · rw [if_neg (show ¬ nI n < nI (tm 2) by rw [ltN (by omega) (by omega)]; exact h), if_neg h]
      exact ⟨tbl, rfl, hL⟩
theorem Wi_ready_ok {T : Nat → Nat} {N : Nat} (hN : N ≤ 10) {tm : Nat → Nat} {dt : Nat → Int32} (hC : TmC tm dt) (hT : TmOK tm) {F : Nat} (hF : 13000 ≤ F) (ws : Int32) (tbl : Nat → Int32) (hL : ws = 0 → LsOK T N tm tbl) : ∃ tbl', Wi_makeReady F (nI N) dt ws tbl = some (0, tbl') ∧ LsOK T N tm tbl' := by
  have h10 := p2_10 hN
  have hb := TmB hT
  have hmul := Nat.mul_le_mul (show tm 2 ≤ 12 by omega) h10
  unfold Wi_makeReady De_nights Na_size
  by_cases h : ws = 0
  · rw [if_pos h, h]; exact ⟨tbl, rfl, hL h⟩
  · rw [if_neg h, r2, hC 2 (by omega), cb1_s, cb1_s, (shl_t (tm 2) (by omega) N (by omega)).1, show (12288 : Int32) = nI 12288 from rfl, mnI_ok (by omega) (by omega), Nat.min_eq_right (by omega)]
    have key : ∀ (d k f : Nat) (tbl : Nat → Int32), k + d = tm 2 * 2 ^ N → d < f → (∀ j, j < k → tbl j = -1) → ∃ tbl', Wi_makeReady_l38 F (nI N) dt f (nI (tm 2 * 2 ^ N)) (nI k) 0 tbl = some (0, tbl') ∧ ∀ j, j < tm 2 * 2 ^ N → tbl' j = -1 := by
      intro d
      induction d with
      | zero =>
        intro k f tbl hk hf ht
        obtain ⟨f, rfl⟩ : ∃ f', f = f' + 1 := ⟨f - 1, by omega⟩
        show ∃ tbl', Wi_makeReady_b38 F (nI N) dt _ _ _ 0 tbl = _ ∧ _
        unfold Wi_makeReady_b38
        rw [if_pos (show nI (tm 2 * 2 ^ N) ≤ nI k by rw [leN (by omega) (by omega)]; omega)]
        exact ⟨tbl, rfl, fun j hj => ht j (by omega)⟩
      | succ d ih =>
        intro k f tbl hk hf ht
        obtain ⟨f, rfl⟩ : ∃ f', f = f' + 1 := ⟨f - 1, by omega⟩
        show ∃ tbl', Wi_makeReady_b38 F (nI N) dt (Wi_makeReady_l38 F (nI N) dt f) _ _ 0 tbl = _ ∧ _
        unfold Wi_makeReady_b38
        rw [if_neg (show ¬ nI (tm 2 * 2 ^ N) ≤ nI k by rw [leN (by omega) (by omega)]; omega), wrN (by omega) (by omega), show nI k + 1 = nI (k + 1) from nI_1 _]
        refine ih (k + 1) f _ (by omega) (by omega) (fun j hj => ?_)
        by_cases e : j = k
        · subst e; rw [upd_s]
        · rw [upd_n e]; exact ht j (by omega)
    obtain ⟨tbl', e1, e2⟩ := key (tm 2 * 2 ^ N) 0 F tbl (by omega) (by omega) (fun j hj => absurd hj (Nat.not_lt_zero j))
    refine ⟨tbl', e1, fun n m hn hm => Or.inl (e2 _ ?_)⟩
    have := Nat.mul_le_mul_right (2 ^ N) (show n + 1 ≤ tm 2 by omega)
    rw [Nat.add_mul, Nat.one_mul] at this
    omega
