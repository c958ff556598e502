/-! the class's tables about NAMES: which sound alike at a place, odds together -/
def sdc (T : Nat → Nat) (k p : Nat) : Nat := if p < Ln T k then Lt T k p + 1 else 0
theorem sdc_lt (T : Nat → Nat) (k p : Nat) : sdc T k p < 7 := by
  unfold sdc; split
  · rename_i h; have := Lt_lt h; omega
  · omega
theorem Na_letterAt_ok {T : Nat → Nat} {N : Nat} {od ln lt : Nat → Int32} (hO : NmOK T N od ln lt) (hN : N ≤ 10) {k p : Nat} (hk : k < N) (hp : p < 100) : Na_letterAt (nI N) ln lt (nI k) (nI p) = some (if p < Ln T k then nI (Lt T k p) else -1) := by
  obtain ⟨-, -, -, h4, h5⟩ := hO k hk
  have hL := Ln_le T k
  unfold Na_letterAt
  rw [if_neg (nI_pos (by omega)), if_neg (show ¬ nI N ≤ nI k by rw [leN (by omega) (by omega)]; omega), if_neg (nI_pos (by omega)), rdN (by omega) (by omega), h4]
  by_cases hl : p < Ln T k
  · rw [if_pos (show nI p < nI (Ln T k) by rw [ltN (by omega) (by omega)]; exact hl), n6, mulN, nI_add, rdN (by omega) (by omega), Nat.mul_comm, h5 p hl, if_pos hl]
  · rw [if_neg (show ¬ nI p < nI (Ln T k) by rw [ltN (by omega) (by omega)]; exact hl), if_neg hl]
theorem m1_add (a : Nat) : nI (a + 1) + (-1) = nI a := pk_m1 a
theorem sdcI {T : Nat → Nat} {k p a : Nat} : nI a + (if p < Ln T k then nI (Lt T k p) else -1) + 1 = nI (a + sdc T k p) := by
  unfold sdc
  split
  · rw [nI_add, n1, nI_add]; rfl
  · rw [Int32.add_assoc, show (-1 : Int32) + 1 = 0 from rfl, Int32.add_zero]; rfl
theorem fill_loop (F cap : Nat) (hc : cap < 5000) : ∀ (m j f : Nat) (w : Nat → Int32), j + m = cap → m < f → (∀ q, q < j → w q = 0) → ∃ w', Jarr_fill_l5 F cap 0 f (nI j) (nI cap) w = some w' ∧ ∀ q, q < cap → w' q = 0 := by
  intro m
  induction m with
  | zero =>
    intro j f w hj hf hO
    obtain ⟨f, rfl⟩ : ∃ f', f = f' + 1 := ⟨f - 1, by omega⟩
    show ∃ w', Jarr_fill_b5 F cap 0 _ (nI j) (nI cap) w = _ ∧ _
    unfold Jarr_fill_b5
    rw [if_pos (show nI cap ≤ nI j by rw [leN (by omega) (by omega)]; omega)]
    exact ⟨w, rfl, fun q hq => hO q (by omega)⟩
  | succ m ih =>
    intro j f w hj hf hO
    obtain ⟨f, rfl⟩ : ∃ f', f = f' + 1 := ⟨f - 1, by omega⟩
    show ∃ w', Jarr_fill_b5 F cap 0 (Jarr_fill_l5 F cap 0 f) (nI j) (nI cap) w = _ ∧ _
    unfold Jarr_fill_b5
    rw [if_neg (show ¬ nI cap ≤ nI j by rw [leN (by omega) (by omega)]; omega), wrN (by omega) (by omega), show nI j + 1 = nI (j + 1) from nI_1 _]
    refine ih (j + 1) f _ (by omega) (by omega) (fun q hq => ?_)
    by_cases e : q = j
    · subst e; exact upd_s _ _ _
    · rw [upd_n e]; exact hO q (by omega)
theorem fill0 {F cap : Nat} (hc : cap < 5000) (hF : cap < F) (w : Nat → Int32) : ∃ w', Jarr_fill F cap w 0 = some w' ∧ ∀ q, q < cap → w' q = 0 := by
  unfold Jarr_fill
  exact fill_loop F cap hc cap 0 F w (by omega) hF (fun q hq => absurd hq (Nat.not_lt_zero q))
/-- the rows of places below p are done -/
def GrOK (T : Nat → Nat) (N p : Nat) (a : Nat → Int32) : Prop := (∀ p', p' < p → ∀ c, c < 7 → a (7 * p' + c) = nI (bo (fun k => sdc T k p' == c) N)) ∧ ∀ q, 7 * p ≤ q → q < 42 → a q = 0
theorem gr_row {T : Nat → Nat} {N : Nat} {od ln lt : Nat → Int32} (hO : NmOK T N od ln lt) (hN : N ≤ 10) (F : Nat) (rec : Int32 → (Nat → Int32) → Option (Nat → Int32)) {p : Nat} (hp : p < 6) : ∀ (m k f : Nat) (a : Nat → Int32), k + m = N → m < f →
    (∀ p', p' < p → ∀ c, c < 7 → a (7 * p' + c) = nI (bo (fun k => sdc T k p' == c) N)) → (∀ c, c < 7 → a (7 * p + c) = nI (bo (fun k => sdc T k p == c) k)) → (∀ q, 7 * (p + 1) ≤ q → q < 42 → a q = 0) →
    ∃ a', Na_groupBySound_l18 F (nI N) ln lt rec f (nI p) (nI k) a = rec (nI (p + 1)) a' ∧ GrOK T N (p + 1) a' := by
  intro m
  induction m with
  | zero =>
    intro k f a hk hf h1 h2 h3
    obtain ⟨f, rfl⟩ : ∃ f', f = f' + 1 := ⟨f - 1, by omega⟩
    show ∃ a', Na_groupBySound_b18 F (nI N) ln lt rec _ (nI p) (nI k) a = _ ∧ _
    unfold Na_groupBySound_b18 Na_groupBySound_b56
    rw [if_pos (show nI N ≤ nI k by rw [leN (by omega) (by omega)]; omega), show nI p + 1 = nI (p + 1) from nI_1 _]
    refine ⟨a, rfl, fun p' hp' c hc => ?_, h3⟩
    by_cases e : p' = p
    · subst e; rw [h2 c hc, show k = N by omega]
    · exact h1 p' (by omega) c hc
  | succ m ih =>
    intro k f a hk hf h1 h2 h3
    obtain ⟨f, rfl⟩ : ∃ f', f = f' + 1 := ⟨f - 1, by omega⟩
    show ∃ a', Na_groupBySound_b18 F (nI N) ln lt rec (Na_groupBySound_l18 F (nI N) ln lt rec f) (nI p) (nI k) a = _ ∧ _
    unfold Na_groupBySound_b18
    have hs := sdc_lt T k p
    rw [if_neg (show ¬ nI N ≤ nI k by rw [leN (by omega) (by omega)]; omega), Na_letterAt_ok hO hN (by omega) (by omega), cb1_s, n7, mulN, sdcI, rdN (by omega) (by omega), wrN (by omega) (by omega), sh1 k (by omega), show nI k + 1 = nI (k + 1) from nI_1 _]
    refine ih (k + 1) f _ (by omega) (by omega) (fun p' hp' c hc => ?_) (fun c hc => ?_) (fun q hq1 hq2 => ?_)
    · rw [upd_n (by omega)]; exact h1 p' hp' c hc
    · by_cases e : c = sdc T k p
      · subst e
        rw [show 7 * p + sdc T k p = p * 7 + sdc T k p by omega, upd_s, show p * 7 + sdc T k p = 7 * p + sdc T k p by omega, h2 _ hc]
        exact bo_orI (by simp)
      · rw [upd_n (by omega), h2 c hc, bo_no]
        simp; omega
    · rw [upd_n (by omega)]; exact h3 q hq1 hq2
theorem gr_loop {T : Nat → Nat} {N : Nat} {od ln lt : Nat → Int32} (hO : NmOK T N od ln lt) (hN : N ≤ 10) {F : Nat} (hF : 100 ≤ F) : ∀ (m p f : Nat) (a : Nat → Int32), p + m = 6 → m < f → GrOK T N p a → ∃ a', Na_groupBySound_l10 F (nI N) ln lt f (nI p) a = some a' ∧ GrOK T N 6 a' := by
  intro m
  induction m with
  | zero =>
    intro p f a hp hf hG
    obtain ⟨f, rfl⟩ : ∃ f', f = f' + 1 := ⟨f - 1, by omega⟩
    show ∃ a', Na_groupBySound_b10 F (nI N) ln lt _ (nI p) a = _ ∧ _
    unfold Na_groupBySound_b10
    rw [n6, if_pos (show nI 6 ≤ nI p by rw [leN (by omega) (by omega)]; omega)]
    exact ⟨a, rfl, by rw [show (6 : Nat) = p by omega]; exact hG⟩
  | succ m ih =>
    intro p f a hp hf hG
    obtain ⟨f, rfl⟩ : ∃ f', f = f' + 1 := ⟨f - 1, by omega⟩
    show ∃ a', Na_groupBySound_b10 F (nI N) ln lt (Na_groupBySound_l10 F (nI N) ln lt f) (nI p) a = _ ∧ _
    unfold Na_groupBySound_b10
    rw [n6, if_neg (show ¬ nI 6 ≤ nI p by rw [leN (by omega) (by omega)]; omega)]
    obtain ⟨a', e1, e2⟩ := gr_row hO hN F (Na_groupBySound_l10 F (nI N) ln lt f) (p := p) (by omega) N 0 F a (by omega) (by omega) hG.1 (fun c hc => hG.2 _ (by omega) (by omega)) (fun q h1 h2 => hG.2 q (by omega) h2)
    rw [n0, e1]
    exact ih (p + 1) f a' (by omega) (by omega) e2
theorem Na_group_ok {T : Nat → Nat} {N : Nat} {od ln lt : Nat → Int32} (hO : NmOK T N od ln lt) (hN : N ≤ 10) {F : Nat} (hF : 100 ≤ F) (a : Nat → Int32) : ∃ a', Na_groupBySound F (nI N) ln lt a = some a' ∧ GrOK T N 6 a' := by
  obtain ⟨w, e1, e2⟩ := fill0 (cap := 42) (by omega) (show 42 < F by omega) a
  unfold Na_groupBySound
  rw [e1, cb1_s]
  exact gr_loop hO hN hF 6 0 F w rfl (by omega) ⟨fun p' hp' => absurd hp' (Nat.not_lt_zero p'), fun q _ h2 => e2 q h2⟩
/-- odds of all sets of the first k names -/
def OtOK (T : Nat → Nat) (M : Nat) (o : Nat → Int32) : Prop := ∀ m, m < M → o m = nI (wt (Od T) m 10)
theorem wt_10 {od : Nat → Nat} {m k : Nat} (hm : m < 2 ^ k) (hk : k ≤ 10) : wt od m 10 = wt od m k := by
  have h := wt_more (od := od) hm (10 - k)
  rw [show k + (10 - k) = 10 by omega] at h
  exact h
theorem ot_row {T : Nat → Nat} {N : Nat} {od ln lt : Nat → Int32} (hO : NmOK T N od ln lt) (hN : N ≤ 10) (F : Nat) (rec : Int32 → (Nat → Int32) → Option (Nat → Int32)) {k : Nat} (hk : k < N) : ∀ (m j f : Nat) (o : Nat → Int32), j + m = 2 ^ k → m < f → OtOK T (2 ^ k + j) o →
    ∃ o', Na_addOdds_l16 F (nI N) od rec f (nI k) (nI (2 ^ k)) (nI j) o = rec (nI (k + 1)) o' ∧ OtOK T (2 ^ (k + 1)) o' := by
  have hp : 2 ^ k < 2 ^ 10 := p2_lt (by omega)
  have hp2 : 2 ^ k * 2 ≤ 2 ^ 10 := by rw [← Nat.pow_succ]; exact p2_le (by omega)
  intro m
  induction m with
  | zero =>
    intro j f o hj hf hOt
    obtain ⟨f, rfl⟩ : ∃ f', f = f' + 1 := ⟨f - 1, by omega⟩
    show ∃ o', Na_addOdds_b16 F (nI N) od rec _ (nI k) (nI (2 ^ k)) (nI j) o = _ ∧ _
    unfold Na_addOdds_b16 Na_addOdds_b48
    rw [if_pos (show nI (2 ^ k) ≤ nI j by rw [leN (by omega) (by omega)]; omega), show nI k + 1 = nI (k + 1) from nI_1 _]
    exact ⟨o, rfl, by rw [show 2 ^ (k + 1) = 2 ^ k + j by rw [Nat.pow_succ]; omega]; exact hOt⟩
  | succ m ih =>
    intro j f o hj hf hOt
    obtain ⟨f, rfl⟩ : ∃ f', f = f' + 1 := ⟨f - 1, by omega⟩
    show ∃ o', Na_addOdds_b16 F (nI N) od rec (Na_addOdds_l16 F (nI N) od rec f) (nI k) (nI (2 ^ k)) (nI j) o = _ ∧ _
    unfold Na_addOdds_b16
    have e : 2 ^ k ||| j = 2 ^ k + j := by
      have := Nat.two_pow_add_eq_or_of_lt (show j < 2 ^ k by omega) 1
      rw [Nat.mul_one] at this; exact this.symm
    rw [if_neg (show ¬ nI (2 ^ k) ≤ nI j by rw [leN (by omega) (by omega)]; omega), rdN (by omega) (by omega), rdN (by omega) (by omega), show nI (2 ^ k) ||| nI j = nI (2 ^ k + j) by rw [bOr, e], wrN (by omega) (by omega), show nI j + 1 = nI (j + 1) from nI_1 _]
    refine ih (j + 1) f _ (by omega) (by omega) (fun q hq => ?_)
    by_cases eq : q = 2 ^ k + j
    · subst eq
      rw [upd_s, hOt j (by omega), (hO k hk).2.2.1, nI_add, wt_10 (m := 2 ^ k + j) (k := k + 1) (by rw [Nat.pow_succ]; omega) (by omega), wt_add (by omega), wt_10 (m := j) (k := k) (by omega) (by omega)]
    · rw [upd_n eq]; exact hOt q (by omega)
theorem ot_loop {T : Nat → Nat} {N : Nat} {od ln lt : Nat → Int32} (hO : NmOK T N od ln lt) (hN : N ≤ 10) {F : Nat} (hF : 2000 ≤ F) : ∀ (m k f : Nat) (o : Nat → Int32), k + m = N → m < f → OtOK T (2 ^ k) o → ∃ o', Na_addOdds_l2 F (nI N) od f (nI k) o = some o' ∧ OtOK T (2 ^ N) o' := by
  intro m
  induction m with
  | zero =>
    intro k f o hk hf hOt
    obtain ⟨f, rfl⟩ : ∃ f', f = f' + 1 := ⟨f - 1, by omega⟩
    show ∃ o', Na_addOdds_b2 F (nI N) od _ (nI k) o = _ ∧ _
    unfold Na_addOdds_b2
    rw [if_pos (show nI N ≤ nI k by rw [leN (by omega) (by omega)]; omega)]
    exact ⟨o, rfl, by rw [show N = k by omega]; exact hOt⟩
  | succ m ih =>
    intro k f o hk hf hOt
    obtain ⟨f, rfl⟩ : ∃ f', f = f' + 1 := ⟨f - 1, by omega⟩
    show ∃ o', Na_addOdds_b2 F (nI N) od (Na_addOdds_l2 F (nI N) od f) (nI k) o = _ ∧ _
    unfold Na_addOdds_b2
    have hp : 2 ^ k < 2 ^ 10 := p2_lt (by omega)
    rw [if_neg (show ¬ nI N ≤ nI k by rw [leN (by omega) (by omega)]; omega), sh1 k (by omega)]
    obtain ⟨o', e1, e2⟩ := ot_row hO hN F (Na_addOdds_l2 F (nI N) od f) (k := k) (by omega) (2 ^ k) 0 F o (by omega) (by omega) hOt
    rw [n0, e1]
    exact ih (k + 1) f o' (by omega) (by omega) e2
theorem Na_addOdds_ok {T : Nat → Nat} {N : Nat} {od ln lt : Nat → Int32} (hO : NmOK T N od ln lt) (hN : N ≤ 10) {F : Nat} (hF : 2000 ≤ F) (o : Nat → Int32) (h0 : o 0 = 0) : ∃ o', Na_addOdds F (nI N) od o = some o' ∧ OtOK T (2 ^ N) o' := by
  unfold Na_addOdds
  refine ot_loop hO hN hF N 0 F o (by omega) (by omega) (fun m hm => ?_)
  have : m = 0 := by have : (2 : Nat) ^ 0 = 1 := rfl; omega
  subst this
  rw [h0, wt_10 (k := 0) (by decide) (by omega)]; rfl
/-- NAMES as the class has them behind a parse -/
def NA (T : Nat → Nat) (n : Nat) (sz fa : Int32) (od ln lt al ot : Nat → Int32) : Prop := sz = nI (pN T n).2 ∧ fa = fI (pN T n).1 ∧ NmOK T (pN T n).2 od ln lt ∧ GrOK T (pN T n).2 6 al ∧ OtOK T (2 ^ (pN T n).2) ot
theorem cb7_dummy : True := trivial
theorem Na_parse_ok {T : Nat → Nat} {n cap : Nat} {b : Nat → Int32} (h : TX T n cap b) {F : Nat} (hF : 2000 ≤ F) (sz0 fa0 : Int32) (od ln lt al ot : Nat → Int32) (h0 : ot 0 = 0) :
    ∃ (sz fa : Int32) (od' ln' lt' al' ot' : Nat → Int32), Na_parse F cap (nI n) b sz0 fa0 od ln lt al ot = some (sz, fa, od', ln', lt', al', ot') ∧ NA T n sz fa od' ln' lt' al' ot' := by
  obtain ⟨sz, od', ln', lt', e1, e2⟩ := Na_scan_ok h (show 100 ≤ F by omega) od ln lt
  unfold Na_parse
  rw [e1, cb5_s]
  have key : ∀ (od' ln' lt' : Nat → Int32), NmOK T (pN T n).2 od' ln' lt' → ∃ (sz fa : Int32) (od'' ln'' lt'' al' ot' : Nat → Int32), Na_parse_b27 F cap (nI n) b (nI (pN T n).2) (fI (pN T n).1) od' ln' lt' al ot = some (sz, fa, od'', ln'', lt'', al', ot') ∧ NA T n sz fa od'' ln'' lt'' al' ot' := by
    intro od' ln' lt' hO
    unfold Na_parse_b27
    obtain ⟨a', f1, f2⟩ := Na_group_ok hO pN_le (show 100 ≤ F by omega) al
    obtain ⟨o', g1, g2⟩ := Na_addOdds_ok hO pN_le hF ot h0
    rw [f1, cb1_s, g1, cb1_s]
    exact ⟨_, _, _, _, _, _, _, rfl, rfl, rfl, hO, f2, g2⟩
  by_cases hf : (pN T n).1 = 1000
  · rw [if_pos (show fI (pN T n).1 = -1 by rw [fI_m1 pN_f]; exact hf), (e2 hf).1]
    exact key _ _ _ (e2 hf).2
  · rw [if_neg (show ¬ fI (pN T n).1 = -1 by rw [fI_m1 pN_f]; exact hf)]
    have hz := pN_0 hf
    have := key od' ln' lt' (by rw [hz]; exact fun i hi => absurd hi (Nat.not_lt_zero i))
    rw [hz] at this; exact this
