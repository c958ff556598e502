/-! which NAMES a PIECE fits, THE SONG fits: both sides -/
def allB (p : Nat → Bool) : Nat → Bool
  | 0 => true
  | n + 1 => allB p n && p n
def anyB (p : Nat → Bool) : Nat → Bool
  | 0 => false
  | n + 1 => anyB p n || p n
theorem anyB_iff {p : Nat → Bool} : ∀ {n : Nat}, anyB p n = true ↔ ∃ i, i < n ∧ p i = true
  | 0 => ⟨fun h => absurd h (by simp [anyB]), fun ⟨i, h, _⟩ => absurd h (Nat.not_lt_zero i)⟩
  | n + 1 => by
    rw [anyB, Bool.or_eq_true, anyB_iff]
    constructor
    · rintro (⟨i, h1, h2⟩ | h)
      · exact ⟨i, by omega, h2⟩
      · exact ⟨n, by omega, h⟩
    · rintro ⟨i, h1, h2⟩
      by_cases e : i = n
      · subst e; exact Or.inr h2
      · exact Or.inl ⟨i, by omega, h2⟩
theorem allB_iff {p : Nat → Bool} : ∀ {n : Nat}, allB p n = true ↔ ∀ i, i < n → p i = true
  | 0 => ⟨fun _ i h => absurd h (Nat.not_lt_zero i), fun _ => rfl⟩
  | n + 1 => by
    rw [allB, Bool.and_eq_true, allB_iff]
    constructor
    · rintro ⟨h1, h2⟩ i hi
      by_cases e : i = n
      · subst e; exact h2
      · exact h1 i (by omega)
    · intro h; exact ⟨fun i hi => h i (by omega), h n (by omega)⟩
theorem bI_0 {b : Bool} : (bI b = 0) = (b = false) := by cases b <;> exact propext ⟨fun h => by first | rfl | exact absurd h (by decide), fun h => by first | rfl | cases h⟩
theorem bI_eq {a b : Bool} : (bI a = bI b) = (a = b) := by cases a <;> cases b <;> exact propext ⟨fun h => by first | rfl | exact absurd h (by decide), fun h => by first | rfl | cases h⟩
theorem bI_01 (b : Bool) : bI b = 0 ∨ bI b = 1 := by cases b <;> simp [bI]
def hitB (T Tp : Nat → Nat) (k q s : Nat) : Bool := allB (fun i => Lt T k (s + i) == Pt Tp q i) (Pl Tp q)
def heardB (T Tp : Nat → Nat) (k q : Nat) : Bool := anyB (hitB T Tp k q) (Ln T k + 1 - Pl Tp q) == Ps Tp q
theorem Na_lengthOf_ok {T : Nat → Nat} {N : Nat} {od ln lt : Nat → Int32} (hO : NmOK T N od ln lt) (hN : N ≤ 10) {k : Nat} (hk : k < N) : Na_lengthOf (nI N) ln (nI k) = some (nI (Ln T k)) := by
  unfold Na_lengthOf
  rw [if_neg (nI_pos (by omega)), if_neg (show ¬ nI N ≤ nI k by rw [leN (by omega) (by omega)]; omega), rdN (by omega) (by omega), (hO k hk).2.2.2.1]
theorem Na_oddsOf_ok {T : Nat → Nat} {N : Nat} {od ln lt : Nat → Int32} (hO : NmOK T N od ln lt) (hN : N ≤ 10) {k : Nat} (hk : k < N) : Na_oddsOf (nI N) od (nI k) = some (nI (Od T k)) := by
  unfold Na_oddsOf
  rw [if_neg (nI_pos (by omega)), if_neg (show ¬ nI N ≤ nI k by rw [leN (by omega) (by omega)]; omega), rdN (by omega) (by omega), (hO k hk).2.2.1]
theorem Pi_isAt_loop {T Tp : Nat → Nat} {N P : Nat} {od ln lt is pn pl : Nat → Int32} (hO : NmOK T N od ln lt) (hN : N ≤ 10) (hP : PcOK Tp P is pn pl) (hP6 : P ≤ 6) (F : Nat) {k q s : Nat} (hk : k < N) (hq : q < P) (hs : s + Pl Tp q ≤ Ln T k) : ∀ (m i f : Nat), i + m = Pl Tp q → m < f → allB (fun i => Lt T k (s + i) == Pt Tp q i) i = true → Pi_isAt_l3 F pn pl (nI N) ln lt (nI q) (nI k) (nI s) f (nI i) = some (bI (hitB T Tp k q s)) := by
  have hL := Ln_le T k
  have hPl := Pl_le Tp q
  intro m
  induction m with
  | zero =>
    intro i f hi hf hA
    obtain ⟨f, rfl⟩ : ∃ f', f = f' + 1 := ⟨f - 1, by omega⟩
    show Pi_isAt_b3 F pn pl (nI N) ln lt (nI q) (nI k) (nI s) _ (nI i) = _
    unfold Pi_isAt_b3 hitB
    rw [rdN (by omega) (by omega), (hP q hq).2.2.1, if_pos (show nI (Pl Tp q) ≤ nI i by rw [leN (by omega) (by omega)]; omega), show Pl Tp q = i by omega, hA]
    rfl
  | succ m ih =>
    intro i f hi hf hA
    obtain ⟨f, rfl⟩ : ∃ f', f = f' + 1 := ⟨f - 1, by omega⟩
    show Pi_isAt_b3 F pn pl (nI N) ln lt (nI q) (nI k) (nI s) (Pi_isAt_l3 F pn pl (nI N) ln lt (nI q) (nI k) (nI s) f) (nI i) = _
    unfold Pi_isAt_b3
    rw [rdN (by omega) (by omega), (hP q hq).2.2.1, if_neg (show ¬ nI (Pl Tp q) ≤ nI i by rw [leN (by omega) (by omega)]; omega), nI_add, Na_letterAt_ok hO hN hk (by omega), cb1_s, if_pos (show s + i < Ln T k by omega), n3, mulN, nI_add, rdN (by omega) (by omega), show q * 3 + i = 3 * q + i by omega, (hP q hq).2.2.2 i (by omega), show nI i + 1 = nI (i + 1) from nI_1 _]
    have h6 := Lt_lt (show s + i < Ln T k by omega)
    have h7 := Pt_lt (show i < Pl Tp q by omega)
    by_cases e : Lt T k (s + i) = Pt Tp q i
    · rw [if_pos (show nI (Lt T k (s + i)) = nI (Pt Tp q i) by rw [e])]
      exact ih (i + 1) f (by omega) (by omega) (by rw [allB, hA]; simp [e])
    · rw [if_neg (show ¬ nI (Lt T k (s + i)) = nI (Pt Tp q i) by rw [eqN (by omega) (by omega)]; exact e)]
      have : hitB T Tp k q s = false := by
        rw [Bool.eq_false_iff]; intro h
        have := allB_iff.mp h i (by omega)
        simp at this; exact e this
      rw [this]; rfl
theorem Pi_true_loop {T Tp : Nat → Nat} {N P : Nat} {od ln lt is pn pl : Nat → Int32} (hO : NmOK T N od ln lt) (hN : N ≤ 10) (hP : PcOK Tp P is pn pl) (hP6 : P ≤ 6) {F : Nat} (hF : 100 ≤ F) {k q : Nat} (hk : k < N) (hq : q < P) (hle : Pl Tp q ≤ Ln T k) : ∀ (m j f : Nat), j + m = Ln T k + 1 - Pl Tp q → m < f → anyB (hitB T Tp k q) j = false → Pi_isTrueOf_l31 F (nI P) is pn pl (nI N) ln lt (nI q) (nI k) f (nI (Ln T k - Pl Tp q)) (nI j) = some (bI (heardB T Tp k q)) := by
  have hL := Ln_le T k
  have hPl := Pl_le Tp q
  intro m
  induction m with
  | zero =>
    intro j f hj hf hA
    obtain ⟨f, rfl⟩ : ∃ f', f = f' + 1 := ⟨f - 1, by omega⟩
    show Pi_isTrueOf_b31 F (nI P) is pn pl (nI N) ln lt (nI q) (nI k) _ (nI (Ln T k - Pl Tp q)) (nI j) = _
    unfold Pi_isTrueOf_b31 Pi_isTrueOf_b63
    rw [if_pos (show nI (Ln T k - Pl Tp q) < nI j by rw [ltN (by omega) (by omega)]; omega), rdN (by omega) (by omega), (hP q hq).2.1]
    have e : heardB T Tp k q = !Ps Tp q := by
      unfold heardB
      rw [show Ln T k + 1 - Pl Tp q = j by omega, hA]
      cases Ps Tp q <;> rfl
    rw [e]
    cases Ps Tp q <;> rfl
  | succ m ih =>
    intro j f hj hf hA
    obtain ⟨f, rfl⟩ : ∃ f', f = f' + 1 := ⟨f - 1, by omega⟩
    show Pi_isTrueOf_b31 F (nI P) is pn pl (nI N) ln lt (nI q) (nI k) (Pi_isTrueOf_l31 F (nI P) is pn pl (nI N) ln lt (nI q) (nI k) f) (nI (Ln T k - Pl Tp q)) (nI j) = _
    unfold Pi_isTrueOf_b31 Pi_isTrueOf_b50 Pi_isAt
    rw [if_neg (show ¬ nI (Ln T k - Pl Tp q) < nI j by rw [ltN (by omega) (by omega)]; omega), n0, Pi_isAt_loop hO hN hP hP6 F hk hq (s := j) (by omega) (Pl Tp q) 0 F (by omega) (by omega) rfl, cb1_s, show nI j + 1 = nI (j + 1) from nI_1 _]
    cases hh : hitB T Tp k q j
    · rw [if_pos (show bI false = nI 0 from rfl)]
      exact ih (j + 1) f (by omega) (by omega) (by rw [anyB, hA, hh]; rfl)
    · rw [if_neg (show ¬ bI true = nI 0 by decide), rdN (by omega) (by omega), (hP q hq).2.1, gd_s (by exact bI_01 _)]
      have e : heardB T Tp k q = Ps Tp q := by
        unfold heardB
        rw [anyB_iff.mpr ⟨j, by omega, hh⟩]
        cases Ps Tp q <;> rfl
      rw [e]
theorem Pi_isTrueOf_ok {T Tp : Nat → Nat} {N P : Nat} {od ln lt is pn pl : Nat → Int32} (hO : NmOK T N od ln lt) (hN : N ≤ 10) (hP : PcOK Tp P is pn pl) (hP6 : P ≤ 6) {F : Nat} (hF : 100 ≤ F) {k q : Nat} (hk : k < N) (hq : q < P) : Pi_isTrueOf F (nI P) is pn pl (nI N) ln lt (nI q) (nI k) = some (bI (heardB T Tp k q)) := by
  have hL := Ln_le T k
  have hPl := Pl_le Tp q
  unfold Pi_isTrueOf
  rw [if_neg (nI_pos (by omega)), if_pos (show nI q < nI P by rw [ltN (by omega) (by omega)]; exact hq), Na_lengthOf_ok hO hN hk, cb1_s, rdN (by omega) (by omega), (hP q hq).2.2.1]
  by_cases hle : Pl Tp q ≤ Ln T k
  · rw [subN hle]
    exact Pi_true_loop hO hN hP hP6 hF hk hq hle _ 0 F (Nat.zero_add _) (by omega) rfl
  · obtain ⟨f, rfl⟩ : ∃ f', F = f' + 1 := ⟨F - 1, by omega⟩
    show Pi_isTrueOf_b31 (f + 1) (nI P) is pn pl (nI N) ln lt (nI q) (nI k) _ (nI (Ln T k) - nI (Pl Tp q)) 0 = _
    unfold Pi_isTrueOf_b31 Pi_isTrueOf_b63
    rw [if_pos (pk_sneg (by omega) (by omega)), rdN (by omega) (by omega), (hP q hq).2.1]
    have e : heardB T Tp k q = !Ps Tp q := by
      unfold heardB
      rw [show Ln T k + 1 - Pl Tp q = 0 by omega]
      show (false == Ps Tp q) = _
      cases Ps Tp q <;> rfl
    rw [e]
    cases Ps Tp q <;> rfl
theorem Mo_heard_row {T Tp : Nat → Nat} {N P : Nat} {od ln lt is pn pl : Nat → Int32} (hO : NmOK T N od ln lt) (hN : N ≤ 10) (hP : PcOK Tp P is pn pl) (hP6 : P ≤ 6) (F : Nat) (rec : Int32 → Int32 → Option Int32) {k q s : Nat} (hk : k < N) (hq : q < P) (hs : s + Pl Tp q ≤ Ln T k) (t : Bool) : ∀ (m i f : Nat) (a : Bool), i + m = Pl Tp q → m < f → a = allB (fun i => Lt T k (s + i) == Pt Tp q i) i → Mo_isHeard_l29 F ln lt is pn pl (nI k) (nI q) rec f (bI t) (nI s) (bI a) (nI i) = rec (bI (t || hitB T Tp k q s)) (nI (s + 1)) := by
  have hL := Ln_le T k
  have hPl := Pl_le Tp q
  intro m
  induction m with
  | zero =>
    intro i f a hi hf hA
    obtain ⟨f, rfl⟩ : ∃ f', f = f' + 1 := ⟨f - 1, by omega⟩
    show Mo_isHeard_b29 F ln lt is pn pl (nI k) (nI q) rec _ (bI t) (nI s) (bI a) (nI i) = _
    unfold Mo_isHeard_b29 Mo_isHeard_b87 Mo_isHeard_b96 Mo_isHeard_b101
    rw [rdN (by omega) (by omega), (hP q hq).2.2.1, if_pos (show nI (Pl Tp q) ≤ nI i by rw [leN (by omega) (by omega)]; omega), show nI s + 1 = nI (s + 1) from nI_1 _]
    have e : hitB T Tp k q s = a := by rw [hA, hitB, show Pl Tp q = i by omega]
    rw [e]
    cases t <;> cases a <;> rfl
  | succ m ih =>
    intro i f a hi hf hA
    obtain ⟨f, rfl⟩ : ∃ f', f = f' + 1 := ⟨f - 1, by omega⟩
    show Mo_isHeard_b29 F ln lt is pn pl (nI k) (nI q) rec (Mo_isHeard_l29 F ln lt is pn pl (nI k) (nI q) rec f) (bI t) (nI s) (bI a) (nI i) = _
    unfold Mo_isHeard_b29 Mo_isHeard_b78 Mo_isHeard_b79
    rw [rdN (by omega) (by omega), (hP q hq).2.2.1, if_neg (show ¬ nI (Pl Tp q) ≤ nI i by rw [leN (by omega) (by omega)]; omega), show nI i + 1 = nI (i + 1) from nI_1 _]
    cases a with
    | false =>
      rw [if_pos (show bI false = 0 from rfl)]
      exact ih (i + 1) f false (by omega) (by omega) (by rw [allB, ← hA]; rfl)
    | true =>
      rw [if_neg (show ¬ bI true = 0 by decide), n6, n3, mulN, nI_add, nI_add, rdN (by omega) (by omega), mulN, nI_add, rdN (by omega) (by omega), show 6 * k + s + i = 6 * k + (s + i) by omega, (hO k hk).2.2.2.2 (s + i) (by omega), (hP q hq).2.2.2 i (by omega)]
      have h6 := Lt_lt (show s + i < Ln T k by omega)
      have h7 := Pt_lt (show i < Pl Tp q by omega)
      by_cases e : Lt T k (s + i) = Pt Tp q i
      · rw [if_pos (show nI (Lt T k (s + i)) = nI (Pt Tp q i) by rw [e])]
        exact ih (i + 1) f true (by omega) (by omega) (by rw [allB, ← hA]; simp [e])
      · rw [if_neg (show ¬ nI (Lt T k (s + i)) = nI (Pt Tp q i) by rw [eqN (by omega) (by omega)]; exact e)]
        exact ih (i + 1) f false (by omega) (by omega) (by rw [allB, ← hA]; simp [e])
theorem Mo_heard_loop {T Tp : Nat → Nat} {N P : Nat} {od ln lt is pn pl : Nat → Int32} (hO : NmOK T N od ln lt) (hN : N ≤ 10) (hP : PcOK Tp P is pn pl) (hP6 : P ≤ 6) {F : Nat} (hF : 100 ≤ F) {k q : Nat} (hk : k < N) (hq : q < P) : ∀ (m j f : Nat), j + m = Ln T k + 1 - Pl Tp q → m < f → Mo_isHeard_l5 F ln lt is pn pl (nI k) (nI q) f (bI (anyB (hitB T Tp k q) j)) (nI j) = some (bI (heardB T Tp k q)) := by
  have hL := Ln_le T k
  have hPl := Pl_le Tp q
  intro m
  induction m with
  | zero =>
    intro j f hj hf
    obtain ⟨f, rfl⟩ : ∃ f', f = f' + 1 := ⟨f - 1, by omega⟩
    show Mo_isHeard_b5 F ln lt is pn pl (nI k) (nI q) _ _ (nI j) = _
    unfold Mo_isHeard_b5 Mo_isHeard_b108
    rw [rdN (by omega) (by omega), rdN (by omega) (by omega), (hP q hq).2.2.1, (hO k hk).2.2.2.1, nI_add, if_pos (show nI (Ln T k) < nI (j + Pl Tp q) by rw [ltN (by omega) (by omega)]; omega), rdN (by omega) (by omega), (hP q hq).2.1]
    have e : heardB T Tp k q = (anyB (hitB T Tp k q) j == Ps Tp q) := by
      unfold heardB; rw [show Ln T k + 1 - Pl Tp q = j by omega]
    rw [e]
    cases anyB (hitB T Tp k q) j <;> cases Ps Tp q <;> rfl
  | succ m ih =>
    intro j f hj hf
    obtain ⟨f, rfl⟩ : ∃ f', f = f' + 1 := ⟨f - 1, by omega⟩
    show Mo_isHeard_b5 F ln lt is pn pl (nI k) (nI q) (Mo_isHeard_l5 F ln lt is pn pl (nI k) (nI q) f) _ (nI j) = _
    unfold Mo_isHeard_b5
    rw [rdN (by omega) (by omega), rdN (by omega) (by omega), (hP q hq).2.2.1, (hO k hk).2.2.2.1, nI_add, if_neg (show ¬ nI (Ln T k) < nI (j + Pl Tp q) by rw [ltN (by omega) (by omega)]; omega)]
    have := Mo_heard_row hO hN hP hP6 F (Mo_isHeard_l5 F ln lt is pn pl (nI k) (nI q) f) hk hq (s := j) (by omega) (anyB (hitB T Tp k q) j) (Pl Tp q) 0 F true (by omega) (by omega) rfl
    show Mo_isHeard_l29 F ln lt is pn pl (nI k) (nI q) (Mo_isHeard_l5 F ln lt is pn pl (nI k) (nI q) f) F (bI (anyB (hitB T Tp k q) j)) (nI j) (bI true) (nI 0) = _
    rw [this]
    exact ih (j + 1) f (by omega) (by omega)
theorem Mo_isHeard_ok {T Tp : Nat → Nat} {N P : Nat} {od ln lt is pn pl : Nat → Int32} (hO : NmOK T N od ln lt) (hN : N ≤ 10) (hP : PcOK Tp P is pn pl) (hP6 : P ≤ 6) {F : Nat} (hF : 100 ≤ F) {k q : Nat} (hk : k < N) (hq : q < P) : Mo_isHeard F ln lt is pn pl (nI k) (nI q) = some (bI (heardB T Tp k q)) := by
  have hL := Ln_le T k
  exact Mo_heard_loop hO hN hP hP6 hF hk hq (Ln T k + 1 - Pl Tp q) 0 F (by omega) (by omega)
/-! THE SONG -/
def sungAt (T Ts : Nat → Nat) (k i : Nat) : Bool := !decide (lc (Ts i) < 6) || lc (Ts i) == Lt T k i
def sungB (T Ts : Nat → Nat) (S k : Nat) : Bool := S == 0 || (S == Ln T k && allB (sungAt T Ts k) S)
theorem So_true_loop {T Ts : Nat → Nat} {N S : Nat} {od ln lt sg : Nat → Int32} (hO : NmOK T N od ln lt) (hN : N ≤ 10) (hS : SgOK Ts S sg) (F : Nat) {k : Nat} (hk : k < N) (hSL : S = Ln T k) : ∀ (m i f : Nat), i + m = S → m < f → allB (sungAt T Ts k) i = true → So_isTrueOf_l25 F (nI S) sg (nI N) ln lt (nI k) f (nI i) = some (bI (allB (sungAt T Ts k) S)) := by
  have hL := Ln_le T k
  intro m
  induction m with
  | zero =>
    intro i f hi hf hA
    obtain ⟨f, rfl⟩ : ∃ f', f = f' + 1 := ⟨f - 1, by omega⟩
    show So_isTrueOf_b25 F (nI S) sg (nI N) ln lt (nI k) _ (nI i) = _
    unfold So_isTrueOf_b25
    rw [if_pos (show nI S ≤ nI i by rw [leN (by omega) (by omega)]; omega), show S = i by omega, hA]; rfl
  | succ m ih =>
    intro i f hi hf hA
    obtain ⟨f, rfl⟩ : ∃ f', f = f' + 1 := ⟨f - 1, by omega⟩
    show So_isTrueOf_b25 F (nI S) sg (nI N) ln lt (nI k) (So_isTrueOf_l25 F (nI S) sg (nI N) ln lt (nI k) f) (nI i) = _
    unfold So_isTrueOf_b25 So_isTrueOf_b60
    rw [if_neg (show ¬ nI S ≤ nI i by rw [leN (by omega) (by omega)]; omega), rdN (by omega) (by omega), rdN (by omega) (by omega), hS i (by omega), Na_letterAt_ok hO hN hk (by omega), cb1_s, if_pos (show i < Ln T k by omega), show nI i + 1 = nI (i + 1) from nI_1 _]
    have h6 := Lt_lt (show i < Ln T k by omega)
    by_cases hc : lc (Ts i) < 6
    · have es : sI (Ts i) = nI (lc (Ts i)) := if_pos hc
      rw [es, if_neg (ne_m1 (by omega))]
      by_cases e : lc (Ts i) = Lt T k i
      · rw [if_pos (show nI (lc (Ts i)) = nI (Lt T k i) by rw [e])]
        exact ih (i + 1) f (by omega) (by omega) (by rw [allB, hA]; simp [sungAt, e])
      · rw [if_neg (show ¬ nI (lc (Ts i)) = nI (Lt T k i) by rw [eqN (by omega) (by omega)]; exact e)]
        have : allB (sungAt T Ts k) S = false := by
          rw [Bool.eq_false_iff]; intro h
          have := allB_iff.mp h i (by omega)
          simp [sungAt, hc] at this; exact e this
        rw [this]; rfl
    · have es : sI (Ts i) = -1 := if_neg hc
      rw [es, if_pos rfl]
      exact ih (i + 1) f (by omega) (by omega) (by rw [allB, hA]; simp [sungAt, hc])
theorem So_isTrueOf_ok {T Ts : Nat → Nat} {N S : Nat} {od ln lt sg : Nat → Int32} (hO : NmOK T N od ln lt) (hN : N ≤ 10) (hS : SgOK Ts S sg) (hS6 : S ≤ 6) {F : Nat} (hF : 100 ≤ F) {k : Nat} (hk : k < N) : So_isTrueOf F (nI S) sg (nI N) ln lt (nI k) = some (bI (sungB T Ts S k)) := by
  have hL := Ln_le T k
  unfold So_isTrueOf sungB
  by_cases h0 : S = 0
  · rw [if_pos (show nI S = 0 by rw [h0]; rfl), h0]; rfl
  · rw [if_neg (show ¬ nI S = 0 by rw [n0, eqN (by omega) (by omega)]; exact h0), Na_lengthOf_ok hO hN hk, cb1_s]
    by_cases e : S = Ln T k
    · rw [if_pos (show nI (Ln T k) = nI S by rw [e]), n0, So_true_loop hO hN hS F hk e S 0 F (by omega) (by omega) rfl, show (S == 0) = false by simp [h0], show (S == Ln T k) = true by simp [e]]; rfl
    · rw [if_neg (show ¬ nI (Ln T k) = nI S by rw [eqN (by omega) (by omega)]; omega), show (S == 0) = false by simp [h0], show (S == Ln T k) = false by simp [e]]; rfl
theorem Mo_sung_loop {T Ts : Nat → Nat} {N S : Nat} {od ln lt sg : Nat → Int32} (hO : NmOK T N od ln lt) (hN : N ≤ 10) (hS : SgOK Ts S sg) (F : Nat) {k : Nat} (hk : k < N) (hS6 : S ≤ 6) (hSL : S = 0 ∨ S = Ln T k) : ∀ (m i f : Nat) (a : Bool), i + m = S → m < f → a = allB (sungAt T Ts k) i → Mo_isSung_l28 F (nI S) ln lt sg (nI k) f (bI a) (nI i) = some (bI (allB (sungAt T Ts k) S)) := by
  have hL := Ln_le T k
  intro m
  induction m with
  | zero =>
    intro i f a hi hf hA
    obtain ⟨f, rfl⟩ : ∃ f', f = f' + 1 := ⟨f - 1, by omega⟩
    show Mo_isSung_b28 F (nI S) ln lt sg (nI k) _ (bI a) (nI i) = _
    unfold Mo_isSung_b28
    rw [if_pos (show nI S ≤ nI i by rw [leN (by omega) (by omega)]; omega), gd_s (by exact bI_01 _), show S = i by omega, hA]
  | succ m ih =>
    intro i f a hi hf hA
    obtain ⟨f, rfl⟩ : ∃ f', f = f' + 1 := ⟨f - 1, by omega⟩
    show Mo_isSung_b28 F (nI S) ln lt sg (nI k) (Mo_isSung_l28 F (nI S) ln lt sg (nI k) f) (bI a) (nI i) = _
    unfold Mo_isSung_b28 Mo_isSung_b70 Mo_isSung_b75
    rw [if_neg (show ¬ nI S ≤ nI i by rw [leN (by omega) (by omega)]; omega)]
    cases a with
    | false =>
      rw [if_pos (show bI false = 0 from rfl), gd_s (by exact bI_01 false)]
      have : allB (sungAt T Ts k) S = false := by
        rw [Bool.eq_false_iff]; intro h
        have h2 : allB (sungAt T Ts k) i = true := allB_iff.mpr (fun j hj => allB_iff.mp h j (by omega))
        rw [h2] at hA; cases hA
      rw [this]
    | true =>
      rw [if_neg (show ¬ bI true = 0 by decide), rdN (by omega) (by omega), rdN (by omega) (by omega), hS i (by omega), n6, mulN, nI_add, rdN (by omega) (by omega), (hO k hk).2.2.2.2 i (by omega), show nI i + 1 = nI (i + 1) from nI_1 _]
      have h6 := Lt_lt (show i < Ln T k by omega)
      by_cases hc : lc (Ts i) < 6
      · have es : sI (Ts i) = nI (lc (Ts i)) := if_pos hc
        rw [es, if_neg (ne_m1 (by omega))]
        by_cases e : lc (Ts i) = Lt T k i
        · rw [if_pos (show nI (lc (Ts i)) = nI (Lt T k i) by rw [e])]
          exact ih (i + 1) f true (by omega) (by omega) (by rw [allB, ← hA]; simp [sungAt, e])
        · rw [if_neg (show ¬ nI (lc (Ts i)) = nI (Lt T k i) by rw [eqN (by omega) (by omega)]; exact e)]
          exact ih (i + 1) f false (by omega) (by omega) (by rw [allB, ← hA]; simp [sungAt, hc, e])
      · have es : sI (Ts i) = -1 := if_neg hc
        rw [es, if_pos rfl]
        exact ih (i + 1) f true (by omega) (by omega) (by rw [allB, ← hA]; simp [sungAt, hc])
theorem Mo_isSung_ok {T Ts : Nat → Nat} {N S : Nat} {od ln lt sg : Nat → Int32} (hO : NmOK T N od ln lt) (hN : N ≤ 10) (hS : SgOK Ts S sg) (hS6 : S ≤ 6) {F : Nat} (hF : 100 ≤ F) {k : Nat} (hk : k < N) : Mo_isSung F (nI S) ln lt sg (nI k) = some (bI (sungB T Ts S k)) := by
  have hL := Ln_le T k
  unfold Mo_isSung Mo_isSung_b20 Mo_isSung_b25 sungB
  by_cases h0 : S = 0
  · rw [if_pos (show nI S = 0 by rw [h0]; rfl)]
    have := Mo_sung_loop hO hN hS F hk hS6 (Or.inl h0) S 0 F true (by omega) (by omega) rfl
    rw [show Mo_isSung_l28 F (nI S) ln lt sg (nI k) F 1 0 = some (bI (allB (sungAt T Ts k) S)) from this, h0]; rfl
  · rw [if_neg (show ¬ nI S = 0 by rw [n0, eqN (by omega) (by omega)]; exact h0), rdN (by omega) (by omega), (hO k hk).2.2.2.1]
    by_cases e : S = Ln T k
    · rw [if_pos (show nI S = nI (Ln T k) by rw [e])]
      have := Mo_sung_loop hO hN hS F hk hS6 (Or.inr e) S 0 F true (by omega) (by omega) rfl
      rw [show Mo_isSung_l28 F (nI S) ln lt sg (nI k) F 1 0 = some (bI (allB (sungAt T Ts k) S)) from this, show (S == 0) = false by simp [h0], show (S == Ln T k) = true by simp [e]]; rfl
    · rw [if_neg (show ¬ nI S = nI (Ln T k) by rw [eqN (by omega) (by omega)]; exact e), show (S == 0) = false by simp [h0], show (S == Ln T k) = false by simp [e]]
      obtain ⟨f, rfl⟩ : ∃ f', F = f' + 1 := ⟨F - 1, by omega⟩
      show Mo_isSung_b28 (f + 1) (nI S) ln lt sg (nI k) _ 0 0 = _
      unfold Mo_isSung_b28
      rw [if_neg (show ¬ nI S ≤ 0 by rw [n0, leN (by omega) (by omega)]; omega), if_pos rfl, gd_s (by exact Or.inl rfl)]; rfl
