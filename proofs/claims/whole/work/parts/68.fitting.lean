/-! the NAMES that fit: both sides -/
def fitB (T Tp Ts : Nat → Nat) (P S B k : Nat) : Bool := sungB T Ts S k && allB (fun q => !B.testBit q || heardB T Tp k q) P
def fm (T Tp Ts : Nat → Nat) (N P S B : Nat) : Nat := bo (fitB T Tp Ts P S B) N
theorem fm_lt (T Tp Ts : Nat → Nat) (N P S B : Nat) : fm T Tp Ts N P S B < 2 ^ N := bo_lt _ _
theorem fm_bit {T Tp Ts : Nat → Nat} {N P S B i : Nat} : (fm T Tp Ts N P S B).testBit i = (decide (i < N) && fitB T Tp Ts P S B i) := bo_bit _ _ _
theorem p2_10 {k : Nat} (h : k ≤ 10) : 2 ^ k ≤ 1024 := p2_le (n := 10) h
theorem Mo_fits_in {T Tp Ts : Nat → Nat} {N P S : Nat} {od ln lt is pn pl sg : Nat → Int32} (hO : NmOK T N od ln lt) (hN : N ≤ 10) (hP : PcOK Tp P is pn pl) (hP6 : P ≤ 6) {F : Nat} (hF : 100 ≤ F) {B : Nat} (hB : B < 64) (rec4 : Int32 → Int32 → Option Int32) {k : Nat} (hk : k < N) (x2 : Int32) : ∀ (m q f : Nat) (a : Bool), q + m = P → m < f → a = (sungB T Ts S k && allB (fun q => !B.testBit q || heardB T Tp k q) q) → Mo_fitsBy_l22 F (nI N) (nI P) (nI S) ln lt is pn pl sg (nI B) rec4 f x2 (nI k) (bI a) (nI q) = rec4 (x2 ||| (if fitB T Tp Ts P S B k then nI (2 ^ k) else 0)) (nI (k + 1)) := by
  intro m
  induction m with
  | zero =>
    intro q f a hq hf hA
    obtain ⟨f, rfl⟩ : ∃ f', f = f' + 1 := ⟨f - 1, by omega⟩
    show Mo_fitsBy_b22 F (nI N) (nI P) (nI S) ln lt is pn pl sg (nI B) rec4 _ x2 (nI k) (bI a) (nI q) = _
    unfold Mo_fitsBy_b22 Mo_fitsBy_b68 Mo_fitsBy_b81
    have hq' : q = P := by omega
    rw [if_pos (show nI P ≤ nI q by rw [leN (by omega) (by omega)]; omega), sh1 k (by omega), show nI k + 1 = nI (k + 1) from nI_1 _]
    have ha : a = fitB T Tp Ts P S B k := by rw [hA, hq']; rfl
    rw [← ha]
    cases a <;> rfl
  | succ m ih =>
    intro q f a hq hf hA
    obtain ⟨f, rfl⟩ : ∃ f', f = f' + 1 := ⟨f - 1, by omega⟩
    show Mo_fitsBy_b22 F (nI N) (nI P) (nI S) ln lt is pn pl sg (nI B) rec4 (Mo_fitsBy_l22 F (nI N) (nI P) (nI S) ln lt is pn pl sg (nI B) rec4 f) x2 (nI k) (bI a) (nI q) = _
    unfold Mo_fitsBy_b22 Mo_fitsBy_b59 Mo_fitsBy_b55 Mo_fitsBy_b60
    rw [if_neg (show ¬ nI P ≤ nI q by rw [leN (by omega) (by omega)]; omega), show nI q + 1 = nI (q + 1) from nI_1 _]
    cases a with
    | false =>
      rw [if_pos (show bI false = 0 from rfl)]
      refine ih (q + 1) f false (by omega) (by omega) ?_
      rw [allB, ← Bool.and_assoc, ← hA]; rfl
    | true =>
      rw [if_neg (show ¬ bI true = 0 by decide), Mo_isIn_ok (by omega) (by omega), cb1_s]
      cases hb : B.testBit q with
      | false =>
        rw [if_pos (show (if false = true then (1 : Int32) else 0) = 0 from rfl)]
        refine ih (q + 1) f true (by omega) (by omega) ?_
        rw [allB, ← Bool.and_assoc, ← hA, hb]; rfl
      | true =>
        rw [if_neg (show ¬ (if true = true then (1 : Int32) else 0) = 0 by decide), Mo_isHeard_ok hO hN hP hP6 hF hk (by omega), cb1_s]
        cases hh : heardB T Tp k q with
        | false =>
          rw [if_pos (show bI false = 0 from rfl)]
          refine ih (q + 1) f false (by omega) (by omega) ?_
          rw [allB, ← Bool.and_assoc, ← hA, hb, hh]; rfl
        | true =>
          rw [if_neg (show ¬ bI true = 0 by decide)]
          refine ih (q + 1) f true (by omega) (by omega) ?_
          rw [allB, ← Bool.and_assoc, ← hA, hb, hh]; rfl
theorem Mo_fits_loop {T Tp Ts : Nat → Nat} {N P S : Nat} {od ln lt is pn pl sg : Nat → Int32} (hO : NmOK T N od ln lt) (hN : N ≤ 10) (hP : PcOK Tp P is pn pl) (hP6 : P ≤ 6) (hS : SgOK Ts S sg) (hS6 : S ≤ 6) {F : Nat} (hF : 100 ≤ F) {B : Nat} (hB : B < 64) : ∀ (m k f : Nat), k + m = N → m < f → Mo_fitsBy_l4 F (nI N) (nI P) (nI S) ln lt is pn pl sg (nI B) f (nI (bo (fitB T Tp Ts P S B) k)) (nI k) = some (nI (fm T Tp Ts N P S B)) := by
  intro m
  induction m with
  | zero =>
    intro k f hk hf
    obtain ⟨f, rfl⟩ : ∃ f', f = f' + 1 := ⟨f - 1, by omega⟩
    show Mo_fitsBy_b4 F (nI N) (nI P) (nI S) ln lt is pn pl sg (nI B) _ _ (nI k) = _
    unfold Mo_fitsBy_b4
    rw [if_pos (show nI N ≤ nI k by rw [leN (by omega) (by omega)]; omega), show k = N by omega]; rfl
  | succ m ih =>
    intro k f hk hf
    obtain ⟨f, rfl⟩ : ∃ f', f = f' + 1 := ⟨f - 1, by omega⟩
    show Mo_fitsBy_b4 F (nI N) (nI P) (nI S) ln lt is pn pl sg (nI B) (Mo_fitsBy_l4 F (nI N) (nI P) (nI S) ln lt is pn pl sg (nI B) f) _ (nI k) = _
    unfold Mo_fitsBy_b4
    rw [if_neg (show ¬ nI N ≤ nI k by rw [leN (by omega) (by omega)]; omega), Mo_isSung_ok hO hN hS hS6 hF (by omega), cb1_s, n0, Mo_fits_in hO hN hP hP6 hF hB _ (show k < N by omega) _ P 0 F _ (by omega) (by omega) (by rw [allB, Bool.and_true])]
    rw [← ih (k + 1) f (by omega) (by omega)]
    cases hb : fitB T Tp Ts P S B k with
    | true => rw [if_pos rfl, bo_orI hb]
    | false =>
      rw [if_neg (by decide), n0, bOr, Nat.or_zero, bo_no hb]
theorem Mo_fitsBy_ok {T Tp Ts : Nat → Nat} {N P S : Nat} {od ln lt is pn pl sg : Nat → Int32} (hO : NmOK T N od ln lt) (hN : N ≤ 10) (hP : PcOK Tp P is pn pl) (hP6 : P ≤ 6) (hS : SgOK Ts S sg) (hS6 : S ≤ 6) {F : Nat} (hF : 100 ≤ F) {B : Nat} (hB : B < 64) : Mo_fitsBy F (nI N) (nI P) (nI S) ln lt is pn pl sg (nI B) = some (nI (fm T Tp Ts N P S B)) :=
  Mo_fits_loop hO hN hP hP6 hS hS6 hF hB N 0 F (by omega) (by omega)
theorem Mo_fitsNow_ok {T Tp Ts : Nat → Nat} {N P S : Nat} {od ln lt is pn pl sg : Nat → Int32} (hO : NmOK T N od ln lt) (hN : N ≤ 10) (hP : PcOK Tp P is pn pl) (hP6 : P ≤ 6) (hS : SgOK Ts S sg) (hS6 : S ≤ 6) {F : Nat} (hF : 100 ≤ F) : Mo_fitsNow F (nI N) (nI P) (nI S) ln lt is pn pl sg = some (nI (fm T Tp Ts N P S 63)) := by
  unfold Mo_fitsNow
  rw [show (63 : Int32) = nI 63 from rfl, Mo_fitsBy_ok hO hN hP hP6 hS hS6 hF (by omega), cb1_s]
