/-! set, guess, unguess -/
theorem in_cases (x : Int32) (a b : Nat) (ha : a < 2147483648) (hb : b < 2147483648) : (∃ c, a ≤ c ∧ c ≤ b ∧ x = nI c ∧ Mo_in (Int32.toInt64 x) (Int32.toInt64 (nI a)) (Int32.toInt64 (nI b)) = some 1) ∨ ((x < nI a ∨ nI b < x) ∧ Mo_in (Int32.toInt64 x) (Int32.toInt64 (nI a)) (Int32.toInt64 (nI b)) = some 0) := by
  rw [Mo_in_ok, Int32.toInt_toInt64, Int32.toInt_toInt64, Int32.toInt_toInt64, nI_toInt ha, nI_toInt hb]
  by_cases h : x < 0
  · have h' := h
    rw [neg_toInt] at h'
    refine Or.inr ⟨Or.inl ?_, by rw [if_neg (fun hc => by omega)]⟩
    rw [Int32.lt_iff_toInt_lt, nI_toInt ha]; omega
  · obtain ⟨j, hj, rfl⟩ := nI_of h
    rw [nI_toInt hj, ltN hj ha, ltN hb hj]
    by_cases h3 : a ≤ j ∧ j ≤ b
    · exact Or.inl ⟨j, h3.1, h3.2, rfl, by rw [if_pos (by omega)]⟩
    · exact Or.inr ⟨by omega, by rw [if_neg (fun hc => by omega)]⟩
def loT (k : Nat) : Nat := if k = 1 ∨ k = 3 then 0 else 1
def hiT (k : Nat) : Nat := if k < 2 then 99 else if k = 2 then 12 else if k = 3 then 9999 else 3
theorem loT_le (k : Nat) : loT k ≤ 1 := by unfold loT; split <;> omega
theorem hiT_le (k : Nat) : hiT k ≤ 9999 := by unfold hiT; split <;> (try split) <;> (try split) <;> omega
theorem leF_ok : ∀ k, k < 5 → leF k = nI (loT k) := by decide +kernel
theorem moF_ok : ∀ k, k < 5 → moF k = nI (hiT k) := by decide +kernel
theorem Mo_most_ok : ∀ k, k < 5 → Mo_most (nI k) = some (nI (hiT k)) := by decide +kernel
def TmC (tm : Nat → Nat) (f : Nat → Int32) : Prop := ∀ k, k < 5 → f k = nI (tm k)
def TmOK (tm : Nat → Nat) : Prop := ∀ k, k < 5 → loT k ≤ tm k ∧ tm k ≤ hiT k
theorem TmC_up {tm : Nat → Nat} {f : Nat → Int32} (h : TmC tm f) (k c : Nat) : TmC (upT tm k c) (upd f k (nI c)) := by
  intro j hj
  by_cases e : j = k
  · subst e; rw [upT_s, upd_s]
  · rw [upT_n e, upd_n e]; exact h j hj
theorem De_allows_ok (k : Nat) (hk : k < 5) (x2 : Int32) : De_allows (nI k) x2 = some (if x2 < nI (loT k) ∨ nI (hiT k) < x2 then 0 else 1) := by
  unfold De_allows
  rw [if_neg (nI_pos (by omega)), if_neg (show ¬ (5 : Int32) ≤ nI k by rw [n5, leN (by omega) (by omega)]; omega), rdN hk (by omega), leF_ok k hk]
  by_cases h : x2 < nI (loT k)
  · rw [if_pos h, if_pos (Or.inl h)]
  · rw [if_neg h, rdN hk (by omega), moF_ok k hk]
    by_cases h2 : nI (hiT k) < x2
    · rw [if_pos h2, if_pos (Or.inr h2)]
    · rw [if_neg h2, if_neg (fun hc => by rcases hc with hc | hc; exact h hc; exact h2 hc)]
theorem set_ok {tm : Nat → Nat} {dt se : Nat → Int32} (hC : TmC tm dt) (hR : TmC tm se) (hT : TmOK tm) (ws x1 x2 : Int32) : ∃ r dt' ws' se' tm', ND_set dt ws x1 x2 = some (r, dt', ws') ∧ Mo_set se x1 x2 = some (r, se') ∧ TmC tm' dt' ∧ TmC tm' se' ∧ TmOK tm' ∧ ((tm' = tm ∧ ws' = ws) ∨ ws' = 1) := by
  have e04 : ∀ x : Int32, Mo_in (Int32.toInt64 x) 0 4 = Mo_in (Int32.toInt64 x) (Int32.toInt64 (nI 0)) (Int32.toInt64 (nI 4)) := fun _ => rfl
  rcases in_cases x1 0 4 (by omega) (by omega) with ⟨k, _, hk, rfl, e⟩ | ⟨h1, e⟩
  · have hk5 : k < 5 := by omega
    have hl := loT_le k
    have hh := hiT_le k
    have hsel : ∀ lo : Int64, (if k = 1 ∨ k = 3 then (0 : Int64) else 1) = Int32.toInt64 (nI (loT k)) := fun _ => by
      unfold loT
      split
      · rfl
      · rfl
    have hMo : Mo_set se (nI k) x2 = Mo_set_b29 (nI k) x2 (Int32.toInt64 x2) (Int32.toInt64 (nI (loT k))) se := by
      unfold Mo_set Mo_set_b24
      rw [e04, e, cb1_s, if_neg (show ¬ (1 : Int32) = 0 by decide)]
      rcases (show k = 0 ∨ k = 1 ∨ k = 2 ∨ k = 3 ∨ k = 4 by omega) with rfl | rfl | rfl | rfl | rfl
      · rw [if_neg (show ¬ nI 0 = 1 by decide), if_neg (show ¬ nI 0 = 3 by decide)]; rfl
      · rw [if_pos (show nI 1 = 1 from rfl)]; rfl
      · rw [if_neg (show ¬ nI 2 = 1 by decide), if_neg (show ¬ nI 2 = 3 by decide)]; rfl
      · rw [if_neg (show ¬ nI 3 = 1 by decide), if_pos (show nI 3 = 3 from rfl)]; rfl
      · rw [if_neg (show ¬ nI 4 = 1 by decide), if_neg (show ¬ nI 4 = 3 by decide)]; rfl
    rw [hMo]
    unfold ND_set Mo_set_b29
    rw [De_allows_ok k hk5, cb1_s, Mo_most_ok k hk5, cb1_s]
    rcases in_cases x2 (loT k) (hiT k) (by omega) (by omega) with ⟨c, hc1, hc2, rfl, e2⟩ | ⟨h2, e2⟩
    · rw [e2, cb1_s, if_neg (show ¬ (1 : Int32) = 0 by decide), if_neg (show ¬ (if nI c < nI (loT k) ∨ nI (hiT k) < nI c then (0 : Int32) else 1) = 0 by rw [if_neg (by rw [ltN (by omega) (by omega), ltN (by omega) (by omega)]; omega)]; decide), show Wi_forgetAll ws = some 1 from rfl, cb1_s]
      unfold De_exchange
      rw [if_neg (nI_pos (by omega)), if_pos (show nI k < 5 by rw [n5, ltN (by omega) (by omega)]; omega), rdN hk5 (by omega), wrN hk5 (by omega), cb2_s, rdN hk5 (by omega), wrN hk5 (by omega), hC k hk5, hR k hk5]
      refine ⟨_, _, _, _, upT tm k c, rfl, rfl, TmC_up hC k c, TmC_up hR k c, fun j hj => ?_, Or.inr rfl⟩
      by_cases e3 : j = k
      · subst e3; rw [upT_s]; exact ⟨hc1, hc2⟩
      · rw [upT_n e3]; exact hT j hj
    · rw [e2, cb1_s, if_pos rfl, if_pos (show (if x2 < nI (loT k) ∨ nI (hiT k) < x2 then (0 : Int32) else 1) = 0 from if_pos h2)]
      exact ⟨_, _, _, _, _, rfl, rfl, hC, hR, hT, Or.inl ⟨rfl, rfl⟩⟩
  · have hA : De_allows x1 x2 = some 0 := by
      unfold De_allows
      rcases h1 with h1 | h1
      · rw [if_pos (show x1 < 0 from h1)]
      · have h1' : ¬ x1 < 0 := fun hc => by
          rw [Int32.lt_iff_toInt_lt, nI_toInt (by omega)] at h1
          rw [neg_toInt] at hc; omega
        obtain ⟨j, hj, rfl⟩ := nI_of h1'
        rw [ltN (by omega) (by omega)] at h1
        rw [if_neg h1', if_pos (show (5 : Int32) ≤ nI j by rw [n5, leN (by omega) (by omega)]; omega)]
    unfold ND_set Mo_set
    rw [hA, cb1_s, if_pos rfl, e04, e, cb1_s, if_pos rfl]
    exact ⟨_, _, _, _, _, rfl, rfl, hC, hR, hT, Or.inl ⟨rfl, rfl⟩⟩
def GuOK (m : Nat) (g : Nat → Nat) (gs : Int32) (gl : Nat → Int32) : Prop := m ≤ 12 ∧ (∀ j, j < m → g j ≤ 9) ∧ gs = nI m ∧ ∀ j, j < m → gl j = nI (g j)
theorem GuOK_push {m : Nat} {g : Nat → Nat} {gs : Int32} {gl : Nat → Int32} (h : GuOK m g gs gl) (hm : m < 12) {c : Nat} (hc : c ≤ 9) : GuOK (m + 1) (upT g m c) (nI (m + 1)) (upd gl m (nI c)) := by
  refine ⟨hm, fun j hj => ?_, rfl, fun j hj => ?_⟩
  · by_cases e : j = m
    · subst e; rw [upT_s]; exact hc
    · rw [upT_n e]; exact h.2.1 j (by omega)
  · by_cases e : j = m
    · subst e; rw [upT_s, upd_s]
    · rw [upT_n e, upd_n e]; exact h.2.2.2 j (by omega)
theorem GuOK_0 {m : Nat} {g : Nat → Nat} {gs : Int32} {gl : Nat → Int32} (h : GuOK m g gs gl) {m' : Nat} (hm : m' ≤ m) : GuOK m' g (nI m') gl := by
  have := h.1
  exact ⟨by omega, fun j hj => h.2.1 j (by omega), rfl, fun j hj => h.2.2.2 j (by omega)⟩
theorem guess_cases (x : Int32) : (∃ c, c ≤ 9 ∧ x = nI c ∧ Mo_in (Int32.toInt64 x) 0 9 = some 1 ∧ ND_mayBeGuessed x = some 1) ∨ (Mo_in (Int32.toInt64 x) 0 9 = some 0 ∧ ND_mayBeGuessed x = some 0) := by
  unfold ND_mayBeGuessed
  rcases in_cases x 0 9 (by omega) (by omega) with ⟨k, _, hk, rfl, e⟩ | ⟨h1, e⟩
  · exact Or.inl ⟨k, hk, rfl, e, by rw [if_neg (nI_pos (by omega)), if_neg (show ¬ (10 : Int32) ≤ nI k by rw [n10, leN (by omega) (by omega)]; omega)]⟩
  · refine Or.inr ⟨e, ?_⟩
    by_cases h : x < 0
    · rw [if_pos h]
    · obtain ⟨j, hj, rfl⟩ := nI_of h
      rw [ltN (by omega) (by omega), ltN (by omega) (by omega)] at h1
      rw [if_neg h, if_pos (show (10 : Int32) ≤ nI j by rw [n10, leN (by omega) (by omega)]; omega)]
theorem Gu_isFull_ok {m : Nat} (h : m ≤ 12) : Gu_isFull (nI m) = some (if m = 12 then 1 else 0) := by
  unfold Gu_isFull
  by_cases e : m = 12
  · rw [if_pos e, e]; rfl
  · rw [if_neg e, if_pos (show nI m < 12 by rw [show (12 : Int32) = nI 12 from rfl, ltN (by omega) (by omega)]; omega)]
theorem Gu_append_ok {m : Nat} (h : m < 12) (gl : Nat → Int32) (x : Int32) : Gu_append (nI m) gl x = some (nI (m + 1), upd gl m x) := by
  unfold Gu_append
  rw [if_neg (nI_pos (by omega)), if_neg (show ¬ (12 : Int32) ≤ nI m by rw [show (12 : Int32) = nI 12 from rfl, leN (by omega) (by omega)]; omega), wrN h (by omega), show nI m + 1 = nI (m + 1) from nI_1 _]
theorem guess_ok {m : Nat} {g : Nat → Nat} {gs : Int32} {gl : Nat → Int32} {rs' : Int32} {rl : Nat → Int32} (hC : GuOK m g gs gl) (hR : GuOK m g rs' rl) (x1 : Int32) : ∃ r gs' gl' rgs rgl m' g', ND_guess gs gl x1 = some (r, gs', gl') ∧ Mo_guess rs' rl x1 = some (r, rgs, rgl) ∧ GuOK m' g' gs' gl' ∧ GuOK m' g' rgs rgl := by
  have h12 := hC.1
  obtain ⟨a1, a2, a3, a4⟩ := hC
  obtain ⟨b1, b2, b3, b4⟩ := hR
  subst a3 b3
  unfold ND_guess Mo_guess
  rcases guess_cases x1 with ⟨c, hc, rfl, e1, e2⟩ | ⟨e1, e2⟩
  · rw [e1, e2, cb1_s, cb1_s, if_neg (show ¬ (1 : Int32) = 0 by decide), if_neg (show ¬ (1 : Int32) = 0 by decide), Gu_isFull_ok h12, cb1_s]
    by_cases e : m = 12
    · rw [if_neg (show ¬ (if m = 12 then (1 : Int32) else 0) = 0 by rw [if_pos e]; decide), if_pos (show nI m = 12 by rw [e]; rfl)]
      exact ⟨_, _, _, _, _, _, _, rfl, rfl, ⟨a1, a2, rfl, a4⟩, ⟨b1, b2, rfl, b4⟩⟩
    · rw [if_pos (show (if m = 12 then (1 : Int32) else 0) = 0 from if_neg e), if_neg (show ¬ nI m = 12 by rw [show (12 : Int32) = nI 12 from rfl, eqN (by omega) (by omega)]; exact e), Gu_append_ok (by omega), cb2_s, wrN (by omega) (by omega), show nI m + 1 = nI (m + 1) from nI_1 _]
      exact ⟨_, _, _, _, _, _, _, rfl, rfl, GuOK_push ⟨a1, a2, rfl, a4⟩ (by omega) hc, GuOK_push ⟨b1, b2, rfl, b4⟩ (by omega) hc⟩
  · rw [e1, e2, cb1_s, cb1_s, if_pos rfl, if_pos rfl]
    exact ⟨_, _, _, _, _, _, _, rfl, rfl, ⟨a1, a2, rfl, a4⟩, ⟨b1, b2, rfl, b4⟩⟩
theorem unguess_ok {m : Nat} {g : Nat → Nat} {gs : Int32} {gl : Nat → Int32} {rs' : Int32} {rl : Nat → Int32} (hC : GuOK m g gs gl) (hR : GuOK m g rs' rl) : ∃ r gs' rgs m', ND_unguess gs = some (r, gs') ∧ Mo_unguess rs' = some (r, rgs) ∧ GuOK m' g gs' gl ∧ GuOK m' g rgs rl := by
  have h12 := hC.1
  obtain ⟨a1, a2, a3, a4⟩ := hC
  obtain ⟨b1, b2, b3, b4⟩ := hR
  subst a3 b3
  unfold ND_unguess Mo_unguess Gu_size
  rw [cb1_s]
  by_cases e : m = 0
  · rw [if_pos (show nI m = 0 by rw [e]; rfl), if_pos (show nI m = 0 by rw [e]; rfl)]
    exact ⟨_, _, _, _, rfl, rfl, ⟨a1, a2, rfl, a4⟩, ⟨b1, b2, rfl, b4⟩⟩
  · obtain ⟨p, rfl⟩ : ∃ p, m = p + 1 := ⟨m - 1, by omega⟩
    have h0 : ¬ nI (p + 1) = 0 := by rw [n0, eqN (by omega) (by omega)]; exact e
    rw [if_neg h0, if_neg h0, nI_pred]
    unfold Gu_dropLast
    rw [if_neg (show ¬ nI (p + 1) ≤ 0 by rw [n0, leN (by omega) (by omega)]; omega), nI_pred]
    exact ⟨_, _, _, _, rfl, rfl, GuOK_0 (gs := nI (p + 1)) ⟨a1, a2, rfl, a4⟩ (by omega), GuOK_0 (gs := nI (p + 1)) ⟨b1, b2, rfl, b4⟩ (by omega)⟩
