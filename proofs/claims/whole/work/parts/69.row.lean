/-! the row of the NAMES that fit: both sides -/
def sel (od : Nat → Nat) (m : Nat) : Nat → Nat
  | 0 => 99
  | n + 1 => if m.testBit n ∧ (sel od m n = 99 ∨ od (sel od m n) < od n) then n else sel od m n
theorem sel_spec (od : Nat → Nat) (m : Nat) : ∀ n, n < 99 → (sel od m n = 99 ∧ ∀ i, i < n → m.testBit i = false) ∨ (sel od m n < n ∧ m.testBit (sel od m n) = true ∧ ∀ i, i < n → m.testBit i = true → od i < od (sel od m n) ∨ (od i = od (sel od m n) ∧ sel od m n ≤ i))
  | 0, _ => Or.inl ⟨rfl, fun i h => absurd h (Nat.not_lt_zero i)⟩
  | n + 1, hn => by
    have ih := sel_spec od m n (by omega)
    rw [sel]
    split
    · next h =>
      refine Or.inr ⟨by omega, h.1, fun i hi hb => ?_⟩
      by_cases e : i = n
      · subst e; exact Or.inr ⟨rfl, Nat.le_refl _⟩
      · rcases ih with ⟨h1, h2⟩ | ⟨h1, h2, h3⟩
        · rw [h2 i (by omega)] at hb; cases hb
        · have := h3 i (by omega) hb
          rcases h.2 with h4 | h4 <;> omega
    · next h =>
      rcases ih with ⟨h1, h2⟩ | ⟨h1, h2, h3⟩
      · refine Or.inl ⟨h1, fun i hi => ?_⟩
        by_cases e : i = n
        · subst e; rw [Bool.eq_false_iff]; intro hb; exact h ⟨hb, Or.inl h1⟩
        · exact h2 i (by omega)
      · refine Or.inr ⟨by omega, h2, fun i hi hb => ?_⟩
        by_cases e : i = n
        · subst e
          have : ¬ od (sel od m i) < od i := fun h4 => h ⟨hb, Or.inr h4⟩
          omega
        · exact h3 i (by omega) hb
theorem sel_in {od : Nat → Nat} {m n i : Nat} (hn : n < 99) (hi : i < n) (hb : m.testBit i = true) : sel od m n < n ∧ m.testBit (sel od m n) = true ∧ ∀ i, i < n → m.testBit i = true → od i < od (sel od m n) ∨ (od i = od (sel od m n) ∧ sel od m n ≤ i) := by
  rcases sel_spec od m n hn with ⟨h1, h2⟩ | h
  · rw [h2 i hi] at hb; cases hb
  · exact h
theorem sel_eq {od : Nat → Nat} {m n i : Nat} (hn : n < 99) (hi : i < n) (hb : m.testBit i = true) (h : ∀ j, j < n → m.testBit j = true → od j < od i ∨ (od j = od i ∧ i ≤ j)) : sel od m n = i := by
  obtain ⟨h1, h2, h3⟩ := sel_in (od := od) hn hi hb
  have a := h3 i hi hb
  have b := h _ h1 h2
  omega
def remM (od : Nat → Nat) (N M : Nat) : Nat → Nat
  | 0 => M
  | j + 1 => ndf (remM od N M j) (2 ^ sel od (remM od N M j) N)
theorem ndf_p2 (m s i : Nat) : (ndf m (2 ^ s)).testBit i = (m.testBit i && !decide (s = i)) := by
  rw [ndf_bit, Nat.testBit_two_pow]
theorem remM_lt {od : Nat → Nat} {N M : Nat} (h : M < 2 ^ N) : ∀ j, remM od N M j < 2 ^ N
  | 0 => h
  | j + 1 => ndf_lt (remM_lt h j)
def cnt (m n : Nat) : Nat := wt (fun _ => 1) m n
theorem wt_rem {od : Nat → Nat} {m s : Nat} (hb : m.testBit s = true) : ∀ n, wt od (ndf m (2 ^ s)) n + (if s < n then od s else 0) = wt od m n
  | 0 => rfl
  | n + 1 => by
    have ih := wt_rem (od := od) hb n
    rw [wt, wt, ndf_p2]
    by_cases e : s = n
    · subst e
      rw [if_neg (Nat.lt_irrefl s)] at ih
      rw [hb, if_pos (Nat.lt_succ_self s)]
      simp
      omega
    · rw [show (!decide (s = n)) = true by simp [e], Bool.and_true]
      by_cases e2 : s < n
      · rw [if_pos e2] at ih; rw [if_pos (show s < n + 1 by omega)]; omega
      · rw [if_neg e2] at ih; rw [if_neg (show ¬ s < n + 1 by omega)]; omega
theorem cnt_0 {m : Nat} : ∀ {n : Nat}, cnt m n = 0 → ∀ i, i < n → m.testBit i = false
  | 0, _, i, h => absurd h (Nat.not_lt_zero i)
  | n + 1, h, i, hi => by
    rw [cnt, wt] at h
    by_cases e : i = n
    · subst e; rw [Bool.eq_false_iff]; intro hb; rw [hb] at h; simp at h
    · exact cnt_0 (n := n) (by rw [cnt]; omega) i (by omega)
theorem cnt_le (m : Nat) : ∀ n, cnt m n ≤ n
  | 0 => Nat.le_refl 0
  | n + 1 => by have := cnt_le m n; rw [cnt] at this ⊢; rw [wt]; split <;> omega
theorem cnt_pos {m : Nat} {n i : Nat} (hi : i < n) (hb : m.testBit i = true) : 0 < cnt m n := by
  rcases Nat.eq_zero_or_pos (cnt m n) with h | h
  · rw [cnt_0 h i hi] at hb; cases hb
  · exact h
theorem cnt_ex {m : Nat} : ∀ {n : Nat}, 0 < cnt m n → ∃ i, i < n ∧ m.testBit i = true
  | 0, h => absurd h (Nat.lt_irrefl 0)
  | n + 1, h => by
    cases hb : m.testBit n with
    | true => exact ⟨n, by omega, hb⟩
    | false =>
      rw [cnt, wt, hb] at h
      obtain ⟨i, h1, h2⟩ := cnt_ex (m := m) (n := n) (by rw [cnt]; simp at h; exact h)
      exact ⟨i, by omega, h2⟩
theorem remM_cnt {od : Nat → Nat} {N M : Nat} (hN : N ≤ 10) : ∀ j, j ≤ cnt M N → cnt (remM od N M j) N + j = cnt M N
  | 0, _ => rfl
  | j + 1, h => by
    have ih := remM_cnt (od := od) (M := M) hN j (by omega)
    obtain ⟨i, h1, h2⟩ := cnt_ex (m := remM od N M j) (n := N) (by omega)
    obtain ⟨h3, h4, _⟩ := sel_in (od := od) (show N < 99 by omega) h1 h2
    have := wt_rem (od := fun _ => 1) h4 N
    rw [if_pos h3] at this
    rw [remM]
    unfold cnt at ih ⊢
    omega
def RowOK (od : Nat → Nat) (N M : Nat) (c : Int32) (row : Nat → Int32) : Prop := c = nI (cnt M N) ∧ ∀ j, j < cnt M N → row j = nI (sel od (remM od N M j) N)
theorem Mo_row_in {T : Nat → Nat} {N : Nat} {od ln lt is pn pl sg : Nat → Int32} (hO : NmOK T N od ln lt) (hN : N ≤ 10) (F : Nat) (np ns : Int32) (rec7 : Int32 → Int32 → (Nat → Int32) → Option (Int32 × (Nat → Int32))) {m : Nat} (hm : m < 2 ^ N) (x2 : Int32) (row : Nat → Int32) (s : Nat) (hs : sel (Od T) m N = s) (hsN : s < N) : ∀ (d k f : Nat), k + d = N → d < f → Mo_findRow_l16 F (nI N) np ns od ln lt is pn pl sg rec7 f (nI m) x2 (if sel (Od T) m k = 99 then -1 else nI (sel (Od T) m k)) (nI k) row = Mo_findRow_b68 F (nI N) np ns od ln lt is pn pl sg rec7 (nI m) x2 (nI s) row := by
  have hmN := p2_10 hN
  intro d
  induction d with
  | zero =>
    intro k f hk hf
    obtain ⟨f, rfl⟩ : ∃ f', f = f' + 1 := ⟨f - 1, by omega⟩
    show Mo_findRow_b16 F (nI N) np ns od ln lt is pn pl sg rec7 _ (nI m) x2 _ (nI k) row = _
    unfold Mo_findRow_b16
    have hk' : k = N := by omega
    rw [if_pos (show nI N ≤ nI k by rw [leN (by omega) (by omega)]; omega), hk', hs, if_neg (show ¬ s = 99 by omega)]
  | succ d ih =>
    intro k f hk hf
    obtain ⟨f, rfl⟩ : ∃ f', f = f' + 1 := ⟨f - 1, by omega⟩
    have ihk := ih (k + 1) f (by omega) (by omega)
    show Mo_findRow_b16 F (nI N) np ns od ln lt is pn pl sg rec7 (Mo_findRow_l16 F (nI N) np ns od ln lt is pn pl sg rec7 f) (nI m) x2 _ (nI k) row = _
    unfold Mo_findRow_b16 Mo_findRow_b60 Mo_findRow_b55 Mo_findRow_b61
    rw [if_neg (show ¬ nI N ≤ nI k by rw [leN (by omega) (by omega)]; omega), show nI k + 1 = nI (k + 1) from nI_1 _, Mo_isIn_ok (by omega) (by omega), cb1_s, ← ihk]
    have hO9 : ∀ i, i < N → Od T i ≤ 9 := fun i hi => by have := (hO i hi).1; unfold Od; omega
    rw [sel]
    cases hb : m.testBit k with
    | false =>
      rw [if_pos (show (if false = true then (1 : Int32) else 0) = 0 from rfl)]
      simp
    | true =>
      rw [if_neg (show ¬ (if true = true then (1 : Int32) else 0) = 0 by decide)]
      rcases sel_spec (Od T) m k (by omega) with ⟨h1, h2⟩ | ⟨h1, h2, h3⟩
      · rw [h1, if_pos (show (if (99 : Nat) = 99 then (-1 : Int32) else nI 99) = -1 from rfl), if_pos (show (true = true ∧ (99 = 99 ∨ Od T 99 < Od T k)) from ⟨rfl, Or.inl rfl⟩), if_neg (show ¬ k = 99 by omega)]
      · rw [if_neg (show ¬ sel (Od T) m k = 99 by omega), if_neg (ne_m1 (by omega)), rdN (by omega) (by omega), rdN (by omega) (by omega), (hO k (by omega)).2.2.1, (hO _ (show sel (Od T) m k < N by omega)).2.2.1]
        have h4 := hO9 k (by omega)
        have h5 := hO9 _ (show sel (Od T) m k < N by omega)
        by_cases e : Od T k ≤ Od T (sel (Od T) m k)
        · rw [if_pos (show nI (Od T k) ≤ nI (Od T (sel (Od T) m k)) by rw [leN (by omega) (by omega)]; exact e), if_neg (show ¬ (true = true ∧ (sel (Od T) m k = 99 ∨ Od T (sel (Od T) m k) < Od T k)) from fun h => by omega), if_neg (show ¬ sel (Od T) m k = 99 by omega)]
        · rw [if_neg (show ¬ nI (Od T k) ≤ nI (Od T (sel (Od T) m k)) by rw [leN (by omega) (by omega)]; exact e), if_pos (show (true = true ∧ (sel (Od T) m k = 99 ∨ Od T (sel (Od T) m k) < Od T k)) from ⟨rfl, by omega⟩), if_neg (show ¬ k = 99 by omega)]
