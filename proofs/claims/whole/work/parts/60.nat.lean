/-! numbers: Nat behind Int32 -/
theorem rdN {α β : Type} {n : Nat} {f : Nat → α} {j : Nat} {k : α → Option β} (h : j < n) (hn : n < 2147483648) : rd n f (nI j) k = k (f j) := by
  have h1 : ¬ (nI j < 0 ∨ n ≤ (nI j).toNatClampNeg) := nI_in h hn
  rw [rd, if_neg h1, nI_clamp (by omega)]
theorem wrN {β : Type} {n : Nat} {f : Nat → Int32} {j : Nat} {x : Int32} {k : (Nat → Int32) → Option β} (h : j < n) (hn : n < 2147483648) : wr n f (nI j) x k = k (upd f j x) := by
  have h1 : ¬ (nI j < 0 ∨ n ≤ (nI j).toNatClampNeg) := nI_in h hn
  rw [wr, if_neg h1, nI_clamp (by omega)]
theorem wrZN {β : Type} {n : Nat} {f : Nat → Int32} {j : Nat} {x : Int32} {k : (Nat → Int32) → Option β} (h : j < n) (hn : n < 2147483648) : wrZ n f (nI j) x k = k (upd f j (vp_nar .boolean x)) := by
  have h1 : ¬ (nI j < 0 ∨ n ≤ (nI j).toNatClampNeg) := nI_in h hn
  rw [wrZ, if_neg h1, nI_clamp (by omega)]
theorem wrLN {β : Type} {n : Nat} {f : Nat → Int64} {j : Nat} {x : Int64} {k : (Nat → Int64) → Option β} (h : j < n) (hn : n < 2147483648) : wrL n f (nI j) x k = k (vp_updL f j x) := by
  have h1 : ¬ (nI j < 0 ∨ n ≤ (nI j).toNatClampNeg) := nI_in h hn
  rw [wrL, if_neg h1, nI_clamp (by omega)]
theorem cb1_s {A β : Type} (a : A) (k : A → Option β) : cb1 (some a) k = k a := rfl
theorem cb2_s {A B β : Type} (a : A) (b : B) (k : A → B → Option β) : cb2 (some (a, b)) k = k a b := rfl
theorem gd_s {β : Type} {c : Prop} {i : Decidable c} {k : Option β} (h : c) : @gd β c i k = k := if_pos h
theorem leN {a b : Nat} (ha : a < 2147483648) (hb : b < 2147483648) : (nI a ≤ nI b) = (a ≤ b) := propext (nI_leI ha hb)
theorem ltN {a b : Nat} (ha : a < 2147483648) (hb : b < 2147483648) : (nI a < nI b) = (a < b) := propext (nI_ltI ha hb)
theorem eqN {a b : Nat} (ha : a < 2147483648) (hb : b < 2147483648) : (nI a = nI b) = (a = b) := propext (nI_eq ha hb)
theorem kof (n : Nat) : Int32.ofNat n = nI n := rfl
theorem mulN (a b : Nat) : nI a * nI b = nI (a * b) := pk_mul a b
theorem subN {a b : Nat} (h : b ≤ a) : nI a - nI b = nI (a - b) := pk_sub h
theorem m1_lt {a : Nat} (ha : a < 2147483648) : (-1 : Int32) < nI a := by
  rw [Int32.lt_iff_toInt_lt, nI_toInt ha]
  have : (-1 : Int32).toInt = -1 := by decide
  omega
theorem m1_ne {a : Nat} (ha : a < 2147483648) : ¬ (-1 : Int32) = nI a := fun h => by
  have h1 := m1_lt ha
  rw [h] at h1
  exact absurd h1 (by rw [ltN ha ha]; omega)
theorem ne_m1 {a : Nat} (ha : a < 2147483648) : ¬ nI a = (-1 : Int32) := fun h => m1_ne ha h.symm
theorem n0 : (0 : Int32) = nI 0 := rfl
theorem n1 : (1 : Int32) = nI 1 := rfl
theorem n2 : (2 : Int32) = nI 2 := rfl
theorem n3 : (3 : Int32) = nI 3 := rfl
theorem n5 : (5 : Int32) = nI 5 := rfl
theorem n6 : (6 : Int32) = nI 6 := rfl
theorem n7 : (7 : Int32) = nI 7 := rfl
theorem n9 : (9 : Int32) = nI 9 := rfl
theorem n10 : (10 : Int32) = nI 10 := rfl
theorem upd_s (f : Nat → Int32) (k : Nat) (x : Int32) : upd f k x k = x := pk_us
theorem upd_n {f : Nat → Int32} {k j : Nat} {x : Int32} (h : j ≠ k) : upd f k x j = f j := pk_un h
/-! texts: T j is the byte at j, 999 behind the end -/
def TX (T : Nat → Nat) (n cap : Nat) (b : Nat → Int32) : Prop := n ≤ cap ∧ cap ≤ 80 ∧ (∀ j, j < n → T j < 256 ∧ b j = nI (T j)) ∧ ∀ j, n ≤ j → T j = 999
def cI (c : Nat) : Int32 := if c < 256 then nI c else -1
def lc (c : Nat) : Nat := if 97 ≤ c ∧ c ≤ 102 then c - 97 else 6
theorem lc_le (c : Nat) : lc c ≤ 6 := by unfold lc; split <;> omega
theorem Te_byteAt_ok {T : Nat → Nat} {n cap : Nat} {b : Nat → Int32} (h : TX T n cap b) {j : Nat} (hj : j < 1000) : Te_byteAt cap (nI n) b (nI j) = some (cI (T j)) := by
  obtain ⟨h1, h2, h3, h4⟩ := h
  unfold Te_byteAt cI
  have a1 : ¬ nI j < 0 := nI_pos (by omega)
  rw [if_neg a1, kof]
  by_cases hl : j < n
  · have a2 : ¬ nI n ≤ nI j := by rw [leN (by omega) (by omega)]; omega
    have a3 : nI j < nI cap := by rw [ltN (by omega) (by omega)]; omega
    rw [if_neg a2, if_pos a3, rdN (by omega) (by omega), (h3 j hl).2, if_pos (h3 j hl).1]
  · have a2 : nI n ≤ nI j := by rw [leN (by omega) (by omega)]; omega
    rw [if_pos a2, h4 j (by omega), if_neg (by omega)]
theorem ND_letterOf_ok (c : Nat) : ND_letterOf (cI c) = some (if lc c < 6 then nI (lc c) else -1) := by
  unfold ND_letterOf cI lc
  by_cases hc : c < 256
  · rw [if_pos hc]
    rw [show (97 : Int32) = nI 97 from rfl, show (102 : Int32) = nI 102 from rfl]
    by_cases h1 : c < 97
    · rw [if_pos (show nI c < nI 97 by rw [ltN (by omega) (by omega)]; exact h1), if_neg (by omega : ¬ (97 ≤ c ∧ c ≤ 102)), if_neg (by omega)]
    · rw [if_neg (show ¬ nI c < nI 97 by rw [ltN (by omega) (by omega)]; exact h1)]
      by_cases h2 : 102 < c
      · rw [if_pos (show nI 102 < nI c by rw [ltN (by omega) (by omega)]; exact h2), if_neg (by omega : ¬ (97 ≤ c ∧ c ≤ 102)), if_neg (by omega)]
      · rw [if_neg (show ¬ nI 102 < nI c by rw [ltN (by omega) (by omega)]; exact h2), if_pos (by omega : 97 ≤ c ∧ c ≤ 102), if_pos (by omega), subN (by omega)]
  · rw [if_neg hc, if_neg (by omega : ¬ (97 ≤ c ∧ c ≤ 102)), if_pos (by decide)]
    rfl
/-- how many letters from p on, m at most -/
def run (T : Nat → Nat) : Nat → Nat → Nat
  | _, 0 => 0
  | p, m + 1 => if lc (T p) < 6 then 1 + run T (p + 1) m else 0
theorem run_le (T : Nat → Nat) : ∀ (m p : Nat), run T p m ≤ m
  | 0, _ => Nat.le_refl 0
  | m + 1, p => by
    have := run_le T m (p + 1)
    unfold run; split <;> omega
theorem Na_tl_loop {T : Nat → Nat} {n cap : Nat} {b : Nat → Int32} (h : TX T n cap b) (F p k : Nat) (hp : p < 500) (hk : k < 10) : ∀ (m i f : Nat) (w : Nat → Int32), i + m = 6 → m < f →
    ∃ w', Na_takeLetters_l3 F cap (nI n) b (nI p) (nI k) f (nI i) w = some (nI (i + run T (p + i) m), w') ∧ (∀ j, j < run T (p + i) m → w' (6 * k + i + j) = nI (lc (T (p + i + j)))) ∧ ∀ q, (q < 6 * k + i ∨ 6 * k + 6 ≤ q) → w' q = w q := by
  intro m
  induction m with
  | zero =>
    intro i f w hi hf
    obtain ⟨f, rfl⟩ : ∃ f', f = f' + 1 := ⟨f - 1, by omega⟩
    refine ⟨w, ?_, fun j hj => absurd hj (Nat.not_lt_zero j), fun _ _ => rfl⟩
    show Na_takeLetters_b3 F cap (nI n) b (nI p) (nI k) _ (nI i) w = _
    unfold Na_takeLetters_b3
    rw [n6, if_pos (by rw [leN (by omega) (by omega)]; omega), show i = 6 by omega]
    rfl
  | succ m ih =>
    intro i f w hi hf
    obtain ⟨f, rfl⟩ : ∃ f', f = f' + 1 := ⟨f - 1, by omega⟩
    have e0 : Na_takeLetters_l3 F cap (nI n) b (nI p) (nI k) (f + 1) (nI i) w = Na_takeLetters_b3 F cap (nI n) b (nI p) (nI k) (Na_takeLetters_l3 F cap (nI n) b (nI p) (nI k) f) (nI i) w := rfl
    rw [e0]
    unfold Na_takeLetters_b3
    rw [n6, if_neg (by rw [leN (by omega) (by omega)]; omega), nI_add, Te_byteAt_ok h (by omega), cb1_s, ND_letterOf_ok, cb1_s]
    by_cases hc : lc (T (p + i)) < 6
    · rw [if_pos hc, if_neg (ne_m1 (by omega)), mulN, nI_add, wrN (by omega) (by omega), n1, nI_add]
      obtain ⟨w', h1, h2, h3⟩ := ih (i + 1) f (upd w (k * 6 + i) (nI (lc (T (p + i))))) (by omega) (by omega)
      have er : run T (p + i) (m + 1) = 1 + run T (p + (i + 1)) m := by rw [run, if_pos hc]; rfl
      refine ⟨w', ?_, fun j hj => ?_, fun q hq => ?_⟩
      · rw [h1, er, Nat.add_assoc]
      · cases j with
        | zero =>
          rw [h3 _ (Or.inl (by omega)), show 6 * k + i + 0 = k * 6 + i by omega, upd_s]; rfl
        | succ j =>
          have := h2 j (by omega)
          rw [show 6 * k + i + (j + 1) = 6 * k + (i + 1) + j by omega, this, show p + (i + 1) + j = p + i + (j + 1) by omega]
      · rw [h3 q (by omega), upd_n (by omega)]
    · rw [if_neg hc, if_pos rfl]
      have er : run T (p + i) (m + 1) = 0 := by rw [run, if_neg hc]
      exact ⟨w, by rw [er]; rfl, fun j hj => absurd hj (by omega), fun _ _ => rfl⟩
