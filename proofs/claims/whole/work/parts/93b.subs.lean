/-! parts of a set in rising order; the nights to be sure -/
def sub (s b : Nat) : Prop := ∀ j, s.testBit j = true → b.testBit j = true
theorem ndf_2 (x y : Nat) : ndf x y = 2 * ndf (x / 2) (y / 2) + if x % 2 = 1 ∧ y % 2 = 0 then 1 else 0 := by
  have h1 : ndf x y / 2 = ndf (x / 2) (y / 2) := by
    apply Nat.eq_of_testBit_eq
    intro i
    rw [Nat.testBit_div_two, ndf_bit, ndf_bit, Nat.testBit_div_two, Nat.testBit_div_two]
  have h2 : ndf x y % 2 = if x % 2 = 1 ∧ y % 2 = 0 then 1 else 0 := by
    have h := ndf_bit x y 0
    rw [Nat.testBit_zero, Nat.testBit_zero, Nat.testBit_zero] at h
    have hx := Nat.mod_two_eq_zero_or_one x
    have hy := Nat.mod_two_eq_zero_or_one y
    have hn := Nat.mod_two_eq_zero_or_one (ndf x y)
    rcases hx with hx | hx <;> rcases hy with hy | hy <;> rcases hn with hn | hn <;> simp [hx, hy, hn] at h ⊢
  omega
theorem sub_2 {s b : Nat} (h : sub s b) : sub (s / 2) (b / 2) ∧ (s % 2 = 1 → b % 2 = 1) := by
  refine ⟨fun j hj => ?_, fun hq => ?_⟩
  · rw [Nat.testBit_div_two] at hj ⊢; exact h _ hj
  · have := h 0 (by rw [Nat.testBit_zero, hq]; rfl)
    rw [Nat.testBit_zero] at this; simpa using this
theorem sub_mk {s b : Nat} (h : sub (s / 2) (b / 2)) (h2 : s % 2 = 1 → b % 2 = 1) : sub s b := by
  intro j hj
  cases j with
  | zero => rw [Nat.testBit_zero] at hj ⊢; simpa using h2 (by simpa using hj)
  | succ j =>
    have := h j (by rw [Nat.testBit_div_two]; exact hj)
    rwa [Nat.testBit_div_two] at this
theorem sub_le : ∀ (m : Nat) {s b : Nat}, b < 2 ^ m → sub s b → s ≤ b
  | 0, s, b, hb, h => by
    have : b = 0 := by omega
    subst this
    have : s = 0 := Nat.eq_of_testBit_eq (fun i => by
      cases hq : s.testBit i with
      | false => rw [Nat.zero_testBit]
      | true => exact absurd (h i hq) (by rw [Nat.zero_testBit]; decide))
    omega
  | m + 1, s, b, hb, h => by
    have h2 := sub_2 h
    have := sub_le m (show b / 2 < 2 ^ m by rw [Nat.pow_succ] at hb; omega) h2.1
    have h3 := h2.2
    omega
theorem ndf_dif : ∀ (m : Nat) {l b : Nat}, b < 2 ^ m → sub l b → ndf b (b - l) = l
  | 0, l, b, hb, h => by
    have := sub_le 0 hb h
    have hb0 : b = 0 := by omega
    have hl0 : l = 0 := by omega
    subst hb0; subst hl0; rfl
  | m + 1, l, b, hb, h => by
    have h2 := sub_2 h
    have hb2 : b / 2 < 2 ^ m := by rw [Nat.pow_succ] at hb; omega
    have ih := ndf_dif m hb2 h2.1
    have hle := sub_le m hb2 h2.1
    have h3 := h2.2
    rw [ndf_2, show (b - l) / 2 = b / 2 - l / 2 by omega, ih]
    split <;> omega
def cntb : Nat → Nat → Nat
  | 0, _ => 0
  | m + 1, b => b % 2 + cntb m (b / 2)
def dep : Nat → Nat → Nat → Nat
  | 0, _, _ => 0
  | m + 1, b, i => if b % 2 = 1 then 2 * dep m (b / 2) (i / 2) + i % 2 else 2 * dep m (b / 2) i
theorem dep_0 : ∀ (m b : Nat), dep m b 0 = 0
  | 0, _ => rfl
  | m + 1, b => by rw [dep]; simp [dep_0 m]
theorem dep_sub : ∀ (m b i : Nat), sub (dep m b i) b
  | 0, b, i => fun j hj => by rw [dep, Nat.zero_testBit] at hj; cases hj
  | m + 1, b, i => by
    rw [dep]
    split
    · next h =>
      refine sub_mk ?_ (fun _ => h)
      rw [show (2 * dep m (b / 2) (i / 2) + i % 2) / 2 = dep m (b / 2) (i / 2) by omega]
      exact dep_sub m _ _
    · refine sub_mk ?_ (fun hq => by omega)
      rw [show (2 * dep m (b / 2) i) / 2 = dep m (b / 2) i by omega]
      exact dep_sub m _ _
theorem cntb_odd {m b : Nat} (h : b % 2 = 1) : 2 ^ cntb (m + 1) b = 2 * 2 ^ cntb m (b / 2) := by
  rw [cntb, h, Nat.add_comm, Nat.pow_succ]; omega
theorem cntb_even {m b : Nat} (h : ¬ b % 2 = 1) : 2 ^ cntb (m + 1) b = 2 ^ cntb m (b / 2) := by
  rw [cntb, show b % 2 = 0 by omega, Nat.zero_add]
theorem dep_next : ∀ (m : Nat) {b i : Nat}, b < 2 ^ m → i + 1 < 2 ^ cntb m b → dep m b i < b ∧ ndf b (b - dep m b i - 1) = dep m b (i + 1)
  | 0, b, i, hb, hi => by rw [cntb] at hi; omega
  | m + 1, b, i, hb, hi => by
    have hb2 : b / 2 < 2 ^ m := by rw [Nat.pow_succ] at hb; omega
    by_cases h : b % 2 = 1
    · rw [cntb_odd h] at hi
      rw [dep, if_pos h, dep, if_pos h]
      have hs := dep_sub m (b / 2) (i / 2)
      have hle := sub_le m hb2 hs
      rcases Nat.mod_two_eq_zero_or_one i with hi2 | hi2
      · have hd := ndf_dif m hb2 hs
        refine ⟨by omega, ?_⟩
        rw [ndf_2, show (b - (2 * dep m (b / 2) (i / 2) + i % 2) - 1) / 2 = b / 2 - dep m (b / 2) (i / 2) by omega, hd, if_pos ⟨h, by omega⟩, show (i + 1) / 2 = i / 2 by omega]; omega
      · obtain ⟨h1, h2⟩ := dep_next m hb2 (show i / 2 + 1 < 2 ^ cntb m (b / 2) by omega)
        refine ⟨by omega, ?_⟩
        rw [ndf_2, show (b - (2 * dep m (b / 2) (i / 2) + i % 2) - 1) / 2 = b / 2 - dep m (b / 2) (i / 2) - 1 by omega, h2, if_neg (by omega), show (i + 1) / 2 = i / 2 + 1 by omega]; omega
    · rw [cntb_even h] at hi
      rw [dep, if_neg h, dep, if_neg h]
      obtain ⟨h1, h2⟩ := dep_next m hb2 hi
      refine ⟨by omega, ?_⟩
      rw [ndf_2, show (b - 2 * dep m (b / 2) i - 1) / 2 = b / 2 - dep m (b / 2) i - 1 by omega, h2, if_neg (by omega)]; omega
theorem dep_all : ∀ (m : Nat) {b s : Nat}, b < 2 ^ m → sub s b → ∃ i, i < 2 ^ cntb m b ∧ dep m b i = s
  | 0, b, s, hb, h => ⟨0, by rw [cntb]; omega, by have := sub_le 0 hb h; rw [dep]; omega⟩
  | m + 1, b, s, hb, h => by
    have hb2 : b / 2 < 2 ^ m := by rw [Nat.pow_succ] at hb; omega
    have h2 := sub_2 h
    obtain ⟨i, hi, he⟩ := dep_all m hb2 h2.1
    by_cases hq : b % 2 = 1
    · refine ⟨2 * i + s % 2, by rw [cntb_odd hq]; omega, ?_⟩
      rw [dep, if_pos hq, show (2 * i + s % 2) / 2 = i by omega, he]; omega
    · refine ⟨i, by rw [cntb_even hq]; omega, ?_⟩
      have h3 := h2.2
      rw [dep, if_neg hq, he]; omega
theorem dep_lt : ∀ (m : Nat) {b i j : Nat}, i < j → j < 2 ^ cntb m b → dep m b i < dep m b j
  | 0, b, i, j, h, hj => by rw [cntb] at hj; omega
  | m + 1, b, i, j, h, hj => by
    by_cases hq : b % 2 = 1
    · rw [cntb_odd hq] at hj
      rw [dep, if_pos hq, dep, if_pos hq]
      by_cases e : i / 2 = j / 2
      · rw [e]; omega
      · have := dep_lt m (b := b / 2) (i := i / 2) (j := j / 2) (by omega) (by omega); omega
    · rw [cntb_even hq] at hj
      rw [dep, if_neg hq, dep, if_neg hq]
      have := dep_lt m (b := b / 2) h hj; omega
theorem pop_cntb : ∀ M, M < 1024 → pop M = cntb 10 M := by decide +kernel
theorem xor_neg : ∀ d, d < 1024 → (nI d ^^^ (-1)) + nI (d + 1) = 0 := by decide +kernel
theorem nx_ok {l M : Nat} (hl : l < M) (hM : M < 1024) : (nI l - nI M) &&& nI M = nI (ndf M (M - l - 1)) := by
  have h := xor_neg (M - l - 1) (by omega)
  have e : nI l - nI M = nI (M - l - 1) ^^^ (-1) := by
    have h2 : nI l = (nI (M - l - 1) ^^^ (-1)) + nI M := by
      rw [show nI M = nI (M - l - 1 + 1) + nI l by rw [nI_add]; exact congrArg nI (by omega), ← Int32.add_assoc, h, Int32.zero_add]
    rw [h2, Int32.add_sub_cancel]
  rw [e, Int32.and_comm, bNot]
theorem sub_and {s b : Nat} : sub (b &&& s) b := fun j hj => by
  rw [Nat.testBit_and] at hj; simp at hj; exact hj.1
theorem sub_ndf (m k : Nat) : sub (ndf m (2 ^ k)) m := fun j hj => by
  rw [ndf_bit] at hj; simp at hj; exact hj.1
theorem sub_tr {a b c : Nat} (h1 : sub a b) (h2 : sub b c) : sub a c := fun j hj => h2 j (h1 j hj)
theorem sub_lt {s b N : Nat} (hb : b < 2 ^ N) (h : sub s b) (hne : s ≠ b) : s < b := by
  have := sub_le N hb h; omega
theorem ndf_ne {m k : Nat} (h : m.testBit k = true) : ndf m (2 ^ k) ≠ m := fun hq => by
  have := ndf_p2 m k k
  rw [hq, h] at this; simp at this
theorem ndf_sub0 {s M : Nat} : ndf s M = 0 ↔ sub s M := by
  refine ⟨fun h j hj => ?_, fun h => ?_⟩
  · have := ndf_bit s M j
    rw [h, Nat.zero_testBit, hj] at this
    simpa using this.symm
  · refine Nat.eq_of_testBit_eq (fun i => ?_)
    rw [ndf_bit, Nat.zero_testBit]
    cases hs : s.testBit i with
    | false => rfl
    | true => rw [h i hs]; rfl
