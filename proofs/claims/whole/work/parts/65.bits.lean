/-! masks: Nat behind Int32, bit by bit -/
theorem bAnd (a b : Nat) : nI a &&& nI b = nI (a &&& b) := by
  apply Int32.toBitVec_inj.1
  show BitVec.ofNat 32 a &&& BitVec.ofNat 32 b = BitVec.ofNat 32 (a &&& b)
  apply BitVec.eq_of_getLsbD_eq
  intro i hi
  simp [hi]
theorem bOr (a b : Nat) : nI a ||| nI b = nI (a ||| b) := by
  apply Int32.toBitVec_inj.1
  show BitVec.ofNat 32 a ||| BitVec.ofNat 32 b = BitVec.ofNat 32 (a ||| b)
  apply BitVec.eq_of_getLsbD_eq
  intro i hi
  simp [hi]
def ndf (a b : Nat) : Nat := a ^^^ (a &&& b)
theorem ndf_bit (a b i : Nat) : (ndf a b).testBit i = (a.testBit i && !b.testBit i) := by
  unfold ndf
  rw [Nat.testBit_xor, Nat.testBit_and]
  cases a.testBit i <;> cases b.testBit i <;> rfl
theorem bNot (a b : Nat) : nI a &&& (nI b ^^^ (-1)) = nI (ndf a b) := by
  apply Int32.toBitVec_inj.1
  show BitVec.ofNat 32 a &&& (BitVec.ofNat 32 b ^^^ BitVec.allOnes 32) = BitVec.ofNat 32 (ndf a b)
  apply BitVec.eq_of_getLsbD_eq
  intro i hi
  simp only [BitVec.getLsbD_and, BitVec.getLsbD_xor, BitVec.getLsbD_ofNat, BitVec.getLsbD_allOnes, hi, decide_true, Bool.true_and, ndf_bit]
  cases a.testBit i <;> cases b.testBit i <;> rfl
theorem sh1 : ∀ k, k < 31 → (1 : Int32) <<< (nI k &&& 31) = nI (2 ^ k) := by decide +kernel
theorem p2_lt {k n : Nat} (h : k < n) : 2 ^ k < 2 ^ n := Nat.pow_lt_pow_right (by decide) h
theorem p2_le {k n : Nat} (h : k ≤ n) : 2 ^ k ≤ 2 ^ n := Nat.pow_le_pow_right (by decide) h
theorem and_p2 (m k : Nat) : m &&& 2 ^ k = if m.testBit k then 2 ^ k else 0 := by
  apply Nat.eq_of_testBit_eq
  intro i
  rw [Nat.testBit_and, Nat.testBit_two_pow]
  by_cases h : k = i
  · subst h
    cases hb : m.testBit k
    · simp
    · simp [Nat.testBit_two_pow]
  · cases hb : m.testBit k
    · simp [h]
    · simp [Nat.testBit_two_pow, h]
theorem bBit {m k : Nat} (hk : k < 31) : (nI m &&& nI (2 ^ k) = 0) = (m.testBit k = false) := by
  rw [bAnd, and_p2, n0]
  have h2 := p2_lt hk
  have h3 : 0 < 2 ^ k := Nat.two_pow_pos k
  cases hb : m.testBit k
  · exact propext ⟨fun _ => rfl, fun _ => rfl⟩
  · rw [if_pos rfl, eqN (by omega) (by omega)]
    exact propext ⟨fun h => by omega, fun h => by cases h⟩
/-- the numbers below n of a kind, as bits -/
def bo (p : Nat → Bool) : Nat → Nat
  | 0 => 0
  | n + 1 => bo p n + if p n then 2 ^ n else 0
theorem bo_lt (p : Nat → Bool) : ∀ n, bo p n < 2 ^ n
  | 0 => Nat.one_pos
  | n + 1 => by
    have h := bo_lt p n
    rw [bo, Nat.pow_succ]; split <;> omega
theorem bo_or (p : Nat → Bool) (n : Nat) : bo p n ||| 2 ^ n = bo p n + 2 ^ n := by
  have h := Nat.two_pow_add_eq_or_of_lt (bo_lt p n) 1
  rw [Nat.mul_one] at h
  rw [Nat.or_comm, ← h, Nat.add_comm]
theorem bo_bit (p : Nat → Bool) : ∀ (n i : Nat), (bo p n).testBit i = (decide (i < n) && p i)
  | 0, i => by simp [bo]
  | n + 1, i => by
    rw [bo]
    by_cases hp : p n = true
    · rw [if_pos hp, ← bo_or, Nat.testBit_or, bo_bit p n i, Nat.testBit_two_pow]
      by_cases h : n = i
      · subst h; simp [hp]
      · by_cases h2 : i < n
        · simp [h, h2, show i < n + 1 by omega]
        · simp [h, h2, show ¬ i < n + 1 by omega]
    · rw [if_neg hp, Nat.add_zero, bo_bit p n i]
      by_cases h : i = n
      · subst h; simp [Bool.eq_false_iff.mpr hp]
      · by_cases h2 : i < n
        · simp [h2, show i < n + 1 by omega]
        · simp [h2, show ¬ i < n + 1 by omega]
theorem bo_ext {p q : Nat → Bool} : ∀ {n : Nat}, (∀ i, i < n → p i = q i) → bo p n = bo q n
  | 0, _ => rfl
  | n + 1, h => by rw [bo, bo, bo_ext (fun i hi => h i (by omega)), h n (by omega)]
theorem bo_orI {p : Nat → Bool} {n : Nat} (h : p n = true) : nI (bo p n) ||| nI (2 ^ n) = nI (bo p (n + 1)) := by
  rw [bOr, bo_or, bo, if_pos h]
theorem bo_no {p : Nat → Bool} {n : Nat} (h : p n = false) : bo p (n + 1) = bo p n := by
  rw [bo, h]; rfl
theorem m_ext {a b n : Nat} (ha : a < 2 ^ n) (hb : b < 2 ^ n) (h : ∀ i, i < n → a.testBit i = b.testBit i) : a = b := by
  apply Nat.eq_of_testBit_eq
  intro i
  by_cases hi : i < n
  · exact h i hi
  · rw [Nat.testBit_lt_two_pow (Nat.lt_of_lt_of_le ha (p2_le (by omega))), Nat.testBit_lt_two_pow (Nat.lt_of_lt_of_le hb (p2_le (by omega)))]
theorem m_0 {a n : Nat} (ha : a < 2 ^ n) (h : ∀ i, i < n → a.testBit i = false) : a = 0 := m_ext ha (Nat.two_pow_pos n) (fun i hi => by rw [h i hi, Nat.zero_testBit])
theorem ndf_lt {a b n : Nat} (ha : a < 2 ^ n) : ndf a b < 2 ^ n := by
  unfold ndf
  exact Nat.xor_lt_two_pow ha (Nat.lt_of_le_of_lt Nat.and_le_left ha)
theorem and_lt {a b n : Nat} (ha : a < 2 ^ n) : a &&& b < 2 ^ n := Nat.lt_of_le_of_lt Nat.and_le_left ha
/-- all of N -/
theorem allI {N : Nat} (hN : N ≤ 10) : ((1 : Int32) <<< (nI N &&& 31)) - 1 = nI (2 ^ N - 1) := by
  have h := p2_le hN
  have h2 : 0 < 2 ^ N := Nat.two_pow_pos N
  rw [sh1 N (by omega), n1, subN (by omega)]
theorem all_bit {N i : Nat} : (2 ^ N - 1).testBit i = decide (i < N) := Nat.testBit_two_pow_sub_one N i
theorem and_all {m N : Nat} (h : m < 2 ^ N) : m &&& (2 ^ N - 1) = m := by rw [Nat.and_two_pow_sub_one_eq_mod, Nat.mod_eq_of_lt h]
/-! weights -/
def wt (od : Nat → Nat) (m : Nat) : Nat → Nat
  | 0 => 0
  | n + 1 => wt od m n + if m.testBit n then od n else 0
theorem wt_ext {od od2 : Nat → Nat} {m m2 : Nat} : ∀ {n : Nat}, (∀ i, i < n → m.testBit i = m2.testBit i ∧ (m.testBit i = true → od i = od2 i)) → wt od m n = wt od2 m2 n
  | 0, _ => rfl
  | n + 1, h => by
    rw [wt, wt, wt_ext (fun i hi => h i (by omega))]
    obtain ⟨h1, h2⟩ := h n (by omega)
    rw [← h1]
    cases hb : m.testBit n
    · rfl
    · rw [if_pos rfl, if_pos rfl, h2 hb]
theorem wt_more {od : Nat → Nat} {m n : Nat} (hm : m < 2 ^ n) : ∀ k, wt od m (n + k) = wt od m n
  | 0 => rfl
  | k + 1 => by
    rw [show n + (k + 1) = (n + k) + 1 from rfl, wt]
    rw [wt_more hm k, Nat.testBit_lt_two_pow (Nat.lt_of_lt_of_le hm (p2_le (Nat.le_add_right n k) : 2 ^ n ≤ 2 ^ (n + k)))]; rfl
theorem wt_add {od : Nat → Nat} {k m : Nat} (h : m < 2 ^ k) : wt od (2 ^ k + m) (k + 1) = wt od m k + od k := by
  have e : 2 ^ k + m = 2 ^ k ||| m := by
    have := Nat.two_pow_add_eq_or_of_lt h 1
    rw [Nat.mul_one] at this; exact this
  rw [wt, e, Nat.testBit_or, Nat.testBit_two_pow]
  simp only [decide_true, Bool.true_or, if_true]
  congr 1
  refine wt_ext (fun i hi => ⟨?_, fun _ => rfl⟩)
  rw [Nat.testBit_or, Nat.testBit_two_pow]
  simp [show ¬ k = i by omega]
theorem wt_le {od : Nat → Nat} {c m : Nat} (hc : ∀ i, od i ≤ c) : ∀ n, wt od m n ≤ n * c
  | 0 => Nat.zero_le _
  | n + 1 => by
    have h := wt_le (m := m) hc n
    have h1 := hc n
    rw [wt, Nat.succ_mul]; split <;> omega
/-! counting bits -/
def pop (m : Nat) : Nat := (if m.testBit 0 then 1 else 0) + (if m.testBit 1 then 1 else 0) + (if m.testBit 2 then 1 else 0) + (if m.testBit 3 then 1 else 0) + (if m.testBit 4 then 1 else 0) + (if m.testBit 5 then 1 else 0) + (if m.testBit 6 then 1 else 0) + (if m.testBit 7 then 1 else 0) + (if m.testBit 8 then 1 else 0) + (if m.testBit 9 then 1 else 0)
theorem Jint_bitCount_ok : ∀ m, m < 1024 → Jint_bitCount (nI m) = some (nI (pop m)) := by decide +kernel
theorem pop_le (m : Nat) : pop m ≤ 10 := by
  have h : ∀ b : Bool, (if b then 1 else 0) ≤ 1 := by decide
  have h0 := h (m.testBit 0); have h1 := h (m.testBit 1); have h2 := h (m.testBit 2); have h3 := h (m.testBit 3); have h4 := h (m.testBit 4)
  have h5 := h (m.testBit 5); have h6 := h (m.testBit 6); have h7 := h (m.testBit 7); have h8 := h (m.testBit 8); have h9 := h (m.testBit 9)
  unfold pop; omega
theorem Mo_ones_12 : ∀ m, m < 1024 → Mo_ones_l4 0 0 12 0 (nI m) = some (nI (pop m)) := by decide +kernel
theorem Mo_ones_F (F : Nat) (x : Int32) : ∀ f, Mo_ones_l4 F x f = Mo_ones_l4 0 0 f
  | 0 => rfl
  | f + 1 => by
    show Mo_ones_b4 F x (Mo_ones_l4 F x f) = Mo_ones_b4 0 0 (Mo_ones_l4 0 0 f)
    rw [Mo_ones_F F x f]; rfl
theorem Mo_ones_mono : ∀ (f : Nat) (a b r : Int32), Mo_ones_l4 0 0 f a b = some r → Mo_ones_l4 0 0 (f + 1) a b = some r
  | 0, _, _, _, h => by cases h
  | f + 1, a, b, r, h => by
    have h1 : Mo_ones_b4 0 0 (Mo_ones_l4 0 0 f) a b = some r := h
    show Mo_ones_b4 0 0 (Mo_ones_l4 0 0 (f + 1)) a b = some r
    unfold Mo_ones_b4 at h1 ⊢
    by_cases hb : b = 0
    · rw [if_pos hb] at h1 ⊢; exact h1
    · rw [if_neg hb] at h1 ⊢; exact Mo_ones_mono f _ _ _ h1
theorem Mo_ones_ok {F : Nat} (hF : 100 ≤ F) {m : Nat} (hm : m < 1024) : Mo_ones F (nI m) = some (nI (pop m)) := by
  unfold Mo_ones
  rw [Mo_ones_F]
  obtain ⟨k, rfl⟩ : ∃ k, F = 12 + k := ⟨F - 12, by omega⟩
  have key : ∀ k, Mo_ones_l4 0 0 (12 + k) 0 (nI m) = some (nI (pop m)) := by
    intro k
    induction k with
    | zero => exact Mo_ones_12 m hm
    | succ k ih => exact Mo_ones_mono _ _ _ _ ih
  exact key k
theorem Mo_isIn_ok {m k : Nat} (hm : m < 2147483648) (hk : k < 31) : Mo_isIn (nI m) (nI k) = some (if m.testBit k then 1 else 0) := by
  unfold Mo_isIn
  have e : nI m >>> (nI k &&& 31) = nI (m / 2 ^ k) := by
    have hs : ∀ k, k < 31 → ((nI k &&& 31).toBitVec.smod 32).toNat = k := by decide +kernel
    exact pk_shrN hm _ _ (hs k hk)
  rw [e, n1, bAnd]
  have e2 : m / 2 ^ k &&& 1 = (m.testBit k).toNat := by
    rw [Nat.testBit_eq_decide_div_mod_eq, Nat.and_one_is_mod]
    have := Nat.mod_lt (m / 2 ^ k) (show 0 < 2 by decide)
    by_cases h : m / 2 ^ k % 2 = 1
    · simp [h]
    · simp [show m / 2 ^ k % 2 = 0 by omega]
  rw [e2]
  cases m.testBit k <;> rfl
