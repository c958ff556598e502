/-! what the wisest way costs: numbers alone -/
def ww (T : Nat → Nat) (m : Nat) : Nat := wt (Od T) m 10
def UU (T tm : Nat → Nat) (m : Nat) : Nat := ww T m * ruinN tm
def gv (T tm : Nat → Nat) (v : Nat → Nat) (n m k : Nat) : Nat := Od T k * (tm 0 * 2 ^ n) + ww T (ndf m (2 ^ k)) * tm 1 + v (ndf m (2 ^ k))
def sm (f : Nat → Nat) : Nat → Nat
  | 0 => 0
  | k + 1 => sm f k + f k
theorem sm_rot (f : Nat → Nat) : sm (fun c => f ((c + 1) % 7)) 7 = sm f 7 := by
  simp only [sm, Nat.reduceAdd, Nat.reduceMod, Nat.zero_add]; omega
theorem sm_le {f g : Nat → Nat} : ∀ {k : Nat}, (∀ c, c < k → f c ≤ g c) → sm f k ≤ sm g k
  | 0, _ => Nat.le_refl _
  | k + 1, h => by have h1 := h k (by omega); have h2 := sm_le (f := f) (g := g) (k := k) (fun c hc => h c (by omega)); rw [sm, sm]; omega
theorem sm_lt {f g : Nat → Nat} {j : Nat} : ∀ {k : Nat}, (∀ c, c < k → f c ≤ g c) → j < k → f j < g j → sm f k < sm g k
  | 0, _, h, _ => absurd h (Nat.not_lt_zero _)
  | k + 1, h, hj, hl => by
    have h1 := h k (by omega)
    rw [sm, sm]
    by_cases e : j = k
    · subst e
      have h2 := sm_le (f := f) (g := g) (k := j) (fun c hc => h c (by omega)); omega
    · have := sm_lt (f := f) (g := g) (j := j) (k := k) (fun c hc => h c (by omega)) (by omega) hl; omega
theorem sm_mul (f : Nat → Nat) (r : Nat) : ∀ k, sm (fun c => f c * r) k = sm f k * r
  | 0 => by rw [sm, sm, Nat.zero_mul]
  | k + 1 => by rw [sm, sm, sm_mul f r k, Nat.add_mul]
theorem sm_ext {f g : Nat → Nat} : ∀ {k : Nat}, (∀ c, c < k → f c = g c) → sm f k = sm g k
  | 0, _ => rfl
  | k + 1, h => by rw [sm, sm, h k (by omega), sm_ext (fun c hc => h c (by omega))]
def lv (T : Nat → Nat) (N : Nat) (v : Nat → Nat) (m p : Nat) : Nat := sm (fun c => v (m &&& snd T N p c)) 7
theorem wt_split (T : Nat → Nat) (N m p : Nat) : ∀ n, n ≤ N → sm (fun c => wt (Od T) (m &&& snd T N p c) n) 7 = wt (Od T) m n
  | 0, _ => rfl
  | n + 1, h => by
    have ih := wt_split T N m p n (by omega)
    have hs := sdc_lt T n p
    simp only [sm, wt] at ih ⊢
    have hb : ∀ c, (m &&& snd T N p c).testBit n = (m.testBit n && (sdc T n p == c)) := fun c => by
      rw [Nat.testBit_and, snd, bo_bit, decide_eq_true (show n < N by omega), Bool.true_and]
    simp only [hb]
    cases hm : m.testBit n with
    | false => simp only [Bool.false_and, if_neg (show ¬ (false = true) by decide)]; omega
    | true =>
      rcases (show sdc T n p = 0 ∨ sdc T n p = 1 ∨ sdc T n p = 2 ∨ sdc T n p = 3 ∨ sdc T n p = 4 ∨ sdc T n p = 5 ∨ sdc T n p = 6 by omega) with e | e | e | e | e | e | e <;> simp [e] <;> omega
theorem ww_split {T : Nat → Nat} {N m : Nat} (hN : N ≤ 10) (hm : m < 2 ^ N) (p : Nat) : sm (fun c => ww T (m &&& snd T N p c)) 7 = ww T m := by
  unfold ww
  rw [wt_10 hm hN, ← wt_split T N m p N (Nat.le_refl _)]
  exact sm_ext (fun c _ => wt_10 (and_lt hm) hN)
theorem UU_split {T tm : Nat → Nat} {N m : Nat} (hN : N ≤ 10) (hm : m < 2 ^ N) (p : Nat) : sm (fun c => UU T tm (m &&& snd T N p c)) 7 = UU T tm m := by
  unfold UU
  rw [sm_mul, ww_split hN hm]
def ra (T : Nat → Nat) (N : Nat) (tm : Nat → Nat) (v : Nat → Nat) (n m a : Nat) : Nat := if a < 10 then (if m.testBit a = true then gv T tm v n m a else 2147483647) else lv T N v m (a - 10)
def ca (T : Nat → Nat) (N : Nat) (tm : Nat → Nat) (v : Nat → Nat) (n m a : Nat) : Nat := if a < 10 then (if m.testBit a = true then gv T tm v n m a else 2147483647) else (if unsp T N m (a - 10) = true then UU T tm m else lv T N v m (a - 10))
def mnf (f : Nat → Nat) : Nat → Nat
  | 0 => 2147483647
  | k + 1 => min (mnf f k) (f k)
def fsi (f : Nat → Nat) : Nat → Nat
  | 0 => 99
  | k + 1 => if f k < mnf f k then k else fsi f k
theorem mnf_top (f : Nat → Nat) : ∀ k, mnf f k ≤ 2147483647
  | 0 => Nat.le_refl _
  | k + 1 => by have := mnf_top f k; rw [mnf]; omega
theorem mnf_le {f : Nat → Nat} {a : Nat} : ∀ {k : Nat}, a < k → mnf f k ≤ f a
  | 0, h => absurd h (Nat.not_lt_zero _)
  | k + 1, h => by
    rw [mnf]
    by_cases e : a = k
    · subst e; omega
    · have := mnf_le (f := f) (a := a) (k := k) (by omega); omega
theorem fsi_at {f : Nat → Nat} : ∀ {k : Nat}, mnf f k < 2147483647 → fsi f k < k ∧ f (fsi f k) = mnf f k ∧ ∀ b, b < fsi f k → mnf f k < f b
  | 0, h => by rw [mnf] at h; omega
  | k + 1, h => by
    rw [mnf] at h
    rw [fsi, mnf]
    by_cases hc : f k < mnf f k
    · rw [if_pos hc]
      refine ⟨by omega, by omega, fun b hb => ?_⟩
      have := mnf_le (f := f) hb; omega
    · rw [if_neg hc]
      obtain ⟨h1, h2, h3⟩ := fsi_at (f := f) (k := k) (by omega)
      refine ⟨by omega, by omega, fun b hb => ?_⟩
      have := h3 b hb; omega
theorem mnf_ext {f g : Nat → Nat} : ∀ {k : Nat}, (∀ c, c < k → f c = g c) → mnf f k = mnf g k
  | 0, _ => rfl
  | k + 1, h => by rw [mnf, mnf, h k (by omega), mnf_ext (fun c hc => h c (by omega))]
/-- least cost with r nights to go -/
def VV (T : Nat → Nat) (N : Nat) (tm : Nat → Nat) : Nat → Nat → Nat
  | 0, m => UU T tm m
  | r + 1, m => if m = 0 then 0 else mnf (ra T N tm (VV T N tm r) (tm 2 - (r + 1)) m) 16
theorem wt_z (od : Nat → Nat) : ∀ n, wt od 0 n = 0
  | 0 => rfl
  | n + 1 => by rw [wt, wt_z od n, Nat.zero_testBit]; simp
theorem VV_z (T : Nat → Nat) (N : Nat) (tm : Nat → Nat) (r : Nat) : VV T N tm r 0 = 0 := by
  cases r with
  | zero => rw [VV, UU, ww, wt_z, Nat.zero_mul]
  | succ r => rw [VV, if_pos rfl]
theorem VV_U {T : Nat → Nat} {N : Nat} (tm : Nat → Nat) (hN : N ≤ 10) : ∀ (r m : Nat), m < 2 ^ N → VV T N tm r m ≤ UU T tm m
  | 0, m, _ => Nat.le_refl _
  | r + 1, m, hm => by
    rw [VV]; split
    · omega
    · have h1 := mnf_le (f := ra T N tm (VV T N tm r) (tm 2 - (r + 1)) m) (a := 10) (k := 16) (by omega)
      have h2 : ra T N tm (VV T N tm r) (tm 2 - (r + 1)) m 10 = lv T N (VV T N tm r) m 0 := if_neg (by omega)
      have h3 : lv T N (VV T N tm r) m 0 ≤ UU T tm m := by
        rw [← UU_split hN hm 0]
        exact sm_le (fun c _ => VV_U tm hN r _ (and_lt hm))
      omega
theorem UU_bd {T : Nat → Nat} {N : Nat} {od ln lt : Nat → Int32} (hO : NmOK T N od ln lt) (hN : N ≤ 10) {tm : Nat → Nat} (hT : TmOK tm) {m : Nat} (hm : m < 2 ^ N) : ww T m ≤ 90 ∧ ruinN tm ≤ 415503 ∧ UU T tm m ≤ 37395270 := by
  have hb := TmB hT
  have h1 : ww T m ≤ 90 := by
    unfold ww
    rw [wt_10 hm hN]
    have := wt_bd (od := Od T) (m := m) (n := N) (fun i hi => (Od_le hO hi).2)
    omega
  have h2 : ruinN tm ≤ 415503 := by
    have := pw12 (g := tm 0) (k := tm 2) (by omega) (by omega)
    unfold ruinN; omega
  refine ⟨h1, h2, ?_⟩
  have := Nat.mul_le_mul h1 h2
  unfold UU; omega
theorem gv_bd {T : Nat → Nat} {N : Nat} {od ln lt : Nat → Int32} (hO : NmOK T N od ln lt) (hN : N ≤ 10) {tm : Nat → Nat} (hT : TmOK tm) {m k n r : Nat} (hm : m < 2 ^ N) (hk : k < N) (hn : n ≤ 12) : gv T tm (VV T N tm r) n m k ≤ 50000000 ∧ Od T k * (tm 0 * 2 ^ n) ≤ 9 * 405504 ∧ ww T (ndf m (2 ^ k)) * tm 1 ≤ 90 * 99 := by
  have hb := TmB hT
  have h1 := UU_bd hO hN hT (ndf_lt (b := 2 ^ k) hm)
  have h2 := VV_U (T := T) tm hN r _ (ndf_lt (b := 2 ^ k) hm)
  have h3 := Nat.mul_le_mul (Od_le hO hk).2 (pw12 (g := tm 0) (k := n) (by omega) hn)
  have h4 := Nat.mul_le_mul h1.1 (show tm 1 ≤ 99 by omega)
  unfold gv; omega
theorem ra_bd {T : Nat → Nat} {N : Nat} {od ln lt : Nat → Int32} (hO : NmOK T N od ln lt) (hN : N ≤ 10) {tm : Nat → Nat} (hT : TmOK tm) {m n r : Nat} (hm : m < 2 ^ N) (hn : n ≤ 12) (h0 : m ≠ 0) : mnf (ra T N tm (VV T N tm r) n m) N < 2147483647 ∧ mnf (ra T N tm (VV T N tm r) n m) N ≤ 50000000 := by
  obtain ⟨k, hk, hb⟩ := m_ex hm h0
  have h1 := mnf_le (f := ra T N tm (VV T N tm r) n m) hk
  have h2 : ra T N tm (VV T N tm r) n m k = gv T tm (VV T N tm r) n m k := by unfold ra; rw [if_pos (by omega), if_pos hb]
  have h3 := (gv_bd hO hN hT (r := r) hm hk hn).1
  omega
theorem mnf_N {T : Nat → Nat} {N : Nat} (hN : N ≤ 10) {tm v : Nat → Nat} {n m : Nat} (hm : m < 2 ^ N) : ∀ d, N + d ≤ 10 → mnf (ra T N tm v n m) (N + d) = mnf (ra T N tm v n m) N ∧ fsi (ra T N tm v n m) (N + d) = fsi (ra T N tm v n m) N
  | 0, _ => ⟨rfl, rfl⟩
  | d + 1, h => by
    obtain ⟨h1, h2⟩ := mnf_N (T := T) (tm := tm) (v := v) (n := n) hN hm d (by omega)
    have h3 : ra T N tm v n m (N + d) = 2147483647 := by
      unfold ra
      rw [if_pos (by omega), if_neg]
      rw [Nat.testBit_lt_two_pow (Nat.lt_of_lt_of_le hm (p2_le (show N ≤ N + d by omega)))]; decide
    have h4 := mnf_top (ra T N tm v n m) N
    refine ⟨?_, ?_⟩
    · rw [← Nat.add_assoc, mnf, h1, h3]; omega
    · rw [← Nat.add_assoc, fsi, h1, h2, h3, if_neg (by omega)]
theorem mnf_mono (f : Nat → Nat) (j : Nat) : ∀ d, mnf f (j + d) ≤ mnf f j
  | 0 => Nat.le_refl _
  | d + 1 => by have := mnf_mono f j d; rw [← Nat.add_assoc, mnf]; omega
theorem ra_16 {T : Nat → Nat} {N : Nat} {od ln lt : Nat → Int32} (hO : NmOK T N od ln lt) (hN : N ≤ 10) {tm : Nat → Nat} (hT : TmOK tm) {m n r : Nat} (hm : m < 2 ^ N) (hn : n ≤ 12) (h0 : m ≠ 0) (j : Nat) : mnf (ra T N tm (VV T N tm r) n m) (10 + j) < 2147483647 ∧ mnf (ra T N tm (VV T N tm r) n m) (10 + j) ≤ 50000000 := by
  have h1 := ra_bd hO hN hT (r := r) hm hn h0
  have h2 := mnf_mono (ra T N tm (VV T N tm r) n m) 10 j
  have h3 := (mnf_N (T := T) (tm := tm) (v := VV T N tm r) (n := n) hN hm (10 - N) (by omega)).1
  rw [show N + (10 - N) = 10 by omega] at h3
  omega
/-- a night more costs less, or naught is gained -/
theorem VV_S {T : Nat → Nat} {N : Nat} {od ln lt : Nat → Int32} (hO : NmOK T N od ln lt) (hN : N ≤ 10) {tm : Nat → Nat} (hT : TmOK tm) : ∀ (r m : Nat), r + 1 ≤ tm 2 → m < 2 ^ N → m ≠ 0 → VV T N tm (r + 1) m < VV T N tm r m ∨ VV T N tm r m = UU T tm m
  | 0, m, _, _, _ => Or.inr rfl
  | r + 1, m, hr, hm, h0 => by
    have hb := TmB hT
    have ih := VV_S hO hN hT r
    have ihle : ∀ s, s < 2 ^ N → VV T N tm (r + 1) s ≤ VV T N tm r s := fun s hs => by
      by_cases hz : s = 0
      · subst hz; rw [VV_z]; omega
      · rcases ih s (by omega) hs hz with h | h
        · omega
        · have := VV_U (T := T) tm hN (r + 1) s hs; omega
    by_cases hU : VV T N tm (r + 1) m = UU T tm m
    · exact Or.inr hU
    · refine Or.inl ?_
      have e1 : VV T N tm (r + 1) m = mnf (ra T N tm (VV T N tm r) (tm 2 - (r + 1)) m) 16 := by rw [VV, if_neg h0]
      have e2 : VV T N tm (r + 1 + 1) m = mnf (ra T N tm (VV T N tm (r + 1)) (tm 2 - (r + 1 + 1)) m) 16 := by rw [VV, if_neg h0]
      have hlt := (ra_16 hO hN hT (r := r) hm (show tm 2 - (r + 1) ≤ 12 by omega) h0 6).1
      obtain ⟨a1, a2, _⟩ := fsi_at hlt
      rw [show 10 + 6 = 16 from rfl] at a1 a2
      generalize fsi (ra T N tm (VV T N tm r) (tm 2 - (r + 1)) m) 16 = a at a1 a2
      have a3 := mnf_le (f := ra T N tm (VV T N tm (r + 1)) (tm 2 - (r + 1 + 1)) m) a1
      rw [e2, e1, ← a2]
      refine Nat.lt_of_le_of_lt a3 ?_
      have u1 : ra T N tm (VV T N tm r) (tm 2 - (r + 1)) m a = (if a < 10 then (if m.testBit a = true then gv T tm (VV T N tm r) (tm 2 - (r + 1)) m a else 2147483647) else lv T N (VV T N tm r) m (a - 10)) := rfl
      have u2 : ra T N tm (VV T N tm (r + 1)) (tm 2 - (r + 1 + 1)) m a = (if a < 10 then (if m.testBit a = true then gv T tm (VV T N tm (r + 1)) (tm 2 - (r + 1 + 1)) m a else 2147483647) else lv T N (VV T N tm (r + 1)) m (a - 10)) := rfl
      rw [u1, u2]
      rw [u1] at a2
      by_cases ha : a < 10
      · rw [if_pos ha] at a2 ⊢
        rw [if_pos ha]
        cases hbit : m.testBit a with
        | false =>
          rw [hbit, if_neg (by decide)] at a2
          rw [show 10 + 6 = 16 from rfl] at hlt; omega
        | true =>
          rw [if_pos rfl, if_pos rfl]
          have haN : a < N := by
            apply Classical.byContradiction
            intro hc
            rw [Nat.testBit_lt_two_pow (Nat.lt_of_lt_of_le hm (p2_le (show N ≤ a by omega)))] at hbit; cases hbit
          have ho := (Od_le hO haN).1
          have hv := ihle _ (ndf_lt (b := 2 ^ a) hm)
          have hp : tm 0 * 2 ^ (tm 2 - (r + 1 + 1)) < tm 0 * 2 ^ (tm 2 - (r + 1)) := Nat.mul_lt_mul_of_pos_left (p2_lt (by omega)) (by omega)
          have hq := Nat.mul_lt_mul_of_pos_left hp (show 0 < Od T a by omega)
          unfold gv; omega
      · rw [if_neg ha] at a2 ⊢
        rw [if_neg ha]
        unfold lv at a2 ⊢
        have hex : ∃ c, c < 7 ∧ VV T N tm r (m &&& snd T N (a - 10) c) ≠ UU T tm (m &&& snd T N (a - 10) c) := by
          apply Classical.byContradiction
          intro hc
          refine hU ?_
          rw [e1, ← a2, ← UU_split hN hm (a - 10)]
          refine sm_ext (fun c hcc => ?_)
          apply Classical.byContradiction
          intro hne
          exact hc ⟨c, hcc, hne⟩
        obtain ⟨c, hc, hne⟩ := hex
        have hgz : m &&& snd T N (a - 10) c ≠ 0 := fun hq => hne (by
          rw [hq, VV_z]
          have : UU T tm 0 = 0 := VV_z T N tm 0
          omega)
        refine sm_lt (fun c _ => ihle _ (and_lt hm)) hc ?_
        rcases ih _ (by omega) (and_lt hm) hgz with h | h
        · exact h
        · exact absurd h hne
theorem and_self_of_unsp {T : Nat → Nat} {N m p : Nat} (hm : m < 2 ^ N) (hu : unsp T N m p = true) : ∃ c, c < 7 ∧ m &&& snd T N p c = m ∧ ∀ c', c' < 7 → c' ≠ c → m &&& snd T N p c' = 0 := by
  obtain ⟨c, hc, hq⟩ := anyB_iff.mp hu
  have hq' : m &&& snd T N p c = m := by simpa using hq
  refine ⟨c, hc, hq', fun c' hc' hne => m_0 (n := N) (and_lt hm) (fun i hi => ?_)⟩
  cases hb : m.testBit i with
  | false => rw [Nat.testBit_and, hb]; rfl
  | true =>
    have h1 : (m &&& snd T N p c).testBit i = true := by rw [hq']; exact hb
    rw [Nat.testBit_and, hb, snd, bo_bit] at h1
    rw [Nat.testBit_and, hb, snd, bo_bit]
    simp [hi] at h1 ⊢
    omega
theorem lv_unsp {T : Nat → Nat} {N m p : Nat} {v : Nat → Nat} (hv : v 0 = 0) (hm : m < 2 ^ N) (hu : unsp T N m p = true) : lv T N v m p = v m := by
  obtain ⟨c, hc, h1, h2⟩ := and_self_of_unsp hm hu
  have : ∀ c', c' < 7 → v (m &&& snd T N p c') = if c' = c then v m else 0 := fun c' hc' => by
    by_cases e : c' = c
    · subst e; rw [if_pos rfl, h1]
    · rw [if_neg e, h2 c' hc' e, hv]
  unfold lv
  rw [sm_ext this]
  rcases (show c = 0 ∨ c = 1 ∨ c = 2 ∨ c = 3 ∨ c = 4 ∨ c = 5 ∨ c = 6 by omega) with e | e | e | e | e | e | e <;> subst e <;> simp [sm]
/-- class and reference weigh the acts alike -/
theorem ca_ra {T : Nat → Nat} {N : Nat} {od ln lt : Nat → Int32} (hO : NmOK T N od ln lt) (hN : N ≤ 10) {tm : Nat → Nat} (hT : TmOK tm) {r m : Nat} (hr : r + 1 ≤ tm 2) (hm : m < 2 ^ N) (h0 : m ≠ 0) : mnf (ca T N tm (VV T N tm r) (tm 2 - (r + 1)) m) 16 = VV T N tm (r + 1) m ∧ ∀ a, a < 16 → (ca T N tm (VV T N tm r) (tm 2 - (r + 1)) m a = VV T N tm (r + 1) m ↔ ra T N tm (VV T N tm r) (tm 2 - (r + 1)) m a = VV T N tm (r + 1) m) := by
  have hS := VV_S hO hN hT r m hr hm h0
  have hU := VV_U (T := T) tm hN r m hm
  have e1 : VV T N tm (r + 1) m = mnf (ra T N tm (VV T N tm r) (tm 2 - (r + 1)) m) 16 := by rw [VV, if_neg h0]
  have key : ∀ a, a < 16 → ca T N tm (VV T N tm r) (tm 2 - (r + 1)) m a = ra T N tm (VV T N tm r) (tm 2 - (r + 1)) m a ∨ (VV T N tm (r + 1) m < ca T N tm (VV T N tm r) (tm 2 - (r + 1)) m a ∧ VV T N tm (r + 1) m < ra T N tm (VV T N tm r) (tm 2 - (r + 1)) m a) := by
    intro a ha
    unfold ca ra
    by_cases h : a < 10
    · rw [if_pos h, if_pos h]; exact Or.inl rfl
    · rw [if_neg h, if_neg h]
      cases hu : unsp T N m (a - 10) with
      | false => rw [if_neg (by decide)]; exact Or.inl rfl
      | true =>
        rw [if_pos rfl, lv_unsp (VV_z T N tm r) hm hu]
        rcases hS with h1 | h1
        · exact Or.inr ⟨by omega, h1⟩
        · exact Or.inl h1.symm
  refine ⟨?_, fun a ha => ?_⟩
  · have hlt := (ra_16 hO hN hT (r := r) hm (show tm 2 - (r + 1) ≤ 12 by have := TmB hT; omega) h0 6).1
    obtain ⟨a1, a2, _⟩ := fsi_at hlt
    rw [show 10 + 6 = 16 from rfl] at a1 a2 hlt
    have hle : mnf (ca T N tm (VV T N tm r) (tm 2 - (r + 1)) m) 16 ≤ VV T N tm (r + 1) m := by
      have h1 := mnf_le (f := ca T N tm (VV T N tm r) (tm 2 - (r + 1)) m) a1
      rcases key _ a1 with h2 | h2
      · omega
      · omega
    obtain ⟨b1, b2, _⟩ := fsi_at (f := ca T N tm (VV T N tm r) (tm 2 - (r + 1)) m) (k := 16) (by omega)
    have hge : VV T N tm (r + 1) m ≤ mnf (ca T N tm (VV T N tm r) (tm 2 - (r + 1)) m) 16 := by
      have h1 := mnf_le (f := ra T N tm (VV T N tm r) (tm 2 - (r + 1)) m) b1
      rcases key _ b1 with h2 | h2
      · omega
      · omega
    omega
  · rcases key a ha with h | h
    · rw [h]
    · constructor <;> intro hc <;> omega
