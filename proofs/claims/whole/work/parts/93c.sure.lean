/-! sure agrees -/
def unsp (T : Nat → Nat) (N m p : Nat) : Bool := anyB (fun c => m &&& snd T N p c == m) 7
def wp (T : Nat → Nat) (N U : Nat) (v : Nat → Nat) (m p : Nat) : Nat := if unsp T N m p = true then U else mx (fun c => v (m &&& snd T N p c)) 7
def gn (v : Nat → Nat) (m B : Nat) : Nat → Nat
  | 0 => B
  | k + 1 => if m.testBit k = true then min (gn v m B k) (1 + v (ndf m (2 ^ k))) else gn v m B k
def gp (T : Nat → Nat) (N U : Nat) (v : Nat → Nat) (m B : Nat) : Nat → Nat
  | 0 => B
  | k + 1 => min (gp T N U v m B k) (1 + wp T N U v m k)
def GG (T : Nat → Nat) (N B U : Nat) (v : Nat → Nat) (m : Nat) : Nat := gp T N U v m (gn v m B 10) 6
theorem gn_le (v : Nat → Nat) (m B : Nat) : ∀ k, gn v m B k ≤ B
  | 0 => Nat.le_refl _
  | k + 1 => by have := gn_le v m B k; rw [gn]; split <;> omega
theorem gp_le (T : Nat → Nat) (N U : Nat) (v : Nat → Nat) (m B : Nat) : ∀ k, gp T N U v m B k ≤ B
  | 0 => Nat.le_refl _
  | k + 1 => by have := gp_le T N U v m B k; rw [gp]; omega
theorem GG_le (T : Nat → Nat) (N B U : Nat) (v : Nat → Nat) (m : Nat) : GG T N B U v m ≤ B := Nat.le_trans (gp_le _ _ _ _ _ _ _) (gn_le _ _ _ _)
theorem unsp_f {T : Nat → Nat} {N m p : Nat} (h : unsp T N m p = false) (c : Nat) (hc : c < 7) : m &&& snd T N p c ≠ m := fun hq => by
  have : unsp T N m p = true := anyB_iff.mpr ⟨c, hc, by rw [hq]; exact beq_self_eq_true _⟩
  rw [h] at this; cases this
theorem mx_ext {f g : Nat → Nat} : ∀ {k : Nat}, (∀ c, c < k → f c = g c) → mx f k = mx g k
  | 0, _ => rfl
  | k + 1, h => by rw [mx, mx, h k (by omega), mx_ext (fun c hc => h c (by omega))]
theorem GG_ext {T : Nat → Nat} {N B U : Nat} {v w : Nat → Nat} {m : Nat} (h : ∀ s, sub s m → s ≠ m → v s = w s) : GG T N B U v m = GG T N B U w m := by
  have h1 : ∀ k, gn v m B k = gn w m B k := by
    intro k
    induction k with
    | zero => rfl
    | succ k ih =>
      rw [gn, gn, ih]
      cases hb : m.testBit k with
      | false => rw [if_neg (by decide), if_neg (by decide)]
      | true => rw [h _ (sub_ndf m k) (ndf_ne hb)]
  have h2 : ∀ p, wp T N U v m p = wp T N U w m p := by
    intro p
    unfold wp
    cases hu : unsp T N m p with
    | true => rw [if_pos rfl, if_pos rfl]
    | false =>
      rw [if_neg (by decide), if_neg (by decide)]
      exact mx_ext (fun c hc => h _ sub_and (unsp_f hu c hc))
  have h3 : ∀ k, gp T N U v m (gn v m B 10) k = gp T N U w m (gn w m B 10) k := by
    intro k
    induction k with
    | zero => exact h1 10
    | succ k ih => rw [gp, gp, ih, h2]
  exact h3 6
def nvF (T : Nat → Nat) (N : Nat) : Nat → Nat → Nat
  | 0, _ => 0
  | f + 1, m => if m = 0 then 0 else GG T N 10 10 (nvF T N f) m
def nv (T : Nat → Nat) (N m : Nat) : Nat := nvF T N m m
theorem nvF_nv (T : Nat → Nat) (N : Nat) : ∀ (m : Nat), m < 1024 → ∀ f, m ≤ f → nvF T N f m = nv T N m := by
  intro m
  induction m using Nat.strongRecOn with
  | ind m ih =>
    intro hm f hf
    by_cases h : m = 0
    · subst h; unfold nv; cases f with
      | zero => rfl
      | succ f => rw [nvF, nvF, if_pos rfl]
    · obtain ⟨f, rfl⟩ : ∃ f', f = f' + 1 := ⟨f - 1, by omega⟩
      obtain ⟨q, rfl⟩ : ∃ q, m = q + 1 := ⟨m - 1, by omega⟩
      unfold nv
      rw [nvF, nvF, if_neg h, if_neg h]
      refine GG_ext (fun s hs hne => ?_)
      have hlt := sub_lt (N := 10) (by omega) hs hne
      rw [ih s hlt (by omega) f (by omega), ih s hlt (by omega) q (by omega)]
theorem nv_0 (T : Nat → Nat) (N : Nat) : nv T N 0 = 0 := rfl
theorem nv_eq {T : Nat → Nat} {N m : Nat} (hm : m < 1024) (h : m ≠ 0) : nv T N m = GG T N 10 10 (nv T N) m := by
  obtain ⟨q, rfl⟩ : ∃ q, m = q + 1 := ⟨m - 1, by omega⟩
  have e : nv T N (q + 1) = GG T N 10 10 (nvF T N q) (q + 1) := by unfold nv; rw [nvF, if_neg h]
  rw [e]
  refine GG_ext (fun s hs hne => ?_)
  have hlt := sub_lt (N := 10) (by omega) hs hne
  exact nvF_nv T N s (by omega) q (by omega)
theorem nv_10 {T : Nat → Nat} {N m : Nat} : nv T N m ≤ 10 := by
  unfold nv
  cases m with
  | zero => rw [nvF]; omega
  | succ q =>
    rw [nvF]; split
    · omega
    · exact GG_le _ _ _ _ _ _
theorem gn_bit {v : Nat → Nat} {m B k : Nat} (hb : m.testBit k = true) : ∀ {j : Nat}, k < j → gn v m B j ≤ 1 + v (ndf m (2 ^ k))
  | 0, h => absurd h (Nat.not_lt_zero _)
  | j + 1, h => by
    rw [gn]
    by_cases e : k = j
    · subst e; rw [if_pos hb]; omega
    · have := gn_bit (v := v) (B := B) hb (j := j) (by omega)
      split <;> omega
theorem nv_cnt {T : Nat → Nat} {N : Nat} (hN : N ≤ 10) : ∀ m, m < 2 ^ N → nv T N m ≤ cnt m N := by
  have h10 := p2_10 hN
  intro m
  induction m using Nat.strongRecOn with
  | ind m ih =>
    intro hm
    by_cases h : m = 0
    · subst h; rw [nv_0]; omega
    · obtain ⟨k, hk, hb⟩ := m_ex hm h
      rw [nv_eq (by omega) h]
      have h1 := gp_le T N 10 (nv T N) m (gn (nv T N) m 10 10) 6
      have h2 := gn_bit (v := nv T N) (B := 10) hb (j := 10) (by omega)
      have h3 := ih _ (sub_lt hm (sub_ndf m k) (ndf_ne hb)) (ndf_lt hm)
      have h4 := wt_rem (od := fun _ => 1) hb N
      rw [if_pos hk] at h4
      unfold GG
      unfold cnt at h3 ⊢
      omega
/-- the reference's way comes to the same -/
theorem GG_99 {T : Nat → Nat} {N m : Nat} (hN : N ≤ 10) (hm : m < 2 ^ N) (h : m ≠ 0) : gp T N 99 (nv T N) m (gn (nv T N) m 99 N) 6 = nv T N m := by
  have h10 := p2_10 hN
  obtain ⟨k, hk, hb⟩ := m_ex hm h
  have a1 : ∀ j, gn (nv T N) m 10 j = min 10 (gn (nv T N) m 99 j) := by
    intro j
    induction j with
    | zero => rw [gn, gn]; omega
    | succ j ih =>
      rw [gn, gn, ih]
      split <;> omega
  have a2 : ∀ j, N ≤ j → gn (nv T N) m 10 j = gn (nv T N) m 10 N := by
    intro j hj
    obtain ⟨d, rfl⟩ : ∃ d, j = N + d := ⟨j - N, by omega⟩
    clear hj
    induction d with
    | zero => rfl
    | succ d ih =>
      rw [← Nat.add_assoc, gn, ih, if_neg]
      rw [Nat.testBit_lt_two_pow (Nat.lt_of_lt_of_le hm (p2_le (show N ≤ N + d by omega)))]
      decide
  have a3 : gn (nv T N) m 99 N ≤ 10 := by
    have h2 := gn_bit (v := nv T N) (B := 99) hb (j := N) hk
    have h3 := nv_cnt (T := T) hN (ndf m (2 ^ k)) (ndf_lt hm)
    have h4 := wt_rem (od := fun _ => 1) hb N
    rw [if_pos hk] at h4
    have h5 := cnt_le m N
    unfold cnt at h3 h5
    omega
  have a4 : gn (nv T N) m 10 10 = gn (nv T N) m 99 N := by rw [a2 10 hN, a1 N]; omega
  have a5 : ∀ j, gp T N 99 (nv T N) m (gn (nv T N) m 99 N) j = gp T N 10 (nv T N) m (gn (nv T N) m 99 N) j := by
    intro j
    induction j with
    | zero => rfl
    | succ j ih =>
      have h1 := gp_le T N 10 (nv T N) m (gn (nv T N) m 99 N) j
      rw [gp, gp, ih]
      unfold wp
      cases hu : unsp T N m j with
      | true => rw [if_pos rfl, if_pos rfl]; omega
      | false => rw [if_neg (by decide), if_neg (by decide)]
  rw [nv_eq (by omega) h, GG, a4, a5]
theorem ndfI (a b : Nat) : nI a &&& (nI b ^^^ (-1)) = nI (ndf a b) := bNot a b
theorem and_eqI {a b N : Nat} (ha : a < 2 ^ N) (hN : N ≤ 10) : (nI (a &&& b) = nI a) ↔ (a &&& b = a) := by
  have h10 := p2_10 hN
  have := and_lt (b := b) ha
  exact nI_eq (by omega) (by omega)
theorem Sp_behind_loop {T : Nat → Nat} {N : Nat} {al : Nat → Int32} (hG : GrOK T N 6 al) (hN : N ≤ 10) (F : Nat) {m p : Nat} (hm : m < 2 ^ N) (hp : p < 6) {tbl : Nat → Int32} (ht : ∀ s, sub s m → s ≠ m → tbl s = nI (nv T N s)) : ∀ (d c f : Nat), c + d = 7 → d < f → (∀ c', c' < c → m &&& snd T N p c' ≠ m) → Sp_nightsBehind_l5 F al tbl (nI p) (nI m) f (nI (mx (fun c => nv T N (m &&& snd T N p c)) c)) (nI c + (-1)) = some (nI (wp T N 10 (nv T N) m p)) := by
  have h10 := p2_10 hN
  intro d
  induction d with
  | zero =>
    intro c f hc hf hu
    obtain ⟨f, rfl⟩ : ∃ f', f = f' + 1 := ⟨f - 1, by omega⟩
    obtain rfl : c = 7 := by omega
    show Sp_nightsBehind_b5 F al tbl (nI p) (nI m) _ _ _ = _
    unfold Sp_nightsBehind_b5 wp
    rw [if_pos m1s.2, if_neg]
    intro hq
    obtain ⟨c, hc, hq⟩ := anyB_iff.mp hq
    exact hu c hc (by simpa using hq)
  | succ d ih =>
    intro c f hc hf hu
    obtain ⟨f, rfl⟩ : ∃ f', f = f' + 1 := ⟨f - 1, by omega⟩
    show Sp_nightsBehind_b5 F al tbl (nI p) (nI m) (Sp_nightsBehind_l5 F al tbl (nI p) (nI m) f) _ _ = _
    unfold Sp_nightsBehind_b5
    have h1 := mx_le (fun c => (nv_10 : nv T N (m &&& snd T N p c) ≤ 10)) c
    have h2 : nv T N (m &&& snd T N p c) ≤ 10 := nv_10
    have h3 := and_lt (b := snd T N p c) hm
    rw [if_neg (m1s.1 c (by omega)).1, Na_sounding_c hG hp (by omega), cb1_s, (m1s.1 c (by omega)).2, show bo (fun i => sdc T i p == c) N = snd T N p c from rfl, bAnd]
    by_cases he : m &&& snd T N p c = m
    · rw [if_pos ((and_eqI hm hN).mpr he)]
      unfold wp
      rw [if_pos (show unsp T N m p = true from anyB_iff.mpr ⟨c, by omega, by rw [he]; exact beq_self_eq_true _⟩)]; rfl
    · rw [if_neg (fun hq => he ((and_eqI hm hN).mp hq)), rdN (by omega) (by omega), ht _ sub_and he, mxI_ok (by omega) (by omega)]
      exact ih (c + 1) f (by omega) (by omega) (fun c' hc' => by
        by_cases e : c' = c
        · subst e; exact he
        · exact hu c' (by omega))
theorem Sp_few_places {T : Nat → Nat} {N : Nat} {al : Nat → Int32} (hG : GrOK T N 6 al) (hN : N ≤ 10) {F : Nat} (hF : 100 ≤ F) {m : Nat} (hm : m < 2 ^ N) {tbl : Nat → Int32} (ht : ∀ s, sub s m → s ≠ m → tbl s = nI (nv T N s)) {B : Nat} (hB : B ≤ 10) : ∀ (d k f : Nat), k + d = 6 → d < f → Sp_fewestNights_l46 F al tbl (nI m) f (nI (gp T N 10 (nv T N) m B k)) (nI k) = some (nI (gp T N 10 (nv T N) m B 6)) := by
  intro d
  induction d with
  | zero =>
    intro k f hc hf
    obtain ⟨f, rfl⟩ : ∃ f', f = f' + 1 := ⟨f - 1, by omega⟩
    obtain rfl : k = 6 := by omega
    show Sp_fewestNights_b46 F al tbl (nI m) _ _ _ = _
    unfold Sp_fewestNights_b46
    rw [if_pos (show (6 : Int32) ≤ nI 6 by decide)]
  | succ d ih =>
    intro k f hc hf
    obtain ⟨f, rfl⟩ : ∃ f', f = f' + 1 := ⟨f - 1, by omega⟩
    show Sp_fewestNights_b46 F al tbl (nI m) (Sp_fewestNights_l46 F al tbl (nI m) f) _ _ = _
    unfold Sp_fewestNights_b46
    have h1 := gp_le T N 10 (nv T N) m B k
    have h2 : wp T N 10 (nv T N) m k ≤ 10 := by
      unfold wp; split
      · omega
      · exact mx_le (fun _ => nv_10) 7
    have hb : Sp_nightsBehind F al tbl (nI k) (nI m) = some (nI (wp T N 10 (nv T N) m k)) := Sp_behind_loop hG hN F hm (show k < 6 by omega) ht 7 0 F rfl (by omega) (fun c' hc' => absurd hc' (Nat.not_lt_zero c'))
    rw [n6, if_neg (show ¬ nI 6 ≤ nI k by rw [leN (by omega) (by omega)]; omega), hb, cb1_s, n1, nI_add, mnI_ok (by omega) (by omega), ← n1, show nI k + 1 = nI (k + 1) from nI_1 _]
    exact ih (k + 1) f (by omega) (by omega)
theorem Sp_few_ok {T : Nat → Nat} {N : Nat} {al : Nat → Int32} (hG : GrOK T N 6 al) (hN : N ≤ 10) {F : Nat} (hF : 100 ≤ F) {m : Nat} (hm : m < 2 ^ N) (h0 : m ≠ 0) {tbl : Nat → Int32} (ht : ∀ s, sub s m → s ≠ m → tbl s = nI (nv T N s)) : Sp_fewestNights F al tbl (nI m) = some (nI (nv T N m)) := by
  have h10 := p2_10 hN
  have key : ∀ (d k f : Nat), k + d = 10 → d < f → Sp_fewestNights_l5 F al tbl (nI m) f (nI (gn (nv T N) m 10 k)) (nI k) = some (nI (nv T N m)) := by
    intro d
    induction d with
    | zero =>
      intro k f hc hf
      obtain ⟨f, rfl⟩ : ∃ f', f = f' + 1 := ⟨f - 1, by omega⟩
      obtain rfl : k = 10 := by omega
      show Sp_fewestNights_b5 F al tbl (nI m) _ _ _ = _
      unfold Sp_fewestNights_b5 Sp_fewestNights_b44
      have h := Sp_few_places hG hN hF hm ht (gn_le (nv T N) m 10 10) 6 0 F rfl (by omega)
      rw [if_pos (show (10 : Int32) ≤ nI 10 by decide), nv_eq (by omega) h0]
      exact h
    | succ d ih =>
      intro k f hc hf
      obtain ⟨f, rfl⟩ : ∃ f', f = f' + 1 := ⟨f - 1, by omega⟩
      show Sp_fewestNights_b5 F al tbl (nI m) (Sp_fewestNights_l5 F al tbl (nI m) f) _ _ = _
      unfold Sp_fewestNights_b5 Sp_fewestNights_b38
      have h1 := gn_le (nv T N) m 10 k
      have h2 : nv T N (ndf m (2 ^ k)) ≤ 10 := nv_10
      have h3 := ndf_lt (b := 2 ^ k) hm
      rw [n10, if_neg (show ¬ nI 10 ≤ nI k by rw [leN (by omega) (by omega)]; omega), sh1 k (by omega), show nI k + 1 = nI (k + 1) from nI_1 _, ← ih (k + 1) f (by omega) (by omega), gn]
      cases hb : m.testBit k with
      | false => rw [if_pos (show nI m &&& nI (2 ^ k) = 0 by rw [bBit (by omega), hb]), if_neg (by decide)]
      | true => rw [if_neg (show ¬ nI m &&& nI (2 ^ k) = 0 by rw [bBit (by omega), hb]; decide), if_pos rfl, ndfI, rdN (by omega) (by omega), ht _ (sub_ndf m k) (ndf_ne hb), n1, nI_add, mnI_ok (by omega) (by omega)]
  exact key 10 0 F rfl (by omega)
def SpC (T : Nat → Nat → Nat) (n : Nat → Nat) (ys yd : Int32) (yn : Nat → Int32) : Prop := yn 0 = 0 ∧ (ys = 0 → ∃ M, M < 1024 ∧ yd = nI M ∧ ∀ s, sub s M → yn s = nI (nv (T 0) (nN T n) s))
theorem Sp_settle_ok {T : Nat → Nat} {N : Nat} {al : Nat → Int32} (hG : GrOK T N 6 al) (hN : N ≤ 10) {F : Nat} (hF : 2000 ≤ F) {M : Nat} (hM : M < 2 ^ N) (tbl : Nat → Int32) (h0 : tbl 0 = 0) : ∃ tbl', Sp_settle F al tbl (nI M) = some tbl' ∧ ∀ s, sub s M → tbl' s = nI (nv T N s) := by
  have h10 := p2_10 hN
  have hM2 : M < 2 ^ 10 := by omega
  have hp := pop_le M
  have hpw : 2 ^ pop M ≤ 1024 := p2_10 hp
  have hc := pop_cntb M (by omega)
  have key : ∀ (d i f : Nat) (tbl : Nat → Int32), i + 1 + d = 2 ^ cntb 10 M → d < f → (∀ j, j ≤ i → tbl (dep 10 M j) = nI (nv T N (dep 10 M j))) → ∃ tbl', Sp_settle_l12 F al (nI M) f (nI (2 ^ pop M)) (nI (dep 10 M i)) (nI (i + 1)) tbl = some tbl' ∧ ∀ s, sub s M → tbl' s = nI (nv T N s) := by
    intro d
    induction d with
    | zero =>
      intro i f tbl hi hf ht
      obtain ⟨f, rfl⟩ : ∃ f', f = f' + 1 := ⟨f - 1, by omega⟩
      refine ⟨tbl, ?_, fun s hs => ?_⟩
      · show Sp_settle_b12 F al (nI M) _ _ _ _ tbl = _
        unfold Sp_settle_b12
        rw [if_pos (show nI (2 ^ pop M) ≤ nI (i + 1) by rw [hc] at hpw ⊢; rw [leN (by omega) (by omega)]; omega)]
      · obtain ⟨j, hj, rfl⟩ := dep_all 10 hM2 hs
        exact ht j (by omega)
    | succ d ih =>
      intro i f tbl hi hf ht
      obtain ⟨f, rfl⟩ : ∃ f', f = f' + 1 := ⟨f - 1, by omega⟩
      obtain ⟨hlt, hnx⟩ := dep_next 10 hM2 (show i + 1 < 2 ^ cntb 10 M by omega)
      have hs := dep_sub 10 M (i + 1)
      have hle := sub_le 10 hM2 hs
      have hl := dep_lt 10 (b := M) (i := i) (j := i + 1) (by omega) (by omega)
      have hfew : Sp_fewestNights F al tbl (nI (dep 10 M (i + 1))) = some (nI (nv T N (dep 10 M (i + 1)))) := Sp_few_ok hG hN (by omega) (by omega) (by omega) (fun s hss hne => by
        obtain ⟨j, hj, rfl⟩ := dep_all 10 hM2 (sub_tr hss hs)
        have hsl := sub_lt (N := 10) (by omega) hss hne
        refine ht j ?_
        rcases Nat.lt_or_ge i j with hij | hij
        · exfalso
          by_cases e : j = i + 1
          · rw [e] at hsl; exact absurd hsl (Nat.lt_irrefl _)
          · have := dep_lt 10 (b := M) (i := i + 1) (j := j) (by omega) hj; omega
        · exact hij)
      show ∃ tbl', Sp_settle_b12 F al (nI M) (Sp_settle_l12 F al (nI M) f) _ _ _ tbl = some tbl' ∧ _
      unfold Sp_settle_b12
      rw [if_neg (show ¬ nI (2 ^ pop M) ≤ nI (i + 1) by rw [hc] at hpw ⊢; rw [leN (by omega) (by omega)]; omega), nx_ok hlt (by omega), hnx, hfew, cb1_s, wrN (by omega) (by omega), show nI (i + 1) + 1 = nI (i + 1 + 1) from nI_1 _]
      refine ih (i + 1) f _ (by omega) (by omega) (fun j hj => ?_)
      by_cases e : j = i + 1
      · subst e; rw [upd_s]
      · have hd := dep_lt 10 (b := M) (i := j) (j := i + 1) (by omega) (by omega)
        rw [upd_n (by omega)]; exact ht j (by omega)
  unfold Sp_settle
  rw [Jint_bitCount_ok M (by omega), cb1_s, sh1 (pop M) (by omega)]
  have hpos := Nat.two_pow_pos (cntb 10 M)
  have hk := key (2 ^ cntb 10 M - 1) 0 F tbl (by omega) (by rw [← hc]; omega) (fun j hj => by
    obtain rfl : j = 0 := by omega
    rw [dep_0, nv_0]; exact h0)
  rw [dep_0] at hk
  exact hk
theorem Mo_sure_letters {T : Nat → Nat} {N : Nat} {od ln lt : Nat → Int32} (hO : NmOK T N od ln lt) (hN : N ≤ 10) {F : Nat} (hF : 100 ≤ F) {m p : Nat} (hm : m < 2 ^ N) (hp : p < 6) {tbl : Nat → Int32} (ht : ∀ s, sub s m → s ≠ m → tbl s = nI (nv T N s)) (rec58 : Int32 → Int32 → Option Int32) (x2 : Int32) : ∀ (d c f : Nat), c + d = 7 → d < f → Mo_sureOf_l70 F (nI N) ln lt tbl (nI m) rec58 f x2 (nI p) (nI (mx (fun c => if m &&& snd T N p ((c + 1) % 7) = m then 99 else nv T N (m &&& snd T N p ((c + 1) % 7))) c)) (nI c) = Mo_sureOf_b129 F (nI N) ln lt tbl (nI m) rec58 x2 (nI p) (nI (wp T N 99 (nv T N) m p)) := by
  have h10 := p2_10 hN
  have hbd : ∀ c, (if m &&& snd T N p ((c + 1) % 7) = m then 99 else nv T N (m &&& snd T N p ((c + 1) % 7))) ≤ 99 := fun c => by
    have : nv T N (m &&& snd T N p ((c + 1) % 7)) ≤ 10 := nv_10
    split <;> omega
  intro d
  induction d with
  | zero =>
    intro c f hc hf
    obtain ⟨f, rfl⟩ : ∃ f', f = f' + 1 := ⟨f - 1, by omega⟩
    obtain rfl : c = 7 := by omega
    show Mo_sureOf_b70 F (nI N) ln lt tbl (nI m) rec58 _ x2 (nI p) _ _ = _
    unfold Mo_sureOf_b70
    rw [if_pos (show (7 : Int32) ≤ nI 7 by decide)]
    have hr := mx_rot (fun c => if m &&& snd T N p c = m then 99 else nv T N (m &&& snd T N p c))
    have e : mx (fun c => if m &&& snd T N p c = m then 99 else nv T N (m &&& snd T N p c)) 7 = wp T N 99 (nv T N) m p := by
      unfold wp
      cases hu : unsp T N m p with
      | false =>
        rw [if_neg (by decide)]
        exact mx_ext (fun c hc => if_neg (unsp_f hu c hc))
      | true =>
        rw [if_pos rfl]
        obtain ⟨c, hc, hq⟩ := anyB_iff.mp hu
        have hq' : m &&& snd T N p c = m := by simpa using hq
        have h1 : ∀ k, c < k → 99 ≤ mx (fun c => if m &&& snd T N p c = m then 99 else nv T N (m &&& snd T N p c)) k := by
          intro k
          induction k with
          | zero => intro h; omega
          | succ k ih =>
            intro h
            rw [mx]
            by_cases e : c = k
            · subst e; rw [if_pos hq']; omega
            · have := ih (by omega); omega
        have h2 := mx_le (f := fun c => if m &&& snd T N p c = m then 99 else nv T N (m &&& snd T N p c)) (m := 99) (fun c => by
          have : nv T N (m &&& snd T N p c) ≤ 10 := nv_10
          show (if m &&& snd T N p c = m then 99 else nv T N (m &&& snd T N p c)) ≤ 99
          split <;> omega) 7
        have := h1 7 hc
        omega
    rw [← e, ← hr]
  | succ d ih =>
    intro c f hc hf
    obtain ⟨f, rfl⟩ : ∃ f', f = f' + 1 := ⟨f - 1, by omega⟩
    show Mo_sureOf_b70 F (nI N) ln lt tbl (nI m) rec58 (Mo_sureOf_l70 F (nI N) ln lt tbl (nI m) rec58 f) x2 (nI p) _ _ = _
    have h1 := mx_le hbd c
    have h2 := hbd c
    have h3 := and_lt (b := snd T N p ((c + 1) % 7)) hm
    have k1 : ∀ a b : Nat, a ≤ 99 → b ≤ 99 → Mo_sureOf_b105 F (nI N) ln lt tbl (nI m) rec58 (Mo_sureOf_l70 F (nI N) ln lt tbl (nI m) rec58 f) x2 (nI p) (nI a) (nI c) (nI b) = Mo_sureOf_l70 F (nI N) ln lt tbl (nI m) rec58 f x2 (nI p) (nI (max a b)) (nI (c + 1)) := by
      intro a b ha hb
      unfold Mo_sureOf_b105 Mo_sureOf_b121
      rw [show nI c + 1 = nI (c + 1) from nI_1 _]
      by_cases h : b ≤ a
      · rw [if_pos (by rw [leN (by omega) (by omega)]; exact h), Nat.max_eq_left h]
      · rw [if_neg (by rw [leN (by omega) (by omega)]; exact h), Nat.max_eq_right (by omega)]
    unfold Mo_sureOf_b70
    rw [n7, if_neg (show ¬ nI 7 ≤ nI c by rw [leN (by omega) (by omega)]; omega), Mo_with_ok hO hN hF hm hp (by omega), cb1_s, ← ih (c + 1) f (by omega) (by omega), mx]
    by_cases he : m &&& snd T N p ((c + 1) % 7) = m
    · rw [if_pos ((and_eqI hm hN).mpr he), show (99 : Int32) = nI 99 from rfl, k1 _ _ h1 (by omega), if_pos he]
    · rw [if_neg (fun hq => he ((and_eqI hm hN).mp hq)), rdN (by omega) (by omega), ht _ sub_and he, k1 _ _ h1 (Nat.le_trans nv_10 (by omega)), if_neg he]
theorem Mo_sureOf_ok {T : Nat → Nat} {N : Nat} {od ln lt : Nat → Int32} (hO : NmOK T N od ln lt) (hN : N ≤ 10) {F : Nat} (hF : 100 ≤ F) {m : Nat} (hm : m < 2 ^ N) (h0 : m ≠ 0) {tbl : Nat → Int32} (ht : ∀ s, sub s m → s ≠ m → tbl s = nI (nv T N s)) : Mo_sureOf F (nI N) ln lt tbl (nI m) = some (nI (nv T N m)) := by
  have h10 := p2_10 hN
  have pl : ∀ (d k f : Nat), k + d = 6 → d < f → Mo_sureOf_l58 F (nI N) ln lt tbl (nI m) f (nI (gp T N 99 (nv T N) m (gn (nv T N) m 99 N) k)) (nI k) = some (nI (nv T N m)) := by
    intro d
    induction d with
    | zero =>
      intro k f hc hf
      obtain ⟨f, rfl⟩ : ∃ f', f = f' + 1 := ⟨f - 1, by omega⟩
      obtain rfl : k = 6 := by omega
      show Mo_sureOf_b58 F (nI N) ln lt tbl (nI m) _ _ _ = _
      unfold Mo_sureOf_b58
      rw [if_pos (show (6 : Int32) ≤ nI 6 by decide), GG_99 hN hm h0]
    | succ d ih =>
      intro k f hc hf
      obtain ⟨f, rfl⟩ : ∃ f', f = f' + 1 := ⟨f - 1, by omega⟩
      show Mo_sureOf_b58 F (nI N) ln lt tbl (nI m) (Mo_sureOf_l58 F (nI N) ln lt tbl (nI m) f) _ _ = _
      unfold Mo_sureOf_b58
      have h1 := Nat.le_trans (gp_le T N 99 (nv T N) m (gn (nv T N) m 99 N) k) (gn_le (nv T N) m 99 N)
      have h2 : wp T N 99 (nv T N) m k ≤ 99 := by
        unfold wp; split
        · omega
        · exact Nat.le_trans (mx_le (fun _ => nv_10) 7) (by omega)
      have hl := Mo_sure_letters hO hN hF hm (show k < 6 by omega) ht (Mo_sureOf_l58 F (nI N) ln lt tbl (nI m) f) (nI (gp T N 99 (nv T N) m (gn (nv T N) m 99 N) k)) 7 0 F rfl (by omega)
      rw [n6, if_neg (show ¬ nI 6 ≤ nI k by rw [leN (by omega) (by omega)]; omega), show Mo_sureOf_l70 F (nI N) ln lt tbl (nI m) (Mo_sureOf_l58 F (nI N) ln lt tbl (nI m) f) F (nI (gp T N 99 (nv T N) m (gn (nv T N) m 99 N) k)) (nI k) 0 0 = _ from hl]
      unfold Mo_sureOf_b129 Mo_sureOf_b145
      rw [n1, nI_add, ← n1, show nI k + 1 = nI (k + 1) from nI_1 _, ← ih (k + 1) f (by omega) (by omega), gp]
      by_cases h : gp T N 99 (nv T N) m (gn (nv T N) m 99 N) k ≤ 1 + wp T N 99 (nv T N) m k
      · rw [if_pos (by rw [leN (by omega) (by omega)]; exact h), Nat.min_eq_left h]
      · rw [if_neg (by rw [leN (by omega) (by omega)]; exact h), Nat.min_eq_right (by omega)]
  have key : ∀ (d k f : Nat), k + d = N → d < f → Mo_sureOf_l5 F (nI N) ln lt tbl (nI m) f (nI (gn (nv T N) m 99 k)) (nI k) = some (nI (nv T N m)) := by
    intro d
    induction d with
    | zero =>
      intro k f hc hf
      obtain ⟨f, rfl⟩ : ∃ f', f = f' + 1 := ⟨f - 1, by omega⟩
      show Mo_sureOf_b5 F (nI N) ln lt tbl (nI m) _ _ (nI k) = _
      unfold Mo_sureOf_b5 Mo_sureOf_b56
      rw [if_pos (show nI N ≤ nI k by rw [leN (by omega) (by omega)]; omega), show k = N by omega]
      exact pl 6 0 F rfl (by omega)
    | succ d ih =>
      intro k f hc hf
      obtain ⟨f, rfl⟩ : ∃ f', f = f' + 1 := ⟨f - 1, by omega⟩
      show Mo_sureOf_b5 F (nI N) ln lt tbl (nI m) (Mo_sureOf_l5 F (nI N) ln lt tbl (nI m) f) _ (nI k) = _
      unfold Mo_sureOf_b5 Mo_sureOf_b50 Mo_sureOf_b49 Mo_sureOf_b50
      have h1 := gn_le (nv T N) m 99 k
      have h2 : nv T N (ndf m (2 ^ k)) ≤ 10 := nv_10
      have h3 := ndf_lt (b := 2 ^ k) hm
      rw [if_neg (show ¬ nI N ≤ nI k by rw [leN (by omega) (by omega)]; omega), Mo_isIn_ok (by omega) (by omega), cb1_s, sh1 k (by omega), ndfI, show nI k + 1 = nI (k + 1) from nI_1 _, ← ih (k + 1) f (by omega) (by omega), gn]
      cases hb : m.testBit k with
      | false => rw [if_neg (show ¬ (false = true) by decide), if_pos rfl, if_neg (show ¬ (false = true) by decide)]
      | true =>
        rw [if_pos rfl, if_neg (show ¬ (1 : Int32) = 0 by decide), if_pos rfl, rdN (by omega) (by omega), ht _ (sub_ndf m k) (ndf_ne hb), n1, nI_add]
        by_cases h : gn (nv T N) m 99 k ≤ 1 + nv T N (ndf m (2 ^ k))
        · rw [if_pos (by rw [leN (by omega) (by omega)]; exact h), Nat.min_eq_left h]
        · rw [if_neg (by rw [leN (by omega) (by omega)]; exact h), Nat.min_eq_right (by omega)]
  exact key N 0 F (by omega) (by omega)
theorem Mo_sureNow_v {T : Nat → Nat → Nat} {n : Nat → Nat} (hn2 : n 2 ≤ 6) {rn : Int32} {rp : Int32} {rs : Int32} {rch : (Nat → Int32)} {rlo : (Nat → Int32)} {rle : (Nat → Int32)} {ris : (Nat → Int32)} {rpl : (Nat → Int32)} {rpt : (Nat → Int32)} {rso : (Nat → Int32)} (hR : RdOK T n rn rp rs rch rlo rle ris rpl rpt rso) {F : Nat} (hF : 2000 ≤ F) (nts : Nat → Int32) : ∃ nts', Mo_sureNow F rn rp rs rlo rle ris rpl rpt rso nts = some (nI (nv (T 0) (nN T n) (FM T n 63)), nts') := by
  obtain ⟨q1, q2, q3, q4, q5, q6⟩ := hR
  have hN10 : nN T n ≤ 10 := pN_le
  have hl : FM T n 63 < 2 ^ (nN T n) := fm_lt _ _ _ _ _ _ _
  have h210 := p2_10 hN10
  have key : ∀ (d s f : Nat) (tbl : Nat → Int32), s + d = FM T n 63 + 1 → d < f → 1 ≤ s → (∀ q, q < s → sub q (FM T n 63) → tbl q = nI (nv (T 0) (nN T n) q)) → ∃ nts', Mo_sureNow_l14 F (nI (nN T n)) (nI (nP T n)) (nI (nS T n)) rlo rle ris rpl rpt rso f (nI (FM T n 63)) (nI s) tbl = some (nI (nv (T 0) (nN T n) (FM T n 63)), nts') := by
    intro d
    induction d with
    | zero =>
      intro s f tbl hs hf h1 ht
      obtain ⟨f, rfl⟩ : ∃ f', f = f' + 1 := ⟨f - 1, by omega⟩
      show ∃ nts', Mo_sureNow_b14 F _ _ _ rlo rle ris rpl rpt rso _ _ _ tbl = _
      unfold Mo_sureNow_b14 Mo_sureNow_b44
      rw [if_pos (show nI (FM T n 63) < nI s by rw [ltN (by omega) (by omega)]; omega), rdN (by omega) (by omega), ht _ (by omega) (fun _ h => h)]
      exact ⟨_, rfl⟩
    | succ d ih =>
      intro s f tbl hs hf h1 ht
      obtain ⟨f, rfl⟩ : ∃ f', f = f' + 1 := ⟨f - 1, by omega⟩
      show ∃ nts', Mo_sureNow_b14 F _ _ _ rlo rle ris rpl rpt rso (Mo_sureNow_l14 F (nI (nN T n)) (nI (nP T n)) (nI (nS T n)) rlo rle ris rpl rpt rso f) _ _ tbl = _
      have hnl := ndf_lt (b := FM T n 63) (show s < 2 ^ (nN T n) by omega)
      unfold Mo_sureNow_b14 Mo_sureNow_b38
      rw [if_neg (show ¬ nI (FM T n 63) < nI s by rw [ltN (by omega) (by omega)]; omega), ndfI, show nI s + 1 = nI (s + 1) from nI_1 _]
      by_cases hsub : sub s (FM T n 63)
      · rw [if_pos (show nI (ndf s (FM T n 63)) = 0 by rw [ndf_sub0.mpr hsub]; rfl), Mo_sureOf_ok q4 hN10 (by omega) (show s < 2 ^ (nN T n) by omega) (by omega) (fun q hq hne => ht q (sub_lt (N := 10) (by omega) hq hne) (sub_tr hq hsub)), cb1_s, wrN (by omega) (by omega)]
        refine ih (s + 1) f _ (by omega) (by omega) (by omega) (fun q hq hqs => ?_)
        by_cases e : q = s
        · subst e; rw [upd_s]
        · rw [upd_n e]; exact ht q (by omega) hqs
      · rw [if_neg (show ¬ nI (ndf s (FM T n 63)) = 0 from fun hq => hsub (ndf_sub0.mp ((nI_eq (b := 0) (by omega) (by omega)).mp hq)))]
        refine ih (s + 1) f _ (by omega) (by omega) (by omega) (fun q hq hqs => ?_)
        by_cases e : q = s
        · subst e; exact absurd hqs hsub
        · exact ht q (by omega) hqs
  unfold Mo_sureNow
  rw [q1, q2, q3, Mo_fitsNow_ok q4 pN_le q5 pP_le q6 (pS_le hn2) (show 100 ≤ F by omega), cb1_s, show fm (T 0) (T 1) (T 2) (nN T n) (nP T n) (nS T n) 63 = FM T n 63 from rfl, show wr 1024 nts 0 0 = wr 1024 nts (nI 0) 0 from rfl, wrN (by omega) (by omega)]
  exact key (FM T n 63) 1 F _ (by omega) (by omega) (by omega) (fun q hq _ => by
    obtain rfl : q = 0 := by omega
    rw [upd_s, nv_0]; rfl)
theorem sure_v {T : Nat → Nat → Nat} {n : Nat → Nat} {t0s : Int32} {t0b : (Nat → Int32)} {t1s : Int32} {t1b : (Nat → Int32)} {t2s : Int32} {t2b : (Nat → Int32)} {st : Int32} {nz : Int32} {nf : Int32} {nod : (Nat → Int32)} {nln : (Nat → Int32)} {nlt : (Nat → Int32)} {nal : (Nat → Int32)} {nto : (Nat → Int32)} {pz : Int32} {pf : Int32} {pis : (Nat → Int32)} {pln : (Nat → Int32)} {plt : (Nat → Int32)} {sz : Int32} {sf : Int32} {slt : (Nat → Int32)} {fpc : Int32} {fsf : Int32} {faf : Int32} {ford : Int32} {fpf : (Nat → Int32)} {fio : (Nat → Int32)} (hT : TxC T n t0s t0b t1s t1b t2s t2b) (hD : DrC T n st nz nf nod nln nlt nal nto pz pf pis pln plt sz sf slt fpc fsf faf ford fpf fio) {F : Nat} (hF : 2000 ≤ F) {ys yd : Int32} {yn : Nat → Int32} (hY : SpC T n ys yd yn) : ∃ r nz' nf' nod' nln' nlt' nal' nto' pz' pf' pis' pln' plt' sz' sf' slt' fpc' fsf' faf' ford' fpf' fio' ys' yd' yn', ND_sure F t0s t0b t1s t1b t2s t2b st nz nf nod nln nlt nal nto pz pf pis pln plt sz sf slt fpc fsf faf ford fpf fio ys yd yn = some (r, 0, nz', nf', nod', nln', nlt', nal', nto', pz', pf', pis', pln', plt', sz', sf', slt', fpc', fsf', faf', ford', fpf', fio', ys', yd', yn') ∧ DrC T n 0 nz' nf' nod' nln' nlt' nal' nto' pz' pf' pis' pln' plt' sz' sf' slt' fpc' fsf' faf' ford' fpf' fio' ∧ SpC T n ys' yd' yn' ∧ (∀ (rn : Int32) (rp : Int32) (rs : Int32) (rch : (Nat → Int32)) (rlo : (Nat → Int32)) (rle : (Nat → Int32)) (ris : (Nat → Int32)) (rpl : (Nat → Int32)) (rpt : (Nat → Int32)) (rso : (Nat → Int32)) (nts : Nat → Int32), RdOK T n rn rp rs rch rlo rle ris rpl rpt rso → ∃ nts', Mo_sureNow F rn rp rs rlo rle ris rpl rpt rso nts = some (r, nts')) := by
  obtain ⟨nz', nf', nod', nln', nlt', nal', nto', pz', pf', pis', pln', plt', sz', sf', slt', fpc', fsf', faf', ford', fpf', fio', e, g⟩ := ND_refresh_ok hT hD hF
  have g' := DrC_0 g
  have hG : GrOK (T 0) (nN T n) 6 nal' := g.1.2.2.2.1
  have g8 : faf' = nI (FM T n 63) := g.2.2.2.2.2.1
  have hN10 : nN T n ≤ 10 := pN_le
  have hl : FM T n 63 < 2 ^ (nN T n) := fm_lt _ _ _ _ _ _ _
  have h210 := p2_10 hN10
  unfold ND_sure Fi_byAll
  rw [e, cb22_s, cb1_s]
  unfold Sp_nightsAtWorst Sp_nightsAtWorst_b36 Sp_nightsAtWorst_b21 Sp_nightsAtWorst_b36
  rw [show faf' &&& 1023 = nI (FM T n 63) by rw [g8, show (1023 : Int32) = nI 1023 from rfl, bAnd]; exact congrArg nI (and_all (N := 10) (by omega))]
  obtain ⟨tbl', t1, t2⟩ := Sp_settle_ok hG hN10 hF hl yn hY.1
  have hm := fun (rn : Int32) (rp : Int32) (rs : Int32) (rch : (Nat → Int32)) (rlo : (Nat → Int32)) (rle : (Nat → Int32)) (ris : (Nat → Int32)) (rpl : (Nat → Int32)) (rpt : (Nat → Int32)) (rso : (Nat → Int32)) nts (hR : RdOK T n rn rp rs rch rlo rle ris rpl rpt rso) => Mo_sureNow_v (n2_le hT) hR hF nts
  have h0s : sub 0 (FM T n 63) := fun j hj => by rw [Nat.zero_testBit] at hj; cases hj
  have hset : SpC T n 0 (nI (FM T n 63)) tbl' := ⟨by rw [t2 0 h0s, nv_0]; rfl, fun _ => ⟨FM T n 63, by omega, rfl, t2⟩⟩
  have hre : tbl' (FM T n 63) = nI (nv (T 0) (nN T n) (FM T n 63)) := t2 _ (fun _ h => h)
  by_cases h1 : ys = 0
  · by_cases h2 : yd = nI (FM T n 63)
    · obtain ⟨M, hM, e1, e2⟩ := hY.2 h1
      have hMM : M = FM T n 63 := by rw [e1] at h2; exact (nI_eq (by omega) (by omega)).mp h2
      rw [if_pos h1, if_pos h2, rdN (by omega) (by omega), e2 _ (by rw [hMM]; exact fun _ h => h), cb4_s]
      refine ⟨_, _, _, _, _, _, _, _, _, _, _, _, _, _, _, _, _, _, _, _, _, _, _, _, _, rfl, g', hY, ?_⟩
      intro rn rp rs rch rlo rle ris rpl rpt rso nts hR
      exact hm _ _ _ _ _ _ _ _ _ _ nts hR
    · rw [if_pos h1, if_neg h2, t1, cb1_s, rdN (by omega) (by omega), hre, cb4_s]
      refine ⟨_, _, _, _, _, _, _, _, _, _, _, _, _, _, _, _, _, _, _, _, _, _, _, _, _, rfl, g', hset, ?_⟩
      intro rn rp rs rch rlo rle ris rpl rpt rso nts hR
      exact hm _ _ _ _ _ _ _ _ _ _ nts hR
  · rw [if_neg h1, t1, cb1_s, rdN (by omega) (by omega), hre, cb4_s]
    refine ⟨_, _, _, _, _, _, _, _, _, _, _, _, _, _, _, _, _, _, _, _, _, _, _, _, _, rfl, g', hset, ?_⟩
    intro rn rp rs rch rlo rle ris rpl rpt rso nts hR
    exact hm _ _ _ _ _ _ _ _ _ _ nts hR
theorem sure_ok {T : Nat → Nat → Nat} {n : Nat → Nat} {t0s : Int32} {t0b : (Nat → Int32)} {t1s : Int32} {t1b : (Nat → Int32)} {t2s : Int32} {t2b : (Nat → Int32)} {st : Int32} {nz : Int32} {nf : Int32} {nod : (Nat → Int32)} {nln : (Nat → Int32)} {nlt : (Nat → Int32)} {nal : (Nat → Int32)} {nto : (Nat → Int32)} {pz : Int32} {pf : Int32} {pis : (Nat → Int32)} {pln : (Nat → Int32)} {plt : (Nat → Int32)} {sz : Int32} {sf : Int32} {slt : (Nat → Int32)} {fpc : Int32} {fsf : Int32} {faf : Int32} {ford : Int32} {fpf : (Nat → Int32)} {fio : (Nat → Int32)} (hT : TxC T n t0s t0b t1s t1b t2s t2b) (hD : DrC T n st nz nf nod nln nlt nal nto pz pf pis pln plt sz sf slt fpc fsf faf ford fpf fio) {F : Nat} (hF : 2000 ≤ F) {bytes typed : Nat → Int32} (hM : TxR T n bytes typed) {ys yd : Int32} {yn : Nat → Int32} (hY : SpC T n ys yd yn) (ra : Int32) (rn : Int32) (rp : Int32) (rs : Int32) (rch : (Nat → Int32)) (rlo : (Nat → Int32)) (rle : (Nat → Int32)) (ris : (Nat → Int32)) (rpl : (Nat → Int32)) (rpt : (Nat → Int32)) (rso : (Nat → Int32)) (nts : Nat → Int32) : ∃ r st' nz' nf' nod' nln' nlt' nal' nto' pz' pf' pis' pln' plt' sz' sf' slt' fpc' fsf' faf' ford' fpf' fio' ys' yd' yn' ra' rn' rp' rs' rch' rlo' rle' ris' rpl' rpt' rso' nts', ND_sure F t0s t0b t1s t1b t2s t2b st nz nf nod nln nlt nal nto pz pf pis pln plt sz sf slt fpc fsf faf ford fpf fio ys yd yn = some (r, st', nz', nf', nod', nln', nlt', nal', nto', pz', pf', pis', pln', plt', sz', sf', slt', fpc', fsf', faf', ford', fpf', fio', ys', yd', yn') ∧ Mo_sure F bytes typed ra rn rp rs rch rlo rle ris rpl rpt rso nts = some (r, ra', rn', rp', rs', rch', rlo', rle', ris', rpl', rpt', rso', nts') ∧ DrC T n st' nz' nf' nod' nln' nlt' nal' nto' pz' pf' pis' pln' plt' sz' sf' slt' fpc' fsf' faf' ford' fpf' fio' ∧ SpC T n ys' yd' yn' := by
  obtain ⟨ra', rn', rp', rs', rch', rlo', rle', ris', rpl', rpt', rso', f, hR⟩ := Mo_reads_ok hT hM hF ra rn rp rs rch rlo rle ris rpl rpt rso
  obtain ⟨r, nz', nf', nod', nln', nlt', nal', nto', pz', pf', pis', pln', plt', sz', sf', slt', fpc', fsf', faf', ford', fpf', fio', ys', yd', yn', v, g, y, w⟩ := sure_v hT hD hF hY
  obtain ⟨nts', w'⟩ := w _ _ _ _ _ _ _ _ _ _ nts hR
  unfold Mo_sure
  rw [v, f, cb11_s, w', cb2_s]
  exact ⟨_, _, _, _, _, _, _, _, _, _, _, _, _, _, _, _, _, _, _, _, _, _, _, _, _, _, _, _, _, _, _, _, _, _, _, _, _, _, rfl, rfl, g, y⟩
