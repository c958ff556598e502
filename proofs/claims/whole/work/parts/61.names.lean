/-! NAMES: where the k-th begins, its letters, its odds; what the parse of a text says -/
def st (T : Nat → Nat) : Nat → Nat
  | 0 => 0
  | k + 1 => st T k + 2 + run T (st T k + 1) 6
def Ln (T : Nat → Nat) (k : Nat) : Nat := run T (st T k + 1) 6
def Od (T : Nat → Nat) (k : Nat) : Nat := T (st T k) - 48
def Lt (T : Nat → Nat) (k i : Nat) : Nat := lc (T (st T k + 1 + i))
def sd (T : Nat → Nat) (k p : Nat) : Nat := if p < Ln T k then Lt T k p else 6
theorem Ln_le (T : Nat → Nat) (k : Nat) : Ln T k ≤ 6 := run_le T 6 _
theorem st_le (T : Nat → Nat) : ∀ k, st T k ≤ 8 * k
  | 0 => Nat.le_refl 0
  | k + 1 => by
    have h1 := st_le T k
    have h2 := run_le T 6 (st T k + 1)
    unfold st; omega
theorem st_succ (T : Nat → Nat) (k : Nat) : st T (k + 1) = st T k + 1 + Ln T k + 1 := by unfold Ln; rw [st]; omega
theorem run_lc (T : Nat → Nat) : ∀ (m p j : Nat), j < run T p m → lc (T (p + j)) < 6
  | 0, _, _, h => absurd h (Nat.not_lt_zero _)
  | m + 1, p, j, h => by
    rw [run] at h
    by_cases hc : lc (T p) < 6
    · rw [if_pos hc] at h
      cases j with
      | zero => exact hc
      | succ j => rw [show p + (j + 1) = p + 1 + j by omega]; exact run_lc T m (p + 1) j (by omega)
    · rw [if_neg hc] at h; omega
theorem Lt_lt {T : Nat → Nat} {k i : Nat} (h : i < Ln T k) : Lt T k i < 6 := run_lc T 6 _ _ h
def goN (T : Nat → Nat) (n : Nat) : Nat → Nat → Nat × Nat
  | 0, k => (st T k, 0)
  | m + 1, k => if 49 ≤ T (st T k) ∧ T (st T k) ≤ 57 then
      (if Ln T k = 0 then (st T k + 1, 0) else if st T k + 1 + Ln T k = n then (1000, k + 1) else if T (st T k + 1 + Ln T k) = 59 then goN T n m (k + 1) else (st T k + 1 + Ln T k, 0))
    else (st T k, 0)
def fI (f : Nat) : Int32 := if f = 1000 then -1 else nI f
/-- the arrays hold the first k names -/
def NmOK (T : Nat → Nat) (k : Nat) (od ln lt : Nat → Int32) : Prop := ∀ i, i < k → (49 ≤ T (st T i) ∧ T (st T i) ≤ 57) ∧ 0 < Ln T i ∧ od i = nI (Od T i) ∧ ln i = nI (Ln T i) ∧ ∀ j, j < Ln T i → lt (6 * i + j) = nI (Lt T i j)
theorem goN_f {T : Nat → Nat} {n : Nat} : ∀ (m k : Nat), k + m ≤ 10 → (goN T n m k).1 = 1000 ∨ (goN T n m k).1 < 100
  | 0, k, h => Or.inr (by have := st_le T k; rw [goN]; show st T k < 100; omega)
  | m + 1, k, h => by
    have h1 := st_le T k
    have h2 := Ln_le T k
    rw [goN]
    split
    · split
      · exact Or.inr (by show st T k + 1 < 100; omega)
      · split
        · exact Or.inl rfl
        · split
          · exact goN_f m (k + 1) (by omega)
          · exact Or.inr (by show st T k + 1 + Ln T k < 100; omega)
    · exact Or.inr (by show st T k < 100; omega)
theorem goN_N {T : Nat → Nat} {n : Nat} : ∀ (m k : Nat), k + m ≤ 10 → (goN T n m k).2 ≤ 10
  | 0, k, h => Nat.zero_le _
  | m + 1, k, h => by
    rw [goN]
    split
    · split
      · exact Nat.zero_le _
      · split
        · show k + 1 ≤ 10; omega
        · split
          · exact goN_N m (k + 1) (by omega)
          · exact Nat.zero_le _
    · exact Nat.zero_le _
theorem cI_lt {c a : Nat} (ha : a < 256) : (cI c < nI a) = (c < a ∨ 256 ≤ c) := by
  unfold cI
  by_cases hc : c < 256
  · rw [if_pos hc, ltN (by omega) (by omega)]
    exact propext ⟨fun h => Or.inl h, fun h => by omega⟩
  · rw [if_neg hc]
    exact propext ⟨fun _ => Or.inr (by omega), fun _ => m1_lt (by omega)⟩
theorem cI_le {c a : Nat} (ha : a < 256) : (cI c ≤ nI a) = (c ≤ a ∨ 256 ≤ c) := by
  unfold cI
  by_cases hc : c < 256
  · rw [if_pos hc, leN (by omega) (by omega)]
    exact propext ⟨fun h => Or.inl h, fun h => by omega⟩
  · rw [if_neg hc]
    exact propext ⟨fun _ => Or.inr (by omega), fun _ => Int32.le_of_lt (m1_lt (by omega))⟩
theorem cI_eq {c a : Nat} (ha : a < 256) : (cI c = nI a) = (c = a) := by
  unfold cI
  by_cases hc : c < 256
  · rw [if_pos hc, eqN (by omega) (by omega)]
  · rw [if_neg hc]
    exact propext ⟨fun h => absurd h (m1_ne (by omega)), fun h => by omega⟩
theorem Na_tl {T : Nat → Nat} {n cap : Nat} {b : Nat → Int32} (h : TX T n cap b) {F p k : Nat} (hF : 100 ≤ F) (hp : p < 500) (hk : k < 10) (w : Nat → Int32) :
    ∃ w', Na_takeLetters F cap (nI n) b w (nI p) (nI k) = some (nI (run T p 6), w') ∧ (∀ j, j < run T p 6 → w' (6 * k + j) = nI (lc (T (p + j)))) ∧ ∀ q, (q < 6 * k ∨ 6 * k + 6 ≤ q) → w' q = w q := by
  obtain ⟨w', h1, h2, h3⟩ := Na_tl_loop h F p k hp hk 6 0 F w rfl (by omega)
  refine ⟨w', ?_, h2, h3⟩
  unfold Na_takeLetters
  rw [n0, h1, Nat.zero_add]; rfl
theorem sc_bad {α β γ : Type} {p : Nat} {X : Option (Int32 × Int32 × α × β × γ)} {sz : Int32} {a : α} {b : β} {c : γ} {P : Int32 → α → β → γ → Prop} (hX : X = some (nI p, sz, a, b, c)) (hp : p < 1000) : ∃ (sz' : Int32) (a' : α) (b' : β) (c' : γ), X = some (fI p, sz', a', b', c') ∧ (p = 1000 → P sz' a' b' c') :=
  ⟨sz, a, b, c, by rw [hX, fI, if_neg (by omega)], fun e => absurd e (by omega)⟩
theorem Na_scan_loop {T : Nat → Nat} {n cap : Nat} {b : Nat → Int32} (h : TX T n cap b) {F : Nat} (hF : 100 ≤ F) : ∀ (m k f : Nat) (od ln lt : Nat → Int32), k + m = 10 → m < f → NmOK T k od ln lt →
    ∃ (sz : Int32) (od' ln' lt' : Nat → Int32), Na_scan_l13 F cap (nI n) b f (nI (st T k)) (nI k) (nI k) od ln lt = some (fI (goN T n m k).1, sz, od', ln', lt') ∧ ((goN T n m k).1 = 1000 → sz = nI (goN T n m k).2 ∧ NmOK T (goN T n m k).2 od' ln' lt') := by
  intro m
  induction m with
  | zero =>
    intro k f od ln lt hk hf hO
    obtain ⟨f, rfl⟩ : ∃ f', f = f' + 1 := ⟨f - 1, by omega⟩
    have hs := st_le T k
    refine ⟨nI k, od, ln, lt, ?_, fun e => absurd e (by show ¬ st T k = 1000; omega)⟩
    show Na_scan_b13 F cap (nI n) b _ (nI (st T k)) (nI k) (nI k) od ln lt = _
    unfold Na_scan_b13
    rw [n10, if_pos (by rw [leN (by omega) (by omega)]; omega)]
    show _ = some (fI (st T k), _)
    rw [fI, if_neg (by omega)]
  | succ m ih =>
    intro k f od ln lt hk hf hO
    obtain ⟨f, rfl⟩ : ∃ f', f = f' + 1 := ⟨f - 1, by omega⟩
    have hs := st_le T k
    have hL := Ln_le T k
    show ∃ (sz : Int32) (od' ln' lt' : Nat → Int32), Na_scan_b13 F cap (nI n) b (Na_scan_l13 F cap (nI n) b f) (nI (st T k)) (nI k) (nI k) od ln lt = _ ∧ _
    unfold Na_scan_b13
    rw [n10, if_neg (by rw [leN (by omega) (by omega)]; omega), Te_byteAt_ok h (by omega), cb1_s, goN]
    by_cases h1 : T (st T k) < 49 ∨ 256 ≤ T (st T k)
    · rw [if_pos (show cI (T (st T k)) < 49 by rw [show (49 : Int32) = nI 49 from rfl, cI_lt (by omega)]; exact h1), if_neg (show ¬ (49 ≤ T (st T k) ∧ T (st T k) ≤ 57) by omega)]
      exact sc_bad rfl (by show st T k < 1000; omega)
    · rw [if_neg (show ¬ cI (T (st T k)) < 49 by rw [show (49 : Int32) = nI 49 from rfl, cI_lt (by omega)]; exact h1)]
      by_cases h2 : T (st T k) ≤ 57
      · rw [if_pos (show cI (T (st T k)) ≤ 57 by rw [show (57 : Int32) = nI 57 from rfl, cI_le (by omega)]; exact Or.inl h2), if_pos (show 49 ≤ T (st T k) ∧ T (st T k) ≤ 57 by omega)]
        obtain ⟨w', e1, e2, e3⟩ := Na_tl h hF (p := st T k + 1) (k := k) (by omega) (by omega) lt
        rw [n1, nI_add, e1, cb2_s]
        show ∃ (sz : Int32) (od' ln' lt' : Nat → Int32), (if nI (Ln T k) = 0 then _ else _) = _ ∧ _
        by_cases h3 : Ln T k = 0
        · rw [if_pos (show nI (Ln T k) = 0 by rw [h3]; rfl), if_pos h3]
          have : run T (st T k + 1) 6 = 0 := h3
          rw [this]
          exact sc_bad (by rw [nI_add]) (by show st T k + 1 < 1000; omega)
        · rw [if_neg (show ¬ nI (Ln T k) = 0 by rw [n0, eqN (by omega) (by omega)]; exact h3), if_neg h3]
          have ec : cI (T (st T k)) = nI (T (st T k)) := if_pos (by omega)
          rw [ec, show (48 : Int32) = nI 48 from rfl, subN (by omega), wrN (by omega) (by omega), wrN (by omega) (by omega)]
          unfold Te_size
          rw [cb1_s]
          have er : nI (st T k + 1) + nI (run T (st T k + 1) 6) = nI (st T k + 1 + Ln T k) := nI_add _ _
          rw [er, nI_add]
          have hO2 : NmOK T (k + 1) (upd od k (nI (T (st T k) - 48))) (upd ln k (nI (run T (st T k + 1) 6))) w' := by
            intro i hi
            by_cases hik : i = k
            · subst hik
              refine ⟨by omega, by omega, by rw [upd_s]; rfl, by rw [upd_s]; rfl, fun j hj => ?_⟩
              exact e2 j hj
            · obtain ⟨g1, g2, g3, g4, g5⟩ := hO i (by omega)
              refine ⟨g1, g2, by rw [upd_n hik]; exact g3, by rw [upd_n hik]; exact g4, fun j hj => ?_⟩
              have hLi := Ln_le T i
              rw [e3 _ (Or.inl (by omega))]; exact g5 j hj
          by_cases h4 : st T k + 1 + Ln T k = n
          · rw [if_pos (show nI (st T k + 1 + Ln T k) = nI n by rw [h4]), if_pos h4]
            exact ⟨_, _, _, _, rfl, fun _ => ⟨rfl, hO2⟩⟩
          · have hn := h.1
            have hc := h.2.1
            rw [if_neg (show ¬ nI (st T k + 1 + Ln T k) = nI n by rw [eqN (by omega) (by omega)]; exact h4), if_neg h4, Te_byteAt_ok h (by omega), cb1_s]
            by_cases h5 : T (st T k + 1 + Ln T k) = 59
            · rw [if_pos (show cI (T (st T k + 1 + Ln T k)) = 59 by rw [show (59 : Int32) = nI 59 from rfl, cI_eq (by omega)]; exact h5), if_pos h5, nI_add, ← st_succ]
              exact ih (k + 1) f _ _ _ (by omega) (by omega) hO2
            · rw [if_neg (show ¬ cI (T (st T k + 1 + Ln T k)) = 59 by rw [show (59 : Int32) = nI 59 from rfl, cI_eq (by omega)]; exact h5), if_neg h5]
              exact sc_bad rfl (by show st T k + 1 + Ln T k < 1000; omega)
      · rw [if_neg (show ¬ cI (T (st T k)) ≤ 57 by rw [show (57 : Int32) = nI 57 from rfl, cI_le (by omega)]; omega), if_neg (show ¬ (49 ≤ T (st T k) ∧ T (st T k) ≤ 57) by omega)]
        exact sc_bad rfl (by show st T k < 1000; omega)
/-- what a text of n bytes says: the fault (1000: none), how many names -/
def pN (T : Nat → Nat) (n : Nat) : Nat × Nat := if n = 0 then (1000, 0) else goN T n 10 0
theorem Na_scan_ok {T : Nat → Nat} {n cap : Nat} {b : Nat → Int32} (h : TX T n cap b) {F : Nat} (hF : 100 ≤ F) (od ln lt : Nat → Int32) :
    ∃ (sz : Int32) (od' ln' lt' : Nat → Int32), Na_scan F cap (nI n) b 0 od ln lt = some (fI (pN T n).1, sz, od', ln', lt') ∧ ((pN T n).1 = 1000 → sz = nI (pN T n).2 ∧ NmOK T (pN T n).2 od' ln' lt') := by
  unfold Na_scan Te_size pN
  rw [cb1_s]
  by_cases h0 : n = 0
  · subst h0
    rw [if_pos (show nI 0 = 0 from rfl), if_pos rfl]
    exact ⟨_, _, _, _, rfl, fun _ => ⟨rfl, fun i hi => absurd hi (Nat.not_lt_zero i)⟩⟩
  · have hn := h.1
    have hc := h.2.1
    rw [if_neg (show ¬ nI n = 0 by rw [n0, eqN (by omega) (by omega)]; exact h0), if_neg h0]
    exact Na_scan_loop h hF 10 0 F od ln lt rfl (by omega) (fun i hi => absurd hi (Nat.not_lt_zero i))
