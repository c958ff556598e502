/-! PIECES -/
def sp (T : Nat → Nat) : Nat → Nat
  | 0 => 0
  | k + 1 => sp T k + 2 + run T (sp T k + 1) 3
def Pl (T : Nat → Nat) (k : Nat) : Nat := run T (sp T k + 1) 3
def Pt (T : Nat → Nat) (k i : Nat) : Nat := lc (T (sp T k + 1 + i))
def Ps (T : Nat → Nat) (k : Nat) : Bool := T (sp T k) == 43
def bI (b : Bool) : Int32 := if b then 1 else 0
theorem Pl_le (T : Nat → Nat) (k : Nat) : Pl T k ≤ 3 := run_le T 3 _
theorem sp_le (T : Nat → Nat) : ∀ k, sp T k ≤ 5 * k
  | 0 => Nat.le_refl 0
  | k + 1 => by
    have h1 := sp_le T k
    have h2 := run_le T 3 (sp T k + 1)
    unfold sp; omega
theorem sp_succ (T : Nat → Nat) (k : Nat) : sp T (k + 1) = sp T k + 1 + Pl T k + 1 := by unfold Pl; rw [sp]; omega
theorem Pt_lt {T : Nat → Nat} {k i : Nat} (h : i < Pl T k) : Pt T k i < 6 := run_lc T 3 _ _ h
def goP (T : Nat → Nat) (n : Nat) : Nat → Nat → Nat × Nat
  | 0, k => (sp T k, 0)
  | m + 1, k => if T (sp T k) = 43 ∨ T (sp T k) = 45 then
      (if Pl T k = 0 then (sp T k + 1, 0) else if sp T k + 1 + Pl T k = n then (1000, k + 1) else if T (sp T k + 1 + Pl T k) = 59 then goP T n m (k + 1) else (sp T k + 1 + Pl T k, 0))
    else (sp T k, 0)
def PcOK (T : Nat → Nat) (k : Nat) (is ln lt : Nat → Int32) : Prop := ∀ i, i < k → 0 < Pl T i ∧ is i = bI (Ps T i) ∧ ln i = nI (Pl T i) ∧ ∀ j, j < Pl T i → lt (3 * i + j) = nI (Pt T i j)
theorem goP_f {T : Nat → Nat} {n : Nat} : ∀ (m k : Nat), k + m ≤ 6 → (goP T n m k).1 = 1000 ∨ (goP T n m k).1 < 100
  | 0, k, h => Or.inr (by have := sp_le T k; rw [goP]; show sp T k < 100; omega)
  | m + 1, k, h => by
    have h1 := sp_le T k
    have h2 := Pl_le T k
    rw [goP]
    split
    · split
      · exact Or.inr (by show sp T k + 1 < 100; omega)
      · split
        · exact Or.inl rfl
        · split
          · exact goP_f m (k + 1) (by omega)
          · exact Or.inr (by show sp T k + 1 + Pl T k < 100; omega)
    · exact Or.inr (by show sp T k < 100; omega)
theorem goP_N {T : Nat → Nat} {n : Nat} : ∀ (m k : Nat), k + m ≤ 6 → (goP T n m k).2 ≤ 6
  | 0, k, h => Nat.zero_le _
  | m + 1, k, h => by
    rw [goP]
    split
    · split
      · exact Nat.zero_le _
      · split
        · show k + 1 ≤ 6; omega
        · split
          · exact goP_N m (k + 1) (by omega)
          · exact Nat.zero_le _
    · exact Nat.zero_le _
theorem Pi_tl_loop {T : Nat → Nat} {n cap : Nat} {b : Nat → Int32} (h : TX T n cap b) (F p k : Nat) (hp : p < 500) (hk : k < 6) : ∀ (m i f : Nat) (w : Nat → Int32), i + m = 3 → m < f →
    ∃ w', Pi_takeLetters_l3 F cap (nI n) b (nI p) (nI k) f (nI i) w = some (nI (i + run T (p + i) m), w') ∧ (∀ j, j < run T (p + i) m → w' (3 * k + i + j) = nI (lc (T (p + i + j)))) ∧ ∀ q, (q < 3 * k + i ∨ 3 * k + 3 ≤ q) → w' q = w q := by
  intro m
  induction m with
  | zero =>
    intro i f w hi hf
    obtain ⟨f, rfl⟩ : ∃ f', f = f' + 1 := ⟨f - 1, by omega⟩
    refine ⟨w, ?_, fun j hj => absurd hj (Nat.not_lt_zero j), fun _ _ => rfl⟩
    show Pi_takeLetters_b3 F cap (nI n) b (nI p) (nI k) _ (nI i) w = _
    unfold Pi_takeLetters_b3
    rw [n3, if_pos (by rw [leN (by omega) (by omega)]; omega), show i = 3 by omega]
    rfl
  | succ m ih =>
    intro i f w hi hf
    obtain ⟨f, rfl⟩ : ∃ f', f = f' + 1 := ⟨f - 1, by omega⟩
    have e0 : Pi_takeLetters_l3 F cap (nI n) b (nI p) (nI k) (f + 1) (nI i) w = Pi_takeLetters_b3 F cap (nI n) b (nI p) (nI k) (Pi_takeLetters_l3 F cap (nI n) b (nI p) (nI k) f) (nI i) w := rfl
    rw [e0]
    unfold Pi_takeLetters_b3
    rw [n3, if_neg (by rw [leN (by omega) (by omega)]; omega), nI_add, Te_byteAt_ok h (by omega), cb1_s, ND_letterOf_ok, cb1_s]
    by_cases hc : lc (T (p + i)) < 6
    · rw [if_pos hc, if_neg (ne_m1 (by omega)), mulN, nI_add, wrN (by omega) (by omega), n1, nI_add]
      obtain ⟨w', h1, h2, h3⟩ := ih (i + 1) f (upd w (k * 3 + i) (nI (lc (T (p + i))))) (by omega) (by omega)
      have er : run T (p + i) (m + 1) = 1 + run T (p + (i + 1)) m := by rw [run, if_pos hc]; rfl
      refine ⟨w', ?_, fun j hj => ?_, fun q hq => ?_⟩
      · rw [h1, er, Nat.add_assoc]
      · cases j with
        | zero =>
          rw [h3 _ (Or.inl (by omega)), show 3 * k + i + 0 = k * 3 + i by omega, upd_s]; rfl
        | succ j =>
          have := h2 j (by omega)
          rw [show 3 * k + i + (j + 1) = 3 * k + (i + 1) + j by omega, this, show p + (i + 1) + j = p + i + (j + 1) by omega]
      · rw [h3 q (by omega), upd_n (by omega)]
    · rw [if_neg hc, if_pos rfl]
      have er : run T (p + i) (m + 1) = 0 := by rw [run, if_neg hc]
      exact ⟨w, by rw [er]; rfl, fun j hj => absurd hj (by omega), fun _ _ => rfl⟩
theorem Pi_tl {T : Nat → Nat} {n cap : Nat} {b : Nat → Int32} (h : TX T n cap b) {F p k : Nat} (hF : 100 ≤ F) (hp : p < 500) (hk : k < 6) (w : Nat → Int32) :
    ∃ w', Pi_takeLetters F cap (nI n) b w (nI p) (nI k) = some (nI (run T p 3), w') ∧ (∀ j, j < run T p 3 → w' (3 * k + j) = nI (lc (T (p + j)))) ∧ ∀ q, (q < 3 * k ∨ 3 * k + 3 ≤ q) → w' q = w q := by
  obtain ⟨w', h1, h2, h3⟩ := Pi_tl_loop h F p k hp hk 3 0 F w rfl (by omega)
  refine ⟨w', ?_, h2, h3⟩
  unfold Pi_takeLetters
  rw [n0, h1, Nat.zero_add]; rfl
theorem nar_b (b : Bool) : vp_nar .boolean (bI b) = bI b := by cases b <;> decide
theorem PcOK_add {T : Nat → Nat} {k : Nat} {is ln lt w' : Nat → Int32} (hO : PcOK T k is ln lt) (h3 : ¬ Pl T k = 0) (e2 : ∀ j, j < Pl T k → w' (3 * k + j) = nI (Pt T k j)) (e3 : ∀ q, (q < 3 * k ∨ 3 * k + 3 ≤ q) → w' q = lt q) : PcOK T (k + 1) (upd is k (bI (Ps T k))) (upd ln k (nI (Pl T k))) w' := by
  intro i hi
  by_cases hik : i = k
  · subst hik
    exact ⟨by omega, upd_s _ _ _, upd_s _ _ _, e2⟩
  · obtain ⟨g2, g3, g4, g5⟩ := hO i (by omega)
    refine ⟨g2, by rw [upd_n hik]; exact g3, by rw [upd_n hik]; exact g4, fun j hj => ?_⟩
    have hLi := Pl_le T i
    rw [e3 _ (Or.inl (by omega))]; exact g5 j hj
theorem Pi_b42 {T : Nat → Nat} {n cap : Nat} {b : Nat → Int32} (h : TX T n cap b) {F : Nat} (hF : 100 ≤ F) {m k : Nat} {is ln lt : Nat → Int32} (hk : k + (m + 1) = 6) (hO : PcOK T k is ln lt) (rec : Int32 → Int32 → Int32 → (Nat → Int32) → (Nat → Int32) → (Nat → Int32) → Option (Int32 × Int32 × (Nat → Int32) × (Nat → Int32) × (Nat → Int32)))
    (hs : T (sp T k) = 43 ∨ T (sp T k) = 45)
    (ih : ∀ (is ln lt : Nat → Int32), PcOK T (k + 1) is ln lt → ∃ (sz : Int32) (is' ln' lt' : Nat → Int32), rec (nI (sp T (k + 1))) (nI (k + 1)) (nI (k + 1)) is ln lt = some (fI (goP T n m (k + 1)).1, sz, is', ln', lt') ∧ ((goP T n m (k + 1)).1 = 1000 → sz = nI (goP T n m (k + 1)).2 ∧ PcOK T (goP T n m (k + 1)).2 is' ln' lt')) :
    ∃ (sz : Int32) (is' ln' lt' : Nat → Int32), Pi_scan_b42 F cap (nI n) b rec (nI (sp T k)) (nI k) (cI (T (sp T k))) (nI k) is ln lt = some (fI (goP T n (m + 1) k).1, sz, is', ln', lt') ∧ ((goP T n (m + 1) k).1 = 1000 → sz = nI (goP T n (m + 1) k).2 ∧ PcOK T (goP T n (m + 1) k).2 is' ln' lt') := by
  have hsk := sp_le T k
  have hL := Pl_le T k
  have hn := h.1
  have hc := h.2.1
  unfold Pi_scan_b42
  obtain ⟨w', e1, e2, e3⟩ := Pi_tl h hF (p := sp T k + 1) (k := k) (by omega) (by omega) lt
  rw [show nI (sp T k) + 1 = nI (sp T k + 1) from nI_1 _, e1, cb2_s, goP, if_pos hs]
  show ∃ (sz : Int32) (is' ln' lt' : Nat → Int32), (if nI (Pl T k) = 0 then _ else _) = _ ∧ _
  by_cases h3 : Pl T k = 0
  · rw [if_pos (show nI (Pl T k) = 0 by rw [h3]; rfl), if_pos h3]
    have : run T (sp T k + 1) 3 = 0 := h3
    rw [this]
    exact sc_bad (by rw [nI_add]) (by show sp T k + 1 < 1000; omega)
  · rw [if_neg (show ¬ nI (Pl T k) = 0 by rw [n0, eqN (by omega) (by omega)]; exact h3), if_neg h3]
    have er : nI (sp T k + 1) + nI (run T (sp T k + 1) 3) = nI (sp T k + 1 + Pl T k) := nI_add _ _
    rw [er]
    have hO2 := PcOK_add hO h3 e2 e3
    have key : ∃ (sz : Int32) (is' ln' lt' : Nat → Int32), Pi_scan_b83 F cap (nI n) b rec (nI (sp T k + 1 + Pl T k)) (nI k) (nI (Pl T k)) (nI k) (bI (Ps T k)) (nI k) is ln w' = some (fI (if sp T k + 1 + Pl T k = n then (1000, k + 1) else if T (sp T k + 1 + Pl T k) = 59 then goP T n m (k + 1) else (sp T k + 1 + Pl T k, 0)).1, sz, is', ln', lt') ∧ ((if sp T k + 1 + Pl T k = n then (1000, k + 1) else if T (sp T k + 1 + Pl T k) = 59 then goP T n m (k + 1) else (sp T k + 1 + Pl T k, 0)).1 = 1000 → sz = nI (if sp T k + 1 + Pl T k = n then (1000, k + 1) else if T (sp T k + 1 + Pl T k) = 59 then goP T n m (k + 1) else (sp T k + 1 + Pl T k, 0)).2 ∧ PcOK T (if sp T k + 1 + Pl T k = n then (1000, k + 1) else if T (sp T k + 1 + Pl T k) = 59 then goP T n m (k + 1) else (sp T k + 1 + Pl T k, 0)).2 is' ln' lt') := by
      unfold Pi_scan_b83 Te_size
      rw [wrZN (by omega) (by omega), wrN (by omega) (by omega), cb1_s, nar_b, show nI k + 1 = nI (k + 1) from nI_1 _]
      by_cases h4 : sp T k + 1 + Pl T k = n
      · rw [if_pos (show nI (sp T k + 1 + Pl T k) = nI n by rw [h4]), if_pos h4]
        exact ⟨_, _, _, _, rfl, fun _ => ⟨rfl, hO2⟩⟩
      · rw [if_neg (show ¬ nI (sp T k + 1 + Pl T k) = nI n by rw [eqN (by omega) (by omega)]; exact h4), if_neg h4, Te_byteAt_ok h (by omega), cb1_s]
        by_cases h5 : T (sp T k + 1 + Pl T k) = 59
        · rw [if_pos (show cI (T (sp T k + 1 + Pl T k)) = 59 by rw [show (59 : Int32) = nI 59 from rfl, cI_eq (by omega)]; exact h5), if_pos h5, show nI (sp T k + 1 + Pl T k) + 1 = nI (sp T k + 1 + Pl T k + 1) from nI_1 _, ← sp_succ]
          exact ih _ _ _ hO2
        · rw [if_neg (show ¬ cI (T (sp T k + 1 + Pl T k)) = 59 by rw [show (59 : Int32) = nI 59 from rfl, cI_eq (by omega)]; exact h5), if_neg h5]
          exact sc_bad rfl (by show sp T k + 1 + Pl T k < 1000; omega)
    have epl : nI (run T (sp T k + 1) 3) = nI (Pl T k) := rfl
    rw [epl]
    by_cases hz : T (sp T k) = 43
    · rw [if_pos (show cI (T (sp T k)) = 43 by rw [show (43 : Int32) = nI 43 from rfl, cI_eq (by omega)]; exact hz)]
      have eb : bI (Ps T k) = 1 := by simp [bI, Ps, hz]
      rw [eb] at key; exact key
    · rw [if_neg (show ¬ cI (T (sp T k)) = 43 by rw [show (43 : Int32) = nI 43 from rfl, cI_eq (by omega)]; exact hz)]
      have eb : bI (Ps T k) = 0 := by simp [bI, Ps, hz]
      rw [eb] at key; exact key
theorem Pi_scan_loop {T : Nat → Nat} {n cap : Nat} {b : Nat → Int32} (h : TX T n cap b) {F : Nat} (hF : 100 ≤ F) : ∀ (m k f : Nat) (is ln lt : Nat → Int32), k + m = 6 → m < f → PcOK T k is ln lt →
    ∃ (sz : Int32) (is' ln' lt' : Nat → Int32), Pi_scan_l13 F cap (nI n) b f (nI (sp T k)) (nI k) (nI k) is ln lt = some (fI (goP T n m k).1, sz, is', ln', lt') ∧ ((goP T n m k).1 = 1000 → sz = nI (goP T n m k).2 ∧ PcOK T (goP T n m k).2 is' ln' lt') := by
  intro m
  induction m with
  | zero =>
    intro k f is ln lt hk hf hO
    obtain ⟨f, rfl⟩ : ∃ f', f = f' + 1 := ⟨f - 1, by omega⟩
    have hs := sp_le T k
    show ∃ (sz : Int32) (is' ln' lt' : Nat → Int32), Pi_scan_b13 F cap (nI n) b _ (nI (sp T k)) (nI k) (nI k) is ln lt = _ ∧ _
    unfold Pi_scan_b13
    rw [n6, if_pos (by rw [leN (by omega) (by omega)]; omega)]
    exact sc_bad rfl (by show sp T k < 1000; omega)
  | succ m ih =>
    intro k f is ln lt hk hf hO
    obtain ⟨f, rfl⟩ : ∃ f', f = f' + 1 := ⟨f - 1, by omega⟩
    have hs := sp_le T k
    show ∃ (sz : Int32) (is' ln' lt' : Nat → Int32), Pi_scan_b13 F cap (nI n) b (Pi_scan_l13 F cap (nI n) b f) (nI (sp T k)) (nI k) (nI k) is ln lt = _ ∧ _
    unfold Pi_scan_b13
    rw [n6, if_neg (by rw [leN (by omega) (by omega)]; omega), Te_byteAt_ok h (by omega), cb1_s]
    have ih2 : ∀ (is ln lt : Nat → Int32), PcOK T (k + 1) is ln lt → _ := fun is ln lt hO => ih (k + 1) f is ln lt (by omega) (by omega) hO
    by_cases h1 : T (sp T k) = 43
    · rw [if_pos (show cI (T (sp T k)) = 43 by rw [show (43 : Int32) = nI 43 from rfl, cI_eq (by omega)]; exact h1)]
      exact Pi_b42 h hF hk hO _ (Or.inl h1) ih2
    · rw [if_neg (show ¬ cI (T (sp T k)) = 43 by rw [show (43 : Int32) = nI 43 from rfl, cI_eq (by omega)]; exact h1)]
      by_cases h2 : T (sp T k) = 45
      · rw [if_pos (show cI (T (sp T k)) = 45 by rw [show (45 : Int32) = nI 45 from rfl, cI_eq (by omega)]; exact h2)]
        exact Pi_b42 h hF hk hO _ (Or.inr h2) ih2
      · rw [if_neg (show ¬ cI (T (sp T k)) = 45 by rw [show (45 : Int32) = nI 45 from rfl, cI_eq (by omega)]; exact h2), goP, if_neg (by omega)]
        exact sc_bad rfl (by show sp T k < 1000; omega)
def pP (T : Nat → Nat) (n : Nat) : Nat × Nat := if n = 0 then (1000, 0) else goP T n 6 0
theorem fI_m1 {f : Nat} (hf : f = 1000 ∨ f < 100) : (fI f = -1) = (f = 1000) := by
  rcases hf with rfl | hf
  · exact propext ⟨fun _ => rfl, fun _ => rfl⟩
  · rw [fI, if_neg (by omega)]
    exact propext ⟨fun h => absurd h (ne_m1 (by omega)), fun h => by omega⟩
theorem pP_f {T : Nat → Nat} {n : Nat} : (pP T n).1 = 1000 ∨ (pP T n).1 < 100 := by
  unfold pP; split
  · exact Or.inl rfl
  · exact goP_f 6 0 (by omega)
theorem pN_f {T : Nat → Nat} {n : Nat} : (pN T n).1 = 1000 ∨ (pN T n).1 < 100 := by
  unfold pN; split
  · exact Or.inl rfl
  · exact goN_f 10 0 (by omega)
theorem pP_le {T : Nat → Nat} {n : Nat} : (pP T n).2 ≤ 6 := by
  unfold pP; split
  · exact Nat.zero_le _
  · exact goP_N 6 0 (by omega)
theorem pN_le {T : Nat → Nat} {n : Nat} : (pN T n).2 ≤ 10 := by
  unfold pN; split
  · exact Nat.zero_le _
  · exact goN_N 10 0 (by omega)
theorem goN_0 {T : Nat → Nat} {n : Nat} : ∀ (m k : Nat), ¬ (goN T n m k).1 = 1000 → (goN T n m k).2 = 0
  | 0, k, _ => rfl
  | m + 1, k, h => by
    rw [goN] at h ⊢
    split at h
    · rename_i h1
      rw [if_pos h1]
      split at h
      · rename_i h2; rw [if_pos h2]
      · rename_i h2; rw [if_neg h2]
        split at h
        · exact absurd rfl h
        · rename_i h3; rw [if_neg h3]
          split at h
          · rename_i h4; rw [if_pos h4]; exact goN_0 m (k + 1) h
          · rename_i h4; rw [if_neg h4]
    · rename_i h1; rw [if_neg h1]
theorem goP_0 {T : Nat → Nat} {n : Nat} : ∀ (m k : Nat), ¬ (goP T n m k).1 = 1000 → (goP T n m k).2 = 0
  | 0, k, _ => rfl
  | m + 1, k, h => by
    rw [goP] at h ⊢
    split at h
    · rename_i h1
      rw [if_pos h1]
      split at h
      · rename_i h2; rw [if_pos h2]
      · rename_i h2; rw [if_neg h2]
        split at h
        · exact absurd rfl h
        · rename_i h3; rw [if_neg h3]
          split at h
          · rename_i h4; rw [if_pos h4]; exact goP_0 m (k + 1) h
          · rename_i h4; rw [if_neg h4]
    · rename_i h1; rw [if_neg h1]
theorem pN_0 {T : Nat → Nat} {n : Nat} (h : ¬ (pN T n).1 = 1000) : (pN T n).2 = 0 := by
  unfold pN at h ⊢
  split at h
  · exact absurd rfl h
  · rename_i h1; rw [if_neg h1]; exact goN_0 10 0 h
theorem pP_0 {T : Nat → Nat} {n : Nat} (h : ¬ (pP T n).1 = 1000) : (pP T n).2 = 0 := by
  unfold pP at h ⊢
  split at h
  · exact absurd rfl h
  · rename_i h1; rw [if_neg h1]; exact goP_0 6 0 h
theorem cb5_s {A B C D E β : Type} (a : A) (b : B) (c : C) (d : D) (e : E) (k : A → B → C → D → E → Option β) : cb5 (some (a, b, c, d, e)) k = k a b c d e := rfl
theorem Pi_parse_ok {T : Nat → Nat} {n cap : Nat} {b : Nat → Int32} (h : TX T n cap b) {F : Nat} (hF : 100 ≤ F) (sz0 fa0 : Int32) (is ln lt : Nat → Int32) :
    ∃ (is' ln' lt' : Nat → Int32), Pi_parse F cap (nI n) b sz0 fa0 is ln lt = some (nI (pP T n).2, fI (pP T n).1, is', ln', lt') ∧ PcOK T (pP T n).2 is' ln' lt' := by
  have key : ∃ (sz : Int32) (is' ln' lt' : Nat → Int32), Pi_scan F cap (nI n) b 0 is ln lt = some (fI (pP T n).1, sz, is', ln', lt') ∧ ((pP T n).1 = 1000 → sz = nI (pP T n).2 ∧ PcOK T (pP T n).2 is' ln' lt') := by
    unfold Pi_scan Te_size pP
    rw [cb1_s]
    by_cases h0 : n = 0
    · subst h0
      rw [if_pos (show nI 0 = 0 from rfl), if_pos rfl]
      exact ⟨_, _, _, _, rfl, fun _ => ⟨rfl, fun i hi => absurd hi (Nat.not_lt_zero i)⟩⟩
    · have hn := h.1
      have hc := h.2.1
      rw [if_neg (show ¬ nI n = 0 by rw [n0, eqN (by omega) (by omega)]; exact h0), if_neg h0]
      exact Pi_scan_loop h hF 6 0 F is ln lt rfl (by omega) (fun i hi => absurd hi (Nat.not_lt_zero i))
  obtain ⟨sz, is', ln', lt', e1, e2⟩ := key
  unfold Pi_parse
  rw [e1, cb5_s]
  by_cases hf : (pP T n).1 = 1000
  · rw [if_pos (show fI (pP T n).1 = -1 by rw [fI_m1 pP_f]; exact hf), (e2 hf).1]
    exact ⟨_, _, _, rfl, (e2 hf).2⟩
  · rw [if_neg (show ¬ fI (pP T n).1 = -1 by rw [fI_m1 pP_f]; exact hf), pP_0 hf]
    exact ⟨_, _, _, rfl, fun i hi => absurd hi (Nat.not_lt_zero i)⟩
