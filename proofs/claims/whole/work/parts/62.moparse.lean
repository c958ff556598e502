/-! the reference's parse of NAMES -/
theorem cb6_s {A B C D E G β : Type} (a : A) (b : B) (c : C) (d : D) (e : E) (g : G) (k : A → B → C → D → E → G → Option β) : cb6 (some (a, b, c, d, e, g)) k = k a b c d e g := rfl
theorem lgc_lt (x y : Int64) : (lg_cmp x y < 0) = (x < y) := by
  unfold lg_cmp
  by_cases h : x > y
  · rw [if_pos h]
    exact propext ⟨fun z => absurd z (by decide), fun z => by
      rw [gt_iff_lt, Int64.lt_iff_toInt_lt] at h; rw [Int64.lt_iff_toInt_lt] at z; omega⟩
  · rw [if_neg h]
    by_cases h2 : x = y
    · rw [if_pos h2]
      exact propext ⟨fun z => absurd z (by decide), fun z => by
        rw [h2, Int64.lt_iff_toInt_lt] at z; omega⟩
    · rw [if_neg h2]
      refine propext ⟨fun _ => ?_, fun _ => by decide⟩
      rw [gt_iff_lt, Int64.lt_iff_toInt_lt] at h
      rw [Int64.lt_iff_toInt_lt]
      have : x.toInt ≠ y.toInt := fun e => h2 (Int64.toInt_inj.mp e)
      omega
theorem lgc_gt (x y : Int64) : (0 < lg_cmp x y) = (y < x) := by
  unfold lg_cmp
  by_cases h : x > y
  · rw [if_pos h]
    exact propext ⟨fun _ => h, fun _ => by decide⟩
  · rw [if_neg h]
    by_cases h2 : x = y
    · rw [if_pos h2]
      exact propext ⟨fun z => absurd z (by decide), fun z => absurd z h⟩
    · rw [if_neg h2]
      exact propext ⟨fun z => absurd z (by decide), fun z => absurd z h⟩
theorem Mo_in_ok (x y z : Int64) : Mo_in x y z = some (if y.toInt ≤ x.toInt ∧ x.toInt ≤ z.toInt then 1 else 0) := by
  unfold Mo_in
  by_cases h1 : x < y
  · rw [if_pos (show lg_cmp x y < 0 by rw [lgc_lt]; exact h1)]
    rw [Int64.lt_iff_toInt_lt] at h1
    rw [if_neg (by omega)]
  · rw [if_neg (show ¬ lg_cmp x y < 0 by rw [lgc_lt]; exact h1)]
    rw [Int64.lt_iff_toInt_lt] at h1
    by_cases h2 : z < x
    · rw [if_pos (show 0 < lg_cmp x z by rw [lgc_gt]; exact h2)]
      rw [Int64.lt_iff_toInt_lt] at h2
      rw [if_neg (by omega)]
    · rw [if_neg (show ¬ 0 < lg_cmp x z by rw [lgc_gt]; exact h2)]
      rw [Int64.lt_iff_toInt_lt] at h2
      rw [if_pos (by omega)]
/-- the text k of the reference -/
def MT (T : Nat → Nat) (n k : Nat) (bytes typed : Nat → Int32) : Prop := typed k = nI n ∧ ∀ j, j < n → bytes (80 * k + j) = nI (T j)
theorem Mo_here_ok {T : Nat → Nat} {n cap : Nat} {b bytes typed : Nat → Int32} {k : Nat} (h : TX T n cap b) (hM : MT T n k bytes typed) (hk : k < 3) {p : Nat} (hp : p < 1000) : Mo_here (nI p) bytes typed (nI k) = some (cI (T p)) := by
  obtain ⟨h1, h2, h3, h4⟩ := h
  unfold Mo_here cI
  rw [rdN (by omega) (by omega), hM.1]
  by_cases hl : p < n
  · rw [if_neg (show ¬ nI n ≤ nI p by rw [leN (by omega) (by omega)]; omega), show (80 : Int32) = nI 80 from rfl, mulN, nI_add, rdN (by omega) (by omega), hM.2 p hl, if_pos (h3 p hl).1]
  · rw [if_pos (show nI n ≤ nI p by rw [leN (by omega) (by omega)]; omega), h4 p (by omega), if_neg (by omega)]
theorem m1_toInt : (-1 : Int32).toInt = -1 := by decide
theorem cI_sub {c a : Nat} (ha : a < 256) : (Int32.toInt64 (cI c - nI a)).toInt = (if c < 256 then (c : Int) else -1) - a := by
  rw [Int32.toInt_toInt64]
  unfold cI
  by_cases hc : c < 256
  · rw [if_pos hc, if_pos hc, pk_sub_toInt (by omega) (by omega)]
  · rw [if_neg hc, if_neg hc, show (-1 : Int32) - nI a = -1 + (0 - nI a) by simp [Int32.sub_eq_add_neg], show (0 : Int32) = nI 0 from rfl]
    have e : (nI 0 - nI a).toInt = -(a : Int) := by rw [pk_sub_toInt (by omega) (by omega)]; omega
    rw [Int32.toInt_add, e, m1_toInt, Int.bmod_eq_of_le] <;> omega
theorem Mo_letter_ok {T : Nat → Nat} {n cap : Nat} {b bytes typed : Nat → Int32} {k : Nat} (h : TX T n cap b) (hM : MT T n k bytes typed) (hk : k < 3) {p : Nat} (hp : p < 1000) : Mo_letter (nI p) bytes typed (nI k) = some (if lc (T p) < 6 then nI (lc (T p)) else -1) := by
  unfold Mo_letter
  rw [Mo_here_ok h hM hk hp, cb1_s, Mo_in_ok, cb1_s, show (97 : Int32) = nI 97 from rfl, cI_sub (by omega), show (0 : Int64).toInt = 0 from rfl, show (5 : Int64).toInt = 5 from rfl]
  unfold lc
  by_cases h1 : 97 ≤ T p ∧ T p ≤ 102
  · rw [if_pos (show (0 : Int) ≤ (if T p < 256 then (T p : Int) else -1) - (97 : Nat) ∧ (if T p < 256 then (T p : Int) else -1) - (97 : Nat) ≤ 5 by rw [if_pos (by omega)]; omega), if_neg (by decide), if_pos h1, if_pos (by omega)]
    rw [show cI (T p) = nI (T p) from if_pos (by omega), subN (by omega)]
  · rw [if_neg (show ¬ ((0 : Int) ≤ (if T p < 256 then (T p : Int) else -1) - (97 : Nat) ∧ (if T p < 256 then (T p : Int) else -1) - (97 : Nat) ≤ 5) by split <;> omega), if_pos rfl, if_neg h1, if_neg (by omega)]
theorem Mo_name_loop {T : Nat → Nat} {n cap : Nat} {b bytes typed : Nat → Int32} (h : TX T n cap b) (hM : MT T n 0 bytes typed) (F p k : Nat) (hp : p < 500) (hk : k < 10) (x1 : Int32) (ch lo : Nat → Int32) : ∀ (m i f : Nat) (w : Nat → Int32), i + m = 6 → m < f →
    ∃ w', Mo_readsName_l44 F bytes typed f x1 (nI i) (nI (p + i)) (nI k) ch lo w = Mo_readsName_b94 F bytes typed x1 (nI (i + run T (p + i) m)) (nI (p + (i + run T (p + i) m))) (nI k) ch lo w' ∧ (∀ j, j < run T (p + i) m → w' (6 * k + i + j) = nI (lc (T (p + i + j)))) ∧ ∀ q, (q < 6 * k + i ∨ 6 * k + 6 ≤ q) → w' q = w q := by
  intro m
  induction m with
  | zero =>
    intro i f w hi hf
    obtain ⟨f, rfl⟩ : ∃ f', f = f' + 1 := ⟨f - 1, by omega⟩
    refine ⟨w, ?_, fun j hj => absurd hj (Nat.not_lt_zero j), fun _ _ => rfl⟩
    show Mo_readsName_b44 F bytes typed _ x1 (nI i) (nI (p + i)) (nI k) ch lo w = _
    unfold Mo_readsName_b44
    rw [n0, Mo_letter_ok h hM (by omega) (by omega), cb1_s, n6, if_pos (show nI 6 ≤ nI i by rw [leN (by omega) (by omega)]; omega), ite_self]
    rfl
  | succ m ih =>
    intro i f w hi hf
    obtain ⟨f, rfl⟩ : ∃ f', f = f' + 1 := ⟨f - 1, by omega⟩
    have e0 : Mo_readsName_l44 F bytes typed (f + 1) x1 (nI i) (nI (p + i)) (nI k) ch lo w = Mo_readsName_b44 F bytes typed (Mo_readsName_l44 F bytes typed f) x1 (nI i) (nI (p + i)) (nI k) ch lo w := rfl
    rw [e0]
    unfold Mo_readsName_b44
    rw [n0, Mo_letter_ok h hM (by omega) (by omega), cb1_s, cb1_s]
    by_cases hc : lc (T (p + i)) < 6
    · rw [if_pos hc, if_neg (ne_m1 (by omega)), n6, if_neg (show ¬ nI 6 ≤ nI i by rw [leN (by omega) (by omega)]; omega), mulN, nI_add, wrN (by omega) (by omega), n1, nI_add, nI_add]
      obtain ⟨w', h1, h2, h3⟩ := ih (i + 1) f (upd w (6 * k + i) (nI (lc (T (p + i))))) (by omega) (by omega)
      have er : run T (p + i) (m + 1) = 1 + run T (p + (i + 1)) m := by rw [run, if_pos hc]; rfl
      refine ⟨w', ?_, fun j hj => ?_, fun q hq => ?_⟩
      · rw [show p + i + 1 = p + (i + 1) by omega, h1, er, show i + 1 + run T (p + (i + 1)) m = i + (1 + run T (p + (i + 1)) m) by omega]
      · cases j with
        | zero =>
          rw [h3 _ (Or.inl (by omega)), show 6 * k + i + 0 = 6 * k + i by omega, upd_s]; rfl
        | succ j =>
          have := h2 j (by omega)
          rw [show 6 * k + i + (j + 1) = 6 * k + (i + 1) + j by omega, this, show p + (i + 1) + j = p + i + (j + 1) by omega]
      · rw [h3 q (by omega), upd_n (by omega)]
    · rw [if_neg hc, if_pos rfl]
      have er : run T (p + i) (m + 1) = 0 := by rw [run, if_neg hc]
      exact ⟨w, by rw [er]; rfl, fun j hj => absurd hj (by omega), fun _ _ => rfl⟩
theorem mr_bad {α β γ : Type} {p : Nat} {X : Option (Int32 × Int32 × Int32 × α × β × γ)} {at' N : Int32} {a : α} {b : β} {c : γ} {P : α → β → γ → Prop} (hX : X = some (nI p, at', N, a, b, c)) (hp : p < 1000) : ∃ (at2 : Int32) (a' : α) (b' : β) (c' : γ), X = some (fI p, at2, N, a', b', c') ∧ (p = 1000 → P a' b' c') :=
  ⟨at', a, b, c, by rw [hX, fI, if_neg (by omega)], fun e => absurd e (by omega)⟩
theorem Mo_names_loop {T : Nat → Nat} {n cap : Nat} {b bytes typed : Nat → Int32} (h : TX T n cap b) (hM : MT T n 0 bytes typed) {F : Nat} (hF : 100 ≤ F) : ∀ (m k f : Nat) (ch lo le : Nat → Int32), k + m = 10 → m + 1 < f → NmOK T k ch lo le →
    ∃ (at' : Int32) (ch' lo' le' : Nat → Int32), Mo_readsNames_l25 F bytes typed f 1 (nI (st T k)) (nI k) ch lo le = some (fI (goN T n m k).1, at', nI (goN T n m k).2, ch', lo', le') ∧ ((goN T n m k).1 = 1000 → NmOK T (goN T n m k).2 ch' lo' le') := by
  intro m
  induction m with
  | zero =>
    intro k f ch lo le hk hf hO
    obtain ⟨f, rfl⟩ : ∃ f', f = f' + 1 := ⟨f - 1, by omega⟩
    have hs := st_le T k
    show ∃ (at' : Int32) (ch' lo' le' : Nat → Int32), Mo_readsNames_b25 F bytes typed _ 1 (nI (st T k)) (nI k) ch lo le = _ ∧ _
    unfold Mo_readsNames_b25 Mo_readsName
    rw [if_neg (by decide), n0, Mo_here_ok h hM (by omega) (by omega), cb1_s, n10, if_pos (show nI k = nI 10 by rw [show k = 10 by omega]), cb6_s, if_pos rfl]
    unfold Mo_readsNames_b55 Mo_readsNames_b56 Mo_readsNames_b75
    rw [if_pos rfl]
    exact mr_bad rfl (by show st T k < 1000; omega)
  | succ m ih =>
    intro k f ch lo le hk hf hO
    obtain ⟨f, rfl⟩ : ∃ f', f = f' + 1 := ⟨f - 1, by omega⟩
    have hs := st_le T k
    have hL := Ln_le T k
    have hn := h.1
    have hcap := h.2.1
    show ∃ (at' : Int32) (ch' lo' le' : Nat → Int32), Mo_readsNames_b25 F bytes typed (Mo_readsNames_l25 F bytes typed f) 1 (nI (st T k)) (nI k) ch lo le = _ ∧ _
    unfold Mo_readsNames_b25 Mo_readsName
    rw [if_neg (by decide), n0, Mo_here_ok h hM (by omega) (by omega), cb1_s, n10, if_neg (show ¬ nI k = nI 10 by rw [eqN (by omega) (by omega)]; omega), Mo_in_ok, cb1_s, show (48 : Int32) = nI 48 from rfl, cI_sub (by omega), show (1 : Int64).toInt = 1 from rfl, show (9 : Int64).toInt = 9 from rfl, goN]
    by_cases h1 : 49 ≤ T (st T k) ∧ T (st T k) ≤ 57
    · rw [if_pos (show (1 : Int) ≤ (if T (st T k) < 256 then (T (st T k) : Int) else -1) - (48 : Nat) ∧ (if T (st T k) < 256 then (T (st T k) : Int) else -1) - (48 : Nat) ≤ 9 by rw [if_pos (by omega)]; omega), if_neg (by decide), if_pos h1]
      obtain ⟨w', e1, e2, e3⟩ := Mo_name_loop h hM F (st T k + 1) k (by omega) (by omega) (cI (T (st T k)) - nI 48) ch lo 6 0 F le rfl (by omega)
      rw [Nat.add_zero, Nat.zero_add] at e1
      rw [n1, nI_add, e1]
      unfold Mo_readsName_b94
      show ∃ (at' : Int32) (ch' lo' le' : Nat → Int32), cb6 (if nI (Ln T k) = 0 then _ else _) _ = _ ∧ _
      by_cases h3 : Ln T k = 0
      · rw [if_pos (show nI (Ln T k) = 0 by rw [h3]; rfl), cb6_s, if_pos (show (0 : Int32) = nI 0 from rfl), if_pos h3]
        unfold Mo_readsNames_b55 Mo_readsNames_b56 Mo_readsNames_b75
        rw [if_pos rfl]
        have : run T (st T k + 1) 6 = 0 := h3
        rw [this]
        exact mr_bad rfl (by show st T k + 1 < 1000; omega)
      · rw [if_neg (show ¬ nI (Ln T k) = 0 by rw [n0, eqN (by omega) (by omega)]; exact h3), if_neg h3, wrN (by omega) (by omega), wrN (by omega) (by omega), cb6_s, if_neg (by decide), rdN (by omega) (by omega), hM.1, n1, nI_add]
        have ec : cI (T (st T k)) - nI 48 = nI (T (st T k) - 48) := by rw [show cI (T (st T k)) = nI (T (st T k)) from if_pos (by omega), subN (by omega)]
        have hO2 : NmOK T (k + 1) (upd ch k (cI (T (st T k)) - nI 48)) (upd lo k (nI (run T (st T k + 1) 6))) w' := by
          intro i hi
          by_cases hik : i = k
          · subst hik
            refine ⟨by omega, by omega, by rw [upd_s, ec]; rfl, by rw [upd_s]; rfl, fun j hj => ?_⟩
            exact e2 j hj
          · obtain ⟨g1, g2, g3, g4, g5⟩ := hO i (by omega)
            refine ⟨g1, g2, by rw [upd_n hik]; exact g3, by rw [upd_n hik]; exact g4, fun j hj => ?_⟩
            have hLi := Ln_le T i
            rw [e3 _ (Or.inl (by omega))]; exact g5 j hj
        have er : st T k + 1 + run T (st T k + 1) 6 = st T k + 1 + Ln T k := rfl
        rw [er]
        by_cases h4 : n ≤ st T k + 1 + Ln T k
        · -- the text ends here, or is behind its end
          rw [if_pos (show nI n ≤ nI (st T k + 1 + Ln T k) by rw [leN (by omega) (by omega)]; exact h4)]
          have h5 : st T k + 1 + Ln T k = n := by
            by_cases e : n < st T k + 1 + Ln T k
            · exfalso
              have h6 : lc (T (st T k + 1 + (Ln T k - 1))) < 6 := run_lc T 6 _ _ (by show Ln T k - 1 < Ln T k; omega)
              rw [h.2.2.2 _ (by omega)] at h6
              exact absurd h6 (by decide)
            · omega
          rw [if_pos h5]
          unfold Mo_readsNames_b55 Mo_readsNames_b56 Mo_readsNames_b85 Mo_readsNames_b99
          rw [if_neg (by decide), if_pos rfl, if_pos rfl]
          obtain ⟨f, rfl⟩ : ∃ f', f = f' + 1 := ⟨f - 1, by omega⟩
          show ∃ (at' : Int32) (ch' lo' le' : Nat → Int32), Mo_readsNames_b25 F bytes typed _ 0 _ (nI (k + 1)) _ _ _ = _ ∧ _
          unfold Mo_readsNames_b25
          rw [if_pos rfl]
          exact ⟨_, _, _, _, rfl, fun _ => hO2⟩
        · rw [if_neg (show ¬ nI n ≤ nI (st T k + 1 + Ln T k) by rw [leN (by omega) (by omega)]; exact h4), if_neg (show ¬ st T k + 1 + Ln T k = n by omega)]
          unfold Mo_readsNames_b56
          rw [if_neg (by decide), if_neg (by decide), n0, Mo_here_ok h hM (by omega) (by omega), cb1_s]
          by_cases h5 : T (st T k + 1 + Ln T k) = 59
          · rw [if_pos (show cI (T (st T k + 1 + Ln T k)) = 59 by rw [show (59 : Int32) = nI 59 from rfl, cI_eq (by omega)]; exact h5), if_pos h5]
            unfold Mo_readsNames_b85 Mo_readsNames_b99
            rw [if_neg (by decide), show nI (st T k + 1 + Ln T k) + 1 = nI (st T k + 1 + Ln T k + 1) from nI_1 _, ← st_succ]
            exact ih (k + 1) f _ _ _ (by omega) (by omega) hO2
          · rw [if_neg (show ¬ cI (T (st T k + 1 + Ln T k)) = 59 by rw [show (59 : Int32) = nI 59 from rfl, cI_eq (by omega)]; exact h5), if_neg h5]
            unfold Mo_readsNames_b75
            exact mr_bad rfl (by show st T k + 1 + Ln T k < 1000; omega)
    · rw [if_neg (show ¬ ((1 : Int) ≤ (if T (st T k) < 256 then (T (st T k) : Int) else -1) - (48 : Nat) ∧ (if T (st T k) < 256 then (T (st T k) : Int) else -1) - (48 : Nat) ≤ 9) by split <;> omega), if_pos (show (0 : Int32) = nI 0 from rfl), if_neg h1, cb6_s, if_pos rfl]
      unfold Mo_readsNames_b55 Mo_readsNames_b56 Mo_readsNames_b75
      rw [if_pos (show nI 0 = (0 : Int32) from rfl)]
      exact mr_bad rfl (by show st T k < 1000; omega)
theorem Mo_names_ok {T : Nat → Nat} {n cap : Nat} {b bytes typed : Nat → Int32} (h : TX T n cap b) (hM : MT T n 0 bytes typed) {F : Nat} (hF : 100 ≤ F) (a0 na0 : Int32) (ch lo le : Nat → Int32) :
    ∃ (at' : Int32) (ch' lo' le' : Nat → Int32), Mo_readsNames F bytes typed a0 na0 ch lo le = some (fI (pN T n).1, at', nI (pN T n).2, ch', lo', le') ∧ ((pN T n).1 = 1000 → NmOK T (pN T n).2 ch' lo' le') := by
  unfold Mo_readsNames Mo_readsNames_b24 pN
  rw [n0, rdN (by omega) (by omega), hM.1]
  have hn := h.1
  have hcap := h.2.1
  by_cases h0 : n = 0
  · subst h0
    rw [if_pos (show nI 0 ≤ nI 0 by decide), if_pos rfl]
    obtain ⟨f, rfl⟩ : ∃ f', F = f' + 1 := ⟨F - 1, by omega⟩
    show ∃ (at' : Int32) (ch' lo' le' : Nat → Int32), Mo_readsNames_b25 (f + 1) bytes typed _ (nI 0) (nI 0) (nI 0) ch lo le = _ ∧ _
    unfold Mo_readsNames_b25
    rw [if_pos (show nI 0 = (0 : Int32) from rfl)]
    exact ⟨_, _, _, _, rfl, fun _ i hi => absurd hi (Nat.not_lt_zero i)⟩
  · rw [if_neg (show ¬ nI n ≤ nI 0 by rw [leN (by omega) (by omega)]; omega), if_neg h0]
    exact Mo_names_loop h hM hF 10 0 F ch lo le rfl (by omega) (fun i hi => absurd hi (Nat.not_lt_zero i))
