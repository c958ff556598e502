/-! the reference's PIECES; THE SONG of both -/
theorem Mo_piece_loop {T : Nat → Nat} {n cap : Nat} {b bytes typed : Nat → Int32} (h : TX T n cap b) (hM : MT T n 1 bytes typed) (F p k : Nat) (hp : p < 500) (hk : k < 6) (ch lo : Nat → Int32) : ∀ (m i f : Nat) (w : Nat → Int32), i + m = 3 → m < f →
    ∃ w', Mo_readsPiece_l67 F bytes typed f (nI i) (nI (p + i)) (nI k) ch lo w = Mo_readsPiece_b115 F bytes typed (nI (i + run T (p + i) m)) (nI (p + (i + run T (p + i) m))) (nI k) ch lo w' ∧ (∀ j, j < run T (p + i) m → w' (3 * k + i + j) = nI (lc (T (p + i + j)))) ∧ ∀ q, (q < 3 * k + i ∨ 3 * k + 3 ≤ q) → w' q = w q := by
  intro m
  induction m with
  | zero =>
    intro i f w hi hf
    obtain ⟨f, rfl⟩ : ∃ f', f = f' + 1 := ⟨f - 1, by omega⟩
    refine ⟨w, ?_, fun j hj => absurd hj (Nat.not_lt_zero j), fun _ _ => rfl⟩
    show Mo_readsPiece_b67 F bytes typed _ (nI i) (nI (p + i)) (nI k) ch lo w = _
    unfold Mo_readsPiece_b67
    rw [n1, Mo_letter_ok h hM (by omega) (by omega), cb1_s, n3, if_pos (show nI 3 ≤ nI i by rw [leN (by omega) (by omega)]; omega), ite_self]
    rfl
  | succ m ih =>
    intro i f w hi hf
    obtain ⟨f, rfl⟩ : ∃ f', f = f' + 1 := ⟨f - 1, by omega⟩
    have e0 : Mo_readsPiece_l67 F bytes typed (f + 1) (nI i) (nI (p + i)) (nI k) ch lo w = Mo_readsPiece_b67 F bytes typed (Mo_readsPiece_l67 F bytes typed f) (nI i) (nI (p + i)) (nI k) ch lo w := rfl
    rw [e0]
    unfold Mo_readsPiece_b67
    rw [show Mo_letter (nI (p + i)) bytes typed 1 = some (if lc (T (p + i)) < 6 then nI (lc (T (p + i))) else -1) from Mo_letter_ok h hM (by omega) (by omega), cb1_s, cb1_s]
    by_cases hc : lc (T (p + i)) < 6
    · rw [if_pos hc, if_neg (ne_m1 (by omega)), n3, if_neg (show ¬ nI 3 ≤ nI i by rw [leN (by omega) (by omega)]; omega), mulN, nI_add, wrN (by omega) (by omega), n1, nI_add, nI_add]
      obtain ⟨w', h1, h2, h3⟩ := ih (i + 1) f (upd w (3 * k + i) (nI (lc (T (p + i))))) (by omega) (by omega)
      have er : run T (p + i) (m + 1) = 1 + run T (p + (i + 1)) m := by rw [run, if_pos hc]; rfl
      refine ⟨w', ?_, fun j hj => ?_, fun q hq => ?_⟩
      · rw [show p + i + 1 = p + (i + 1) by omega, h1, er, show i + 1 + run T (p + (i + 1)) m = i + (1 + run T (p + (i + 1)) m) by omega]
      · cases j with
        | zero =>
          rw [h3 _ (Or.inl (by omega)), show 3 * k + i + 0 = 3 * k + i by omega, upd_s]; rfl
        | succ j =>
          have := h2 j (by omega)
          rw [show 3 * k + i + (j + 1) = 3 * k + (i + 1) + j by omega, this, show p + (i + 1) + j = p + i + (j + 1) by omega]
      · rw [h3 q (by omega), upd_n (by omega)]
    · rw [if_neg hc, if_pos rfl]
      have er : run T (p + i) (m + 1) = 0 := by rw [run, if_neg hc]
      exact ⟨w, by rw [er]; rfl, fun j hj => absurd hj (by omega), fun _ _ => rfl⟩
theorem Mo_readsPiece_at {T : Nat → Nat} {n cap : Nat} {b bytes typed : Nat → Int32} (h : TX T n cap b) (hM : MT T n 1 bytes typed) (F : Nat) {k : Nat} (hk : k < 6) (hs : T (sp T k) = 43 ∨ T (sp T k) = 45) (ch lo le : Nat → Int32) :
    Mo_readsPiece F bytes typed (nI (sp T k)) (nI k) ch lo le = Mo_readsPiece_l67 F bytes typed F 0 (nI (sp T k + 1)) (nI k) (upd ch k (bI (Ps T k))) lo le := by
  have hsk := sp_le T k
  unfold Mo_readsPiece
  rw [n6, if_neg (show ¬ nI k = nI 6 by rw [eqN (by omega) (by omega)]; omega), show Mo_here (nI (sp T k)) bytes typed 1 = some (cI (T (sp T k))) from Mo_here_ok h hM (by omega) (by omega), cb1_s, cb1_s]
  have key : Mo_readsPiece_b31 F bytes typed (nI (sp T k)) (nI k) ch lo le = Mo_readsPiece_l67 F bytes typed F 0 (nI (sp T k + 1)) (nI k) (upd ch k (bI (Ps T k))) lo le := by
    unfold Mo_readsPiece_b31 Mo_readsPiece_b54
    rw [show Mo_here (nI (sp T k)) bytes typed 1 = some (cI (T (sp T k))) from Mo_here_ok h hM (by omega) (by omega), cb1_s, wrZN (by omega) (by omega), wrZN (by omega) (by omega), show nI (sp T k) + 1 = nI (sp T k + 1) from nI_1 _]
    by_cases hz : T (sp T k) = 43
    · rw [if_pos (show cI (T (sp T k)) = 43 by rw [show (43 : Int32) = nI 43 from rfl, cI_eq (by omega)]; exact hz)]
      have eb : Ps T k = true := by simp [Ps, hz]
      rw [eb]; rfl
    · rw [if_neg (show ¬ cI (T (sp T k)) = 43 by rw [show (43 : Int32) = nI 43 from rfl, cI_eq (by omega)]; exact hz)]
      have eb : Ps T k = false := by simp [Ps, hz]
      rw [eb]; rfl
  rw [key]
  rcases hs with hs | hs
  · rw [if_pos (show cI (T (sp T k)) = 43 by rw [show (43 : Int32) = nI 43 from rfl, cI_eq (by omega)]; exact hs)]
  · rw [if_pos (show cI (T (sp T k)) = 45 by rw [show (45 : Int32) = nI 45 from rfl, cI_eq (by omega)]; exact hs), ite_self]
theorem Mo_pieces_loop {T : Nat → Nat} {n cap : Nat} {b bytes typed : Nat → Int32} (h : TX T n cap b) (hM : MT T n 1 bytes typed) {F : Nat} (hF : 100 ≤ F) : ∀ (m k f : Nat) (ch lo le : Nat → Int32), k + m = 6 → m + 1 < f → PcOK T k ch lo le →
    ∃ (at' : Int32) (ch' lo' le' : Nat → Int32), Mo_readsPieces_l25 F bytes typed f 1 (nI (sp T k)) (nI k) ch lo le = some (fI (goP T n m k).1, at', nI (goP T n m k).2, ch', lo', le') ∧ ((goP T n m k).1 = 1000 → PcOK T (goP T n m k).2 ch' lo' le') := by
  intro m
  induction m with
  | zero =>
    intro k f ch lo le hk hf hO
    obtain ⟨f, rfl⟩ : ∃ f', f = f' + 1 := ⟨f - 1, by omega⟩
    have hs := sp_le T k
    show ∃ (at' : Int32) (ch' lo' le' : Nat → Int32), Mo_readsPieces_b25 F bytes typed _ 1 (nI (sp T k)) (nI k) ch lo le = _ ∧ _
    unfold Mo_readsPieces_b25 Mo_readsPiece
    rw [if_neg (by decide), n6, if_pos (show nI k = nI 6 by rw [show k = 6 by omega]), cb6_s, if_pos rfl]
    unfold Mo_readsPieces_b55 Mo_readsPieces_b56 Mo_readsPieces_b75
    rw [if_pos rfl]
    exact mr_bad rfl (by show sp T k < 1000; omega)
  | succ m ih =>
    intro k f ch lo le hk hf hO
    obtain ⟨f, rfl⟩ : ∃ f', f = f' + 1 := ⟨f - 1, by omega⟩
    have hs := sp_le T k
    have hL := Pl_le T k
    have hn := h.1
    have hcap := h.2.1
    show ∃ (at' : Int32) (ch' lo' le' : Nat → Int32), Mo_readsPieces_b25 F bytes typed (Mo_readsPieces_l25 F bytes typed f) 1 (nI (sp T k)) (nI k) ch lo le = _ ∧ _
    unfold Mo_readsPieces_b25
    rw [if_neg (by decide), goP]
    by_cases h1 : T (sp T k) = 43 ∨ T (sp T k) = 45
    · rw [if_pos h1, Mo_readsPiece_at h hM F (by omega) h1]
      obtain ⟨w', e1, e2, e3⟩ := Mo_piece_loop h hM F (sp T k + 1) k (by omega) (by omega) (upd ch k (bI (Ps T k))) lo 3 0 F le rfl (by omega)
      rw [Nat.add_zero, Nat.zero_add] at e1
      rw [n0, e1]
      unfold Mo_readsPiece_b115
      show ∃ (at' : Int32) (ch' lo' le' : Nat → Int32), cb6 (if nI (Pl T k) = 0 then _ else _) _ = _ ∧ _
      by_cases h3 : Pl T k = 0
      · rw [if_pos (show nI (Pl T k) = 0 by rw [h3]; rfl), cb6_s, if_pos (show (0 : Int32) = nI 0 from rfl), if_pos h3]
        unfold Mo_readsPieces_b55 Mo_readsPieces_b56 Mo_readsPieces_b75
        rw [if_pos rfl]
        have : run T (sp T k + 1) 3 = 0 := h3
        rw [this]
        exact mr_bad rfl (by show sp T k + 1 < 1000; omega)
      · rw [if_neg (show ¬ nI (Pl T k) = 0 by rw [n0, eqN (by omega) (by omega)]; exact h3), if_neg h3, wrN (by omega) (by omega), cb6_s, if_neg (by decide), show rd 3 typed 1 = rd 3 typed (nI 1) from rfl, rdN (by omega) (by omega), hM.1, show nI k + 1 = nI (k + 1) from nI_1 _]
        have hO2 := PcOK_add hO h3 e2 e3
        have er : sp T k + 1 + run T (sp T k + 1) 3 = sp T k + 1 + Pl T k := rfl
        have er2 : nI (run T (sp T k + 1) 3) = nI (Pl T k) := rfl
        rw [er, er2]
        by_cases h4 : n ≤ sp T k + 1 + Pl T k
        · rw [if_pos (show nI n ≤ nI (sp T k + 1 + Pl T k) by rw [leN (by omega) (by omega)]; exact h4)]
          have h5 : sp T k + 1 + Pl T k = n := by
            by_cases e : n < sp T k + 1 + Pl T k
            · exfalso
              have h6 : lc (T (sp T k + 1 + (Pl T k - 1))) < 6 := run_lc T 3 _ _ (by show Pl T k - 1 < Pl T k; omega)
              rw [h.2.2.2 _ (by omega)] at h6
              exact absurd h6 (by decide)
            · omega
          rw [if_pos h5]
          unfold Mo_readsPieces_b55 Mo_readsPieces_b56 Mo_readsPieces_b85 Mo_readsPieces_b99
          rw [if_neg (by decide), if_pos rfl, if_pos rfl]
          obtain ⟨f, rfl⟩ : ∃ f', f = f' + 1 := ⟨f - 1, by omega⟩
          show ∃ (at' : Int32) (ch' lo' le' : Nat → Int32), Mo_readsPieces_b25 F bytes typed _ 0 _ (nI (k + 1)) _ _ _ = _ ∧ _
          unfold Mo_readsPieces_b25
          rw [if_pos rfl]
          exact ⟨_, _, _, _, rfl, fun _ => hO2⟩
        · rw [if_neg (show ¬ nI n ≤ nI (sp T k + 1 + Pl T k) by rw [leN (by omega) (by omega)]; exact h4), if_neg (show ¬ sp T k + 1 + Pl T k = n by omega)]
          unfold Mo_readsPieces_b56
          rw [if_neg (by decide), if_neg (by decide), show Mo_here (nI (sp T k + 1 + Pl T k)) bytes typed 1 = some (cI (T (sp T k + 1 + Pl T k))) from Mo_here_ok h hM (by omega) (by omega), cb1_s]
          by_cases h5 : T (sp T k + 1 + Pl T k) = 59
          · rw [if_pos (show cI (T (sp T k + 1 + Pl T k)) = 59 by rw [show (59 : Int32) = nI 59 from rfl, cI_eq (by omega)]; exact h5), if_pos h5]
            unfold Mo_readsPieces_b85 Mo_readsPieces_b99
            rw [if_neg (by decide), show nI (sp T k + 1 + Pl T k) + 1 = nI (sp T k + 1 + Pl T k + 1) from nI_1 _, ← sp_succ]
            exact ih (k + 1) f _ _ _ (by omega) (by omega) hO2
          · rw [if_neg (show ¬ cI (T (sp T k + 1 + Pl T k)) = 59 by rw [show (59 : Int32) = nI 59 from rfl, cI_eq (by omega)]; exact h5), if_neg h5]
            unfold Mo_readsPieces_b75
            exact mr_bad rfl (by show sp T k + 1 + Pl T k < 1000; omega)
    · rw [if_neg h1]
      unfold Mo_readsPiece
      rw [n6, if_neg (show ¬ nI k = nI 6 by rw [eqN (by omega) (by omega)]; omega), show Mo_here (nI (sp T k)) bytes typed 1 = some (cI (T (sp T k))) from Mo_here_ok h hM (by omega) (by omega), cb1_s, cb1_s, if_neg (show ¬ cI (T (sp T k)) = 43 by rw [show (43 : Int32) = nI 43 from rfl, cI_eq (by omega)]; omega), if_neg (show ¬ cI (T (sp T k)) = 45 by rw [show (45 : Int32) = nI 45 from rfl, cI_eq (by omega)]; omega), cb6_s, if_pos rfl]
      unfold Mo_readsPieces_b55 Mo_readsPieces_b56 Mo_readsPieces_b75
      rw [if_pos rfl]
      exact mr_bad rfl (by show sp T k < 1000; omega)
theorem Mo_pieces_ok {T : Nat → Nat} {n cap : Nat} {b bytes typed : Nat → Int32} (h : TX T n cap b) (hM : MT T n 1 bytes typed) {F : Nat} (hF : 100 ≤ F) (a0 na0 : Int32) (ch lo le : Nat → Int32) :
    ∃ (at' : Int32) (ch' lo' le' : Nat → Int32), Mo_readsPieces F bytes typed a0 na0 ch lo le = some (fI (pP T n).1, at', nI (pP T n).2, ch', lo', le') ∧ PcOK T (pP T n).2 ch' lo' le' := by
  have key : ∃ (at' : Int32) (ch' lo' le' : Nat → Int32), Mo_readsPieces F bytes typed a0 na0 ch lo le = some (fI (pP T n).1, at', nI (pP T n).2, ch', lo', le') ∧ ((pP T n).1 = 1000 → PcOK T (pP T n).2 ch' lo' le') := by
    unfold Mo_readsPieces Mo_readsPieces_b24 pP
    rw [show rd 3 typed 1 = rd 3 typed (nI 1) from rfl, rdN (by omega) (by omega), hM.1]
    have hn := h.1
    have hcap := h.2.1
    by_cases h0 : n = 0
    · subst h0
      rw [if_pos (show nI 0 ≤ 0 by decide), if_pos rfl]
      obtain ⟨f, rfl⟩ : ∃ f', F = f' + 1 := ⟨F - 1, by omega⟩
      show ∃ (at' : Int32) (ch' lo' le' : Nat → Int32), Mo_readsPieces_b25 (f + 1) bytes typed _ 0 0 0 ch lo le = _ ∧ _
      unfold Mo_readsPieces_b25
      rw [if_pos rfl]
      exact ⟨_, _, _, _, rfl, fun _ i hi => absurd hi (Nat.not_lt_zero i)⟩
    · rw [if_neg (show ¬ nI n ≤ 0 by rw [n0, leN (by omega) (by omega)]; omega), if_neg h0]
      exact Mo_pieces_loop h hM hF 6 0 F ch lo le rfl (by omega) (fun i hi => absurd hi (Nat.not_lt_zero i))
  obtain ⟨a, c1, c2, c3, e1, e2⟩ := key
  by_cases hf : (pP T n).1 = 1000
  · exact ⟨a, c1, c2, c3, e1, e2 hf⟩
  · exact ⟨a, c1, c2, c3, e1, by rw [pP_0 hf]; exact fun i hi => absurd hi (Nat.not_lt_zero i)⟩
/-! THE SONG -/
def goS (T : Nat → Nat) (n : Nat) : Nat → Nat → Nat × Nat
  | 0, _ => (1000, n)
  | m + 1, j => if lc (T j) < 6 ∨ T j = 46 then goS T n m (j + 1) else (j, 0)
def pS (T : Nat → Nat) (n : Nat) : Nat × Nat := goS T n n 0
def sI (c : Nat) : Int32 := if lc c < 6 then nI (lc c) else -1
def SgOK (T : Nat → Nat) (k : Nat) (w : Nat → Int32) : Prop := ∀ j, j < k → w j = sI (T j)
theorem goS_f {T : Nat → Nat} {n : Nat} : ∀ (m j : Nat), j + m ≤ 90 → (goS T n m j).1 = 1000 ∨ (goS T n m j).1 < 100
  | 0, j, h => Or.inl rfl
  | m + 1, j, h => by
    rw [goS]; split
    · exact goS_f m (j + 1) (by omega)
    · exact Or.inr (by show j < 100; omega)
theorem goS_N {T : Nat → Nat} {n : Nat} : ∀ (m j : Nat), (goS T n m j).2 ≤ n ∧ (¬ (goS T n m j).1 = 1000 → (goS T n m j).2 = 0)
  | 0, j => ⟨Nat.le_refl _, fun h => absurd rfl h⟩
  | m + 1, j => by
    rw [goS]; split
    · exact goS_N m (j + 1)
    · exact ⟨Nat.zero_le _, fun _ => rfl⟩
theorem So_loop {T : Nat → Nat} {n cap : Nat} {b : Nat → Int32} (h : TX T n cap b) (hn6 : n ≤ 6) (F : Nat) : ∀ (m j f : Nat) (w : Nat → Int32), j + m = n → m < f → SgOK T j w →
    ∃ w', So_parse_l22 F cap (nI n) b f (nI n) (nI j) 0 (-1) w = some (nI (goS T n m j).2, fI (goS T n m j).1, w') ∧ SgOK T (goS T n m j).2 w' := by
  intro m
  induction m with
  | zero =>
    intro j f w hj hf hO
    obtain ⟨f, rfl⟩ : ∃ f', f = f' + 1 := ⟨f - 1, by omega⟩
    show ∃ w', So_parse_b22 F cap (nI n) b _ (nI n) (nI j) 0 (-1) w = _ ∧ _
    unfold So_parse_b22 So_parse_b74
    rw [if_pos (show nI n ≤ nI j by rw [leN (by omega) (by omega)]; omega)]
    exact ⟨w, rfl, by show SgOK T n w; rw [show n = j by omega]; exact hO⟩
  | succ m ih =>
    intro j f w hj hf hO
    obtain ⟨f, rfl⟩ : ∃ f', f = f' + 1 := ⟨f - 1, by omega⟩
    show ∃ w', So_parse_b22 F cap (nI n) b (So_parse_l22 F cap (nI n) b f) (nI n) (nI j) 0 (-1) w = _ ∧ _
    unfold So_parse_b22
    rw [if_neg (show ¬ nI n ≤ nI j by rw [leN (by omega) (by omega)]; omega), Te_byteAt_ok h (by omega), cb1_s, ND_letterOf_ok, cb1_s, wrN (by omega) (by omega), rdN (by omega) (by omega), upd_s, goS]
    have hO2 : SgOK T (j + 1) (upd w j (sI (T j))) := by
      intro q hq
      by_cases e : q = j
      · subst e; rw [upd_s]
      · rw [upd_n e]; exact hO q (by omega)
    have es : (if lc (T j) < 6 then nI (lc (T j)) else -1) = sI (T j) := rfl
    rw [es]
    by_cases hc : lc (T j) < 6
    · rw [if_neg (show ¬ sI (T j) = -1 by rw [sI, if_pos hc]; exact ne_m1 (by omega)), if_pos (Or.inl hc)]
      unfold So_parse_b68
      rw [show nI j + 1 = nI (j + 1) from nI_1 _]
      exact ih (j + 1) f _ (by omega) (by omega) hO2
    · rw [if_pos (show sI (T j) = -1 by rw [sI, if_neg hc])]
      by_cases h5 : T j = 46
      · rw [if_pos (show cI (T j) = 46 by rw [show (46 : Int32) = nI 46 from rfl, cI_eq (by omega)]; exact h5), if_pos (Or.inr h5)]
        unfold So_parse_b68
        rw [show nI j + 1 = nI (j + 1) from nI_1 _]
        exact ih (j + 1) f _ (by omega) (by omega) hO2
      · rw [if_neg (show ¬ cI (T j) = 46 by rw [show (46 : Int32) = nI 46 from rfl, cI_eq (by omega)]; exact h5), if_neg (by omega)]
        unfold So_parse_b62
        exact ⟨_, by rw [fI, if_neg (by show ¬ j = 1000; omega)]; rfl, fun q hq => absurd hq (Nat.not_lt_zero q)⟩
theorem So_parse_ok {T : Nat → Nat} {n cap : Nat} {b : Nat → Int32} (h : TX T n cap b) (hn6 : n ≤ 6) {F : Nat} (hF : 100 ≤ F) (s0 f0 : Int32) (w : Nat → Int32) :
    ∃ w', So_parse F cap (nI n) b s0 f0 w = some (nI (pS T n).2, fI (pS T n).1, w') ∧ SgOK T (pS T n).2 w' := by
  unfold So_parse Te_size
  rw [cb1_s]
  have e : mnI (nI n) 6 = nI n := by
    unfold mnI
    rw [if_neg (show ¬ (6 : Int32) < nI n by rw [n6, ltN (by omega) (by omega)]; omega)]
  rw [e]
  exact So_loop h hn6 F n 0 F w (by omega) (by omega) (fun q hq => absurd hq (Nat.not_lt_zero q))
theorem Mo_song_loop {T : Nat → Nat} {n cap : Nat} {b bytes typed : Nat → Int32} (h : TX T n cap b) (hn6 : n ≤ 6) (hM : MT T n 2 bytes typed) (F : Nat) : ∀ (m j f : Nat) (w : Nat → Int32), j + m = n → m < f → SgOK T j w →
    ∃ (at' : Int32) (w' : Nat → Int32), Mo_readsSong_l10 F bytes typed f (nI j) (nI j) w = some (fI (goS T n m j).1, at', nI (goS T n m j).2, w') ∧ SgOK T (goS T n m j).2 w' := by
  intro m
  induction m with
  | zero =>
    intro j f w hj hf hO
    obtain ⟨f, rfl⟩ : ∃ f', f = f' + 1 := ⟨f - 1, by omega⟩
    show ∃ (at' : Int32) (w' : Nat → Int32), Mo_readsSong_b10 F bytes typed _ (nI j) (nI j) w = _ ∧ _
    unfold Mo_readsSong_b10
    rw [show rd 3 typed 2 = rd 3 typed (nI 2) from rfl, rdN (by omega) (by omega), hM.1, if_pos (show nI n ≤ nI j by rw [leN (by omega) (by omega)]; omega)]
    refine ⟨nI j, w, ?_, by show SgOK T n w; rw [show n = j by omega]; exact hO⟩
    rw [show j = n by omega]; rfl
  | succ m ih =>
    intro j f w hj hf hO
    obtain ⟨f, rfl⟩ : ∃ f', f = f' + 1 := ⟨f - 1, by omega⟩
    show ∃ (at' : Int32) (w' : Nat → Int32), Mo_readsSong_b10 F bytes typed (Mo_readsSong_l10 F bytes typed f) (nI j) (nI j) w = _ ∧ _
    unfold Mo_readsSong_b10
    have eL : Mo_letter (nI j) bytes typed 2 = some (sI (T j)) := Mo_letter_ok h hM (by omega) (by omega)
    rw [show rd 3 typed 2 = rd 3 typed (nI 2) from rfl, rdN (by omega) (by omega), hM.1, if_neg (show ¬ nI n ≤ nI j by rw [leN (by omega) (by omega)]; omega), eL, cb1_s, goS]
    have hO2 : SgOK T (j + 1) (upd w j (sI (T j))) := by
      intro q hq
      by_cases e : q = j
      · subst e; rw [upd_s]
      · rw [upd_n e]; exact hO q (by omega)
    have key : ∃ (at' : Int32) (w' : Nat → Int32), Mo_readsSong_b52 F bytes typed (Mo_readsSong_l10 F bytes typed f) (nI j) (nI j) w = some (fI (goS T n m (j + 1)).1, at', nI (goS T n m (j + 1)).2, w') ∧ SgOK T (goS T n m (j + 1)).2 w' := by
      unfold Mo_readsSong_b52
      rw [eL, cb1_s, wrN (by omega) (by omega), show nI j + 1 = nI (j + 1) from nI_1 _]
      exact ih (j + 1) f _ (by omega) (by omega) hO2
    by_cases hc : lc (T j) < 6
    · rw [if_neg (show ¬ sI (T j) = -1 by rw [sI, if_pos hc]; exact ne_m1 (by omega)), if_pos (Or.inl hc)]
      exact key
    · rw [if_pos (show sI (T j) = -1 by rw [sI, if_neg hc]), show Mo_here (nI j) bytes typed 2 = some (cI (T j)) from Mo_here_ok h hM (by omega) (by omega), cb1_s]
      by_cases h5 : T j = 46
      · rw [if_pos (show cI (T j) = 46 by rw [show (46 : Int32) = nI 46 from rfl, cI_eq (by omega)]; exact h5), if_pos (Or.inr h5)]
        exact key
      · rw [if_neg (show ¬ cI (T j) = 46 by rw [show (46 : Int32) = nI 46 from rfl, cI_eq (by omega)]; exact h5), if_neg (by omega)]
        unfold Mo_readsSong_b42
        exact ⟨nI j, w, by rw [fI, if_neg (by show ¬ j = 1000; omega)]; rfl, fun q hq => absurd hq (Nat.not_lt_zero q)⟩
theorem Mo_song_ok {T : Nat → Nat} {n cap : Nat} {b bytes typed : Nat → Int32} (h : TX T n cap b) (hn6 : n ≤ 6) (hM : MT T n 2 bytes typed) {F : Nat} (hF : 100 ≤ F) (a0 s0 : Int32) (w : Nat → Int32) :
    ∃ (at' : Int32) (w' : Nat → Int32), Mo_readsSong F bytes typed a0 s0 w = some (fI (pS T n).1, at', nI (pS T n).2, w') ∧ SgOK T (pS T n).2 w' :=
  Mo_song_loop h hn6 hM F n 0 F w (by omega) (by omega) (fun q hq => absurd hq (Nat.not_lt_zero q))
