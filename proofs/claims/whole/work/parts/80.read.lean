/-! sheets: read agrees -/
theorem read_loop_0 (F : Nat) (h0s : Int32) (h0i : Nat → Int32) (h1s : Int32) (h1i : Nat → Int32) (h2s : Int32) (h2i : Nat → Int32) (h3s : Int32) (h3i : Nat → Int32) {forms sizes items : Nat → Int32} (fd x1 : Int32) {m : Nat} (hm : m ≤ 60) (hs : h0s = nI m) (hz : sizes 0 = nI m) (hi : ∀ j, j < m → h0i j = items (60 * 0 + j)) : ∀ (d j f1 f2 : Nat) (g : Nat → Nat) (gl rl : Nat → Int32), j + d = 13 → d < f1 → d < f2 → GuOK j g (nI j) gl → GuOK j g (nI j) rl → ∃ r gs' gl' rgs rgl m' g', ND_read_l39v3 F h0s h0i h1s h1i h2s h2i h3s h3i x1 f1 (nI j) fd (nI j) gl = some (r, fd, gs', gl') ∧ Mo_read_l30 F forms sizes items (nI 0) f2 fd (nI j) rl = some (r, fd, rgs, rgl) ∧ GuOK m' g' gs' gl' ∧ GuOK m' g' rgs rgl := by
  intro d
  induction d with
  | zero => intro j f1 f2 g gl rl hj _ _ h1 _; have := h1.1; omega
  | succ d ih =>
    intro j f1 f2 g gl rl hj hf1 hf2 h1 h2
    obtain ⟨f1, rfl⟩ : ∃ f', f1 = f' + 1 := ⟨f1 - 1, by omega⟩
    obtain ⟨f2, rfl⟩ : ∃ f', f2 = f' + 1 := ⟨f2 - 1, by omega⟩
    show ∃ r gs' gl' rgs rgl m' g', ND_read_b39v3 F h0s h0i h1s h1i h2s h2i h3s h3i x1 (ND_read_l39v3 F h0s h0i h1s h1i h2s h2i h3s h3i x1 f1) (nI j) fd (nI j) gl = some (r, fd, gs', gl') ∧ Mo_read_b30 F forms sizes items (nI 0) (Mo_read_l30 F forms sizes items (nI 0) f2) fd (nI j) rl = some (r, fd, rgs, rgl) ∧ GuOK m' g' gs' gl' ∧ GuOK m' g' rgs rgl
    unfold ND_read_b39v3 Mo_read_b30 ND_read_b68v3 ND_read_b89v3 Mo_read_b113 Sh_size Gu_size
    have h12 := h1.1
    rw [cb1_s, hs, rdN (by omega) (by omega), hz]
    by_cases hjm : m ≤ j
    · rw [if_pos (show nI m ≤ nI j by rw [leN (by omega) (by omega)]; exact hjm), if_pos (show nI m ≤ nI j by rw [leN (by omega) (by omega)]; exact hjm)]
      exact ⟨_, _, _, _, _, _, _, rfl, rfl, h1, h2⟩
    · rw [if_neg (show ¬ nI m ≤ nI j by rw [leN (by omega) (by omega)]; exact hjm), if_neg (show ¬ nI m ≤ nI j by rw [leN (by omega) (by omega)]; exact hjm), Gu_isFull_ok h12, cb1_s]
      by_cases e : j = 12
      · rw [if_neg (show ¬ (if j = 12 then (1 : Int32) else 0) = 0 by rw [if_pos e]; decide), if_pos (show (12 : Int32) ≤ nI j by rw [show (12 : Int32) = nI 12 from rfl, leN (by omega) (by omega)]; omega)]
        exact ⟨_, _, _, _, _, _, _, rfl, rfl, h1, h2⟩
      · rw [if_pos (show (if j = 12 then (1 : Int32) else 0) = 0 from if_neg e), if_neg (show ¬ (12 : Int32) ≤ nI j by rw [show (12 : Int32) = nI 12 from rfl, leN (by omega) (by omega)]; omega), Sh_item_ok hm (by omega), cb1_s, show (60 : Int32) = nI 60 from rfl, mulN, nI_add, rdN (by omega) (by omega), rdN (by omega) (by omega), hi j (by omega)]
        rcases guess_cases (items (60 * 0 + j)) with ⟨c, hc, e1, e2, e3⟩ | ⟨e2, e3⟩
        · rw [e2, e3, cb1_s, if_neg (show ¬ (1 : Int32) = 0 by decide), cb1_s, Gu_append_ok (by omega), cb2_s, cb1_s, if_neg (show ¬ (1 : Int32) = 0 by decide), wrN (by omega) (by omega), show nI j + 1 = nI (j + 1) from nI_1 _, e1, ← hs]
          exact ih (j + 1) f1 f2 _ _ _ (by omega) (by omega) (by omega) (GuOK_push h1 (by omega) hc) (GuOK_push h2 (by omega) hc)
        · rw [e2, e3, cb1_s, if_pos rfl, cb1_s, cb1_s, if_pos rfl]
          exact ⟨_, _, _, _, _, _, _, rfl, rfl, h1, h2⟩
theorem read_loop_1 (F : Nat) (h0s : Int32) (h0i : Nat → Int32) (h1s : Int32) (h1i : Nat → Int32) (h2s : Int32) (h2i : Nat → Int32) (h3s : Int32) (h3i : Nat → Int32) {forms sizes items : Nat → Int32} (fd x1 : Int32) {m : Nat} (hm : m ≤ 60) (hs : h1s = nI m) (hz : sizes 1 = nI m) (hi : ∀ j, j < m → h1i j = items (60 * 1 + j)) : ∀ (d j f1 f2 : Nat) (g : Nat → Nat) (gl rl : Nat → Int32), j + d = 13 → d < f1 → d < f2 → GuOK j g (nI j) gl → GuOK j g (nI j) rl → ∃ r gs' gl' rgs rgl m' g', ND_read_l39v2 F h0s h0i h1s h1i h2s h2i h3s h3i x1 f1 (nI j) fd (nI j) gl = some (r, fd, gs', gl') ∧ Mo_read_l30 F forms sizes items (nI 1) f2 fd (nI j) rl = some (r, fd, rgs, rgl) ∧ GuOK m' g' gs' gl' ∧ GuOK m' g' rgs rgl := by
  intro d
  induction d with
  | zero => intro j f1 f2 g gl rl hj _ _ h1 _; have := h1.1; omega
  | succ d ih =>
    intro j f1 f2 g gl rl hj hf1 hf2 h1 h2
    obtain ⟨f1, rfl⟩ : ∃ f', f1 = f' + 1 := ⟨f1 - 1, by omega⟩
    obtain ⟨f2, rfl⟩ : ∃ f', f2 = f' + 1 := ⟨f2 - 1, by omega⟩
    show ∃ r gs' gl' rgs rgl m' g', ND_read_b39v2 F h0s h0i h1s h1i h2s h2i h3s h3i x1 (ND_read_l39v2 F h0s h0i h1s h1i h2s h2i h3s h3i x1 f1) (nI j) fd (nI j) gl = some (r, fd, gs', gl') ∧ Mo_read_b30 F forms sizes items (nI 1) (Mo_read_l30 F forms sizes items (nI 1) f2) fd (nI j) rl = some (r, fd, rgs, rgl) ∧ GuOK m' g' gs' gl' ∧ GuOK m' g' rgs rgl
    unfold ND_read_b39v2 Mo_read_b30 ND_read_b68v2 ND_read_b89v2 Mo_read_b113 Sh_size Gu_size
    have h12 := h1.1
    rw [cb1_s, hs, rdN (by omega) (by omega), hz]
    by_cases hjm : m ≤ j
    · rw [if_pos (show nI m ≤ nI j by rw [leN (by omega) (by omega)]; exact hjm), if_pos (show nI m ≤ nI j by rw [leN (by omega) (by omega)]; exact hjm)]
      exact ⟨_, _, _, _, _, _, _, rfl, rfl, h1, h2⟩
    · rw [if_neg (show ¬ nI m ≤ nI j by rw [leN (by omega) (by omega)]; exact hjm), if_neg (show ¬ nI m ≤ nI j by rw [leN (by omega) (by omega)]; exact hjm), Gu_isFull_ok h12, cb1_s]
      by_cases e : j = 12
      · rw [if_neg (show ¬ (if j = 12 then (1 : Int32) else 0) = 0 by rw [if_pos e]; decide), if_pos (show (12 : Int32) ≤ nI j by rw [show (12 : Int32) = nI 12 from rfl, leN (by omega) (by omega)]; omega)]
        exact ⟨_, _, _, _, _, _, _, rfl, rfl, h1, h2⟩
      · rw [if_pos (show (if j = 12 then (1 : Int32) else 0) = 0 from if_neg e), if_neg (show ¬ (12 : Int32) ≤ nI j by rw [show (12 : Int32) = nI 12 from rfl, leN (by omega) (by omega)]; omega), Sh_item_ok hm (by omega), cb1_s, show (60 : Int32) = nI 60 from rfl, mulN, nI_add, rdN (by omega) (by omega), rdN (by omega) (by omega), hi j (by omega)]
        rcases guess_cases (items (60 * 1 + j)) with ⟨c, hc, e1, e2, e3⟩ | ⟨e2, e3⟩
        · rw [e2, e3, cb1_s, if_neg (show ¬ (1 : Int32) = 0 by decide), cb1_s, Gu_append_ok (by omega), cb2_s, cb1_s, if_neg (show ¬ (1 : Int32) = 0 by decide), wrN (by omega) (by omega), show nI j + 1 = nI (j + 1) from nI_1 _, e1, ← hs]
          exact ih (j + 1) f1 f2 _ _ _ (by omega) (by omega) (by omega) (GuOK_push h1 (by omega) hc) (GuOK_push h2 (by omega) hc)
        · rw [e2, e3, cb1_s, if_pos rfl, cb1_s, cb1_s, if_pos rfl]
          exact ⟨_, _, _, _, _, _, _, rfl, rfl, h1, h2⟩
theorem read_loop_2 (F : Nat) (h0s : Int32) (h0i : Nat → Int32) (h1s : Int32) (h1i : Nat → Int32) (h2s : Int32) (h2i : Nat → Int32) (h3s : Int32) (h3i : Nat → Int32) {forms sizes items : Nat → Int32} (fd x1 : Int32) {m : Nat} (hm : m ≤ 60) (hs : h2s = nI m) (hz : sizes 2 = nI m) (hi : ∀ j, j < m → h2i j = items (60 * 2 + j)) : ∀ (d j f1 f2 : Nat) (g : Nat → Nat) (gl rl : Nat → Int32), j + d = 13 → d < f1 → d < f2 → GuOK j g (nI j) gl → GuOK j g (nI j) rl → ∃ r gs' gl' rgs rgl m' g', ND_read_l39v1 F h0s h0i h1s h1i h2s h2i h3s h3i x1 f1 (nI j) fd (nI j) gl = some (r, fd, gs', gl') ∧ Mo_read_l30 F forms sizes items (nI 2) f2 fd (nI j) rl = some (r, fd, rgs, rgl) ∧ GuOK m' g' gs' gl' ∧ GuOK m' g' rgs rgl := by
  intro d
  induction d with
  | zero => intro j f1 f2 g gl rl hj _ _ h1 _; have := h1.1; omega
  | succ d ih =>
    intro j f1 f2 g gl rl hj hf1 hf2 h1 h2
    obtain ⟨f1, rfl⟩ : ∃ f', f1 = f' + 1 := ⟨f1 - 1, by omega⟩
    obtain ⟨f2, rfl⟩ : ∃ f', f2 = f' + 1 := ⟨f2 - 1, by omega⟩
    show ∃ r gs' gl' rgs rgl m' g', ND_read_b39v1 F h0s h0i h1s h1i h2s h2i h3s h3i x1 (ND_read_l39v1 F h0s h0i h1s h1i h2s h2i h3s h3i x1 f1) (nI j) fd (nI j) gl = some (r, fd, gs', gl') ∧ Mo_read_b30 F forms sizes items (nI 2) (Mo_read_l30 F forms sizes items (nI 2) f2) fd (nI j) rl = some (r, fd, rgs, rgl) ∧ GuOK m' g' gs' gl' ∧ GuOK m' g' rgs rgl
    unfold ND_read_b39v1 Mo_read_b30 ND_read_b68v1 ND_read_b89v1 Mo_read_b113 Sh_size Gu_size
    have h12 := h1.1
    rw [cb1_s, hs, rdN (by omega) (by omega), hz]
    by_cases hjm : m ≤ j
    · rw [if_pos (show nI m ≤ nI j by rw [leN (by omega) (by omega)]; exact hjm), if_pos (show nI m ≤ nI j by rw [leN (by omega) (by omega)]; exact hjm)]
      exact ⟨_, _, _, _, _, _, _, rfl, rfl, h1, h2⟩
    · rw [if_neg (show ¬ nI m ≤ nI j by rw [leN (by omega) (by omega)]; exact hjm), if_neg (show ¬ nI m ≤ nI j by rw [leN (by omega) (by omega)]; exact hjm), Gu_isFull_ok h12, cb1_s]
      by_cases e : j = 12
      · rw [if_neg (show ¬ (if j = 12 then (1 : Int32) else 0) = 0 by rw [if_pos e]; decide), if_pos (show (12 : Int32) ≤ nI j by rw [show (12 : Int32) = nI 12 from rfl, leN (by omega) (by omega)]; omega)]
        exact ⟨_, _, _, _, _, _, _, rfl, rfl, h1, h2⟩
      · rw [if_pos (show (if j = 12 then (1 : Int32) else 0) = 0 from if_neg e), if_neg (show ¬ (12 : Int32) ≤ nI j by rw [show (12 : Int32) = nI 12 from rfl, leN (by omega) (by omega)]; omega), Sh_item_ok hm (by omega), cb1_s, show (60 : Int32) = nI 60 from rfl, mulN, nI_add, rdN (by omega) (by omega), rdN (by omega) (by omega), hi j (by omega)]
        rcases guess_cases (items (60 * 2 + j)) with ⟨c, hc, e1, e2, e3⟩ | ⟨e2, e3⟩
        · rw [e2, e3, cb1_s, if_neg (show ¬ (1 : Int32) = 0 by decide), cb1_s, Gu_append_ok (by omega), cb2_s, cb1_s, if_neg (show ¬ (1 : Int32) = 0 by decide), wrN (by omega) (by omega), show nI j + 1 = nI (j + 1) from nI_1 _, e1, ← hs]
          exact ih (j + 1) f1 f2 _ _ _ (by omega) (by omega) (by omega) (GuOK_push h1 (by omega) hc) (GuOK_push h2 (by omega) hc)
        · rw [e2, e3, cb1_s, if_pos rfl, cb1_s, cb1_s, if_pos rfl]
          exact ⟨_, _, _, _, _, _, _, rfl, rfl, h1, h2⟩
theorem read_loop_3 (F : Nat) (h0s : Int32) (h0i : Nat → Int32) (h1s : Int32) (h1i : Nat → Int32) (h2s : Int32) (h2i : Nat → Int32) (h3s : Int32) (h3i : Nat → Int32) {forms sizes items : Nat → Int32} (fd x1 : Int32) {m : Nat} (hm : m ≤ 60) (hs : h3s = nI m) (hz : sizes 3 = nI m) (hi : ∀ j, j < m → h3i j = items (60 * 3 + j)) : ∀ (d j f1 f2 : Nat) (g : Nat → Nat) (gl rl : Nat → Int32), j + d = 13 → d < f1 → d < f2 → GuOK j g (nI j) gl → GuOK j g (nI j) rl → ∃ r gs' gl' rgs rgl m' g', ND_read_l39v0 F h0s h0i h1s h1i h2s h2i h3s h3i x1 f1 (nI j) fd (nI j) gl = some (r, fd, gs', gl') ∧ Mo_read_l30 F forms sizes items (nI 3) f2 fd (nI j) rl = some (r, fd, rgs, rgl) ∧ GuOK m' g' gs' gl' ∧ GuOK m' g' rgs rgl := by
  intro d
  induction d with
  | zero => intro j f1 f2 g gl rl hj _ _ h1 _; have := h1.1; omega
  | succ d ih =>
    intro j f1 f2 g gl rl hj hf1 hf2 h1 h2
    obtain ⟨f1, rfl⟩ : ∃ f', f1 = f' + 1 := ⟨f1 - 1, by omega⟩
    obtain ⟨f2, rfl⟩ : ∃ f', f2 = f' + 1 := ⟨f2 - 1, by omega⟩
    show ∃ r gs' gl' rgs rgl m' g', ND_read_b39v0 F h0s h0i h1s h1i h2s h2i h3s h3i x1 (ND_read_l39v0 F h0s h0i h1s h1i h2s h2i h3s h3i x1 f1) (nI j) fd (nI j) gl = some (r, fd, gs', gl') ∧ Mo_read_b30 F forms sizes items (nI 3) (Mo_read_l30 F forms sizes items (nI 3) f2) fd (nI j) rl = some (r, fd, rgs, rgl) ∧ GuOK m' g' gs' gl' ∧ GuOK m' g' rgs rgl
    unfold ND_read_b39v0 Mo_read_b30 ND_read_b68v0 ND_read_b89v0 Mo_read_b113 Sh_size Gu_size
    have h12 := h1.1
    rw [cb1_s, hs, rdN (by omega) (by omega), hz]
    by_cases hjm : m ≤ j
    · rw [if_pos (show nI m ≤ nI j by rw [leN (by omega) (by omega)]; exact hjm), if_pos (show nI m ≤ nI j by rw [leN (by omega) (by omega)]; exact hjm)]
      exact ⟨_, _, _, _, _, _, _, rfl, rfl, h1, h2⟩
    · rw [if_neg (show ¬ nI m ≤ nI j by rw [leN (by omega) (by omega)]; exact hjm), if_neg (show ¬ nI m ≤ nI j by rw [leN (by omega) (by omega)]; exact hjm), Gu_isFull_ok h12, cb1_s]
      by_cases e : j = 12
      · rw [if_neg (show ¬ (if j = 12 then (1 : Int32) else 0) = 0 by rw [if_pos e]; decide), if_pos (show (12 : Int32) ≤ nI j by rw [show (12 : Int32) = nI 12 from rfl, leN (by omega) (by omega)]; omega)]
        exact ⟨_, _, _, _, _, _, _, rfl, rfl, h1, h2⟩
      · rw [if_pos (show (if j = 12 then (1 : Int32) else 0) = 0 from if_neg e), if_neg (show ¬ (12 : Int32) ≤ nI j by rw [show (12 : Int32) = nI 12 from rfl, leN (by omega) (by omega)]; omega), Sh_item_ok hm (by omega), cb1_s, show (60 : Int32) = nI 60 from rfl, mulN, nI_add, rdN (by omega) (by omega), rdN (by omega) (by omega), hi j (by omega)]
        rcases guess_cases (items (60 * 3 + j)) with ⟨c, hc, e1, e2, e3⟩ | ⟨e2, e3⟩
        · rw [e2, e3, cb1_s, if_neg (show ¬ (1 : Int32) = 0 by decide), cb1_s, Gu_append_ok (by omega), cb2_s, cb1_s, if_neg (show ¬ (1 : Int32) = 0 by decide), wrN (by omega) (by omega), show nI j + 1 = nI (j + 1) from nI_1 _, e1, ← hs]
          exact ih (j + 1) f1 f2 _ _ _ (by omega) (by omega) (by omega) (GuOK_push h1 (by omega) hc) (GuOK_push h2 (by omega) hc)
        · rw [e2, e3, cb1_s, if_pos rfl, cb1_s, cb1_s, if_pos rfl]
          exact ⟨_, _, _, _, _, _, _, rfl, rfl, h1, h2⟩
theorem read_ok {F : Nat} (hF : 100 ≤ F) {h0f : Int32} {h0s : Int32} {h0i : (Nat → Int32)} {h1f : Int32} {h1s : Int32} {h1i : (Nat → Int32)} {h2f : Int32} {h2s : Int32} {h2i : (Nat → Int32)} {h3f : Int32} {h3s : Int32} {h3i : (Nat → Int32)} {forms sizes items : Nat → Int32} (h : ShP h0f h0s h0i h1f h1s h1i h2f h2s h2i h3f h3s h3i forms sizes items) {m : Nat} {g : Nat → Nat} {gs : Int32} {gl : Nat → Int32} {rg : Int32} {rl : Nat → Int32} (hC : GuOK m g gs gl) (hR : GuOK m g rg rl) (fd x1 : Int32) : ∃ r fd' gs' gl' rgs rgl m' g', ND_read F h0s h0i h1s h1i h2s h2i h3s h3i fd gs gl x1 = some (r, fd', gs', gl') ∧ Mo_read F forms sizes items fd rg rl x1 = some (r, fd', rgs, rgl) ∧ GuOK m' g' gs' gl' ∧ GuOK m' g' rgs rgl := by
  obtain ⟨p0, p1, p2, p3⟩ := h
  unfold ND_read Mo_read
  rcases sheet_cases x1 with ⟨k, hk, rfl⟩ | ⟨e1, e2⟩
  · rw [(isSheet_k k hk).1, (isSheet_k k hk).2, cb1_s, cb1_s, if_neg (show ¬ (1 : Int32) = 0 by decide), if_neg (show ¬ (1 : Int32) = 0 by decide), rdN hk (by omega)]
    rcases (show k = 0 ∨ k = 1 ∨ k = 2 ∨ k = 3 by omega) with rfl | rfl | rfl | rfl
    · rw [if_pos (show nI 0 = 0 from rfl)]
      rcases p0 with ⟨q1, q2⟩ | ⟨a, m', q1, q2, q3, q4, q5, q6, q7⟩
      · rw [q1, q2, Sh_isLost_m1, cb1_s, if_neg (show ¬ (1 : Int32) = 0 by decide), if_neg (show ¬ (0 : Int32) ≤ -1 by decide)]
        exact ⟨_, _, _, _, _, _, _, _, rfl, rfl, hC, hR⟩
      · obtain ⟨r, gs', gl', rgs, rgl, m2, g2, f1, f2, f3, f4⟩ := read_loop_0 F h0s h0i h1s h1i h2s h2i h3s h3i (forms := forms) fd (nI 0) q2 q4 q6 q7 13 0 F F g gl rl (by omega) (by omega) (by omega) (GuOK_0 hC (by omega)) (GuOK_0 hR (by omega))
        rw [show Sh_isLost h0s = some 0 by rw [q4]; exact Sh_isLost_n q2, q5, cb1_s, if_pos rfl, if_pos (show (0 : Int32) ≤ nI a from nI_pos' (by omega)), show Gu_empty gs = some 0 from rfl, cb1_s]
        exact ⟨_, _, _, _, _, _, _, _, f1, f2, f3, f4⟩
    · rw [if_neg (show ¬ nI 1 = 0 by decide), if_pos (show nI 1 = 1 from rfl)]
      rcases p1 with ⟨q1, q2⟩ | ⟨a, m', q1, q2, q3, q4, q5, q6, q7⟩
      · rw [q1, q2, Sh_isLost_m1, cb1_s, if_neg (show ¬ (1 : Int32) = 0 by decide), if_neg (show ¬ (0 : Int32) ≤ -1 by decide)]
        exact ⟨_, _, _, _, _, _, _, _, rfl, rfl, hC, hR⟩
      · obtain ⟨r, gs', gl', rgs, rgl, m2, g2, f1, f2, f3, f4⟩ := read_loop_1 F h0s h0i h1s h1i h2s h2i h3s h3i (forms := forms) fd (nI 1) q2 q4 q6 q7 13 0 F F g gl rl (by omega) (by omega) (by omega) (GuOK_0 hC (by omega)) (GuOK_0 hR (by omega))
        rw [show Sh_isLost h1s = some 0 by rw [q4]; exact Sh_isLost_n q2, q5, cb1_s, if_pos rfl, if_pos (show (0 : Int32) ≤ nI a from nI_pos' (by omega)), show Gu_empty gs = some 0 from rfl, cb1_s]
        exact ⟨_, _, _, _, _, _, _, _, f1, f2, f3, f4⟩
    · rw [if_neg (show ¬ nI 2 = 0 by decide), if_neg (show ¬ nI 2 = 1 by decide), if_pos (show nI 2 = 2 from rfl)]
      rcases p2 with ⟨q1, q2⟩ | ⟨a, m', q1, q2, q3, q4, q5, q6, q7⟩
      · rw [q1, q2, Sh_isLost_m1, cb1_s, if_neg (show ¬ (1 : Int32) = 0 by decide), if_neg (show ¬ (0 : Int32) ≤ -1 by decide)]
        exact ⟨_, _, _, _, _, _, _, _, rfl, rfl, hC, hR⟩
      · obtain ⟨r, gs', gl', rgs, rgl, m2, g2, f1, f2, f3, f4⟩ := read_loop_2 F h0s h0i h1s h1i h2s h2i h3s h3i (forms := forms) fd (nI 2) q2 q4 q6 q7 13 0 F F g gl rl (by omega) (by omega) (by omega) (GuOK_0 hC (by omega)) (GuOK_0 hR (by omega))
        rw [show Sh_isLost h2s = some 0 by rw [q4]; exact Sh_isLost_n q2, q5, cb1_s, if_pos rfl, if_pos (show (0 : Int32) ≤ nI a from nI_pos' (by omega)), show Gu_empty gs = some 0 from rfl, cb1_s]
        exact ⟨_, _, _, _, _, _, _, _, f1, f2, f3, f4⟩
    · rw [if_neg (show ¬ nI 3 = 0 by decide), if_neg (show ¬ nI 3 = 1 by decide), if_neg (show ¬ nI 3 = 2 by decide), if_pos (show nI 3 = 3 from rfl)]
      rcases p3 with ⟨q1, q2⟩ | ⟨a, m', q1, q2, q3, q4, q5, q6, q7⟩
      · rw [q1, q2, Sh_isLost_m1, cb1_s, if_neg (show ¬ (1 : Int32) = 0 by decide), if_neg (show ¬ (0 : Int32) ≤ -1 by decide)]
        exact ⟨_, _, _, _, _, _, _, _, rfl, rfl, hC, hR⟩
      · obtain ⟨r, gs', gl', rgs, rgl, m2, g2, f1, f2, f3, f4⟩ := read_loop_3 F h0s h0i h1s h1i h2s h2i h3s h3i (forms := forms) fd (nI 3) q2 q4 q6 q7 13 0 F F g gl rl (by omega) (by omega) (by omega) (GuOK_0 hC (by omega)) (GuOK_0 hR (by omega))
        rw [show Sh_isLost h3s = some 0 by rw [q4]; exact Sh_isLost_n q2, q5, cb1_s, if_pos rfl, if_pos (show (0 : Int32) ≤ nI a from nI_pos' (by omega)), show Gu_empty gs = some 0 from rfl, cb1_s]
        exact ⟨_, _, _, _, _, _, _, _, f1, f2, f3, f4⟩
  · rw [e1, e2, cb1_s, cb1_s, if_pos rfl, if_pos rfl]
    exact ⟨_, _, _, _, _, _, _, _, rfl, rfl, hC, hR⟩
