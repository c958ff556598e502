/-! sheets: lay, get -/
theorem sum64 {a b m : Nat} (ha : a < 2147483648) (hb : b < 2147483648) (hm : m < 2147483648) : (0 < lg_cmp (Int32.toInt64 (nI a) + Int32.toInt64 (nI b)) (Int32.toInt64 (nI m))) = (m < a + b) := by
  rw [lgc_gt, nI_l ha, nI_l hb, nI_l hm, lN_add, Int64.lt_iff_toInt_lt, lN_toInt hm, show (lN (a + b)).toInt = ((a + b : Nat) : Int) from lg_ofNat_toInt (by omega)]
  exact propext (by omega)
theorem Sh_holds_cases {m : Nat} (hm : m ≤ 60) (x y : Int32) : (∃ j c, x = nI j ∧ y = nI c ∧ j + c ≤ m ∧ Sh_holds (nI m) x y = some 1) ∨ (Sh_holds (nI m) x y = some 0 ∧ (x < 0 ∨ y < 0 ∨ ∃ j c, j < 2147483648 ∧ c < 2147483648 ∧ x = nI j ∧ y = nI c ∧ m < j + c)) := by
  unfold Sh_holds
  by_cases h1 : x < 0
  · exact Or.inr ⟨if_pos h1, Or.inl h1⟩
  · by_cases h2 : y < 0
    · exact Or.inr ⟨by rw [if_neg h1, if_pos h2], Or.inr (Or.inl h2)⟩
    · obtain ⟨j, hj, rfl⟩ := nI_of h1
      obtain ⟨c, hc, rfl⟩ := nI_of h2
      rw [if_neg h1, if_neg h2]
      by_cases h3 : m < j + c
      · exact Or.inr ⟨by rw [if_pos (by rw [sum64 hj hc (by omega)]; exact h3)], Or.inr (Or.inr ⟨j, c, hj, hc, rfl, rfl, h3⟩)⟩
      · exact Or.inl ⟨j, c, rfl, rfl, by omega, by rw [if_neg (by rw [sum64 hj hc (by omega)]; exact h3)]⟩
def look1 (f s fd x2 x3 : Int32) : Option (Int32 × Int32) := cb1 (Sh_isLost s) (fun v23 => (if (v23 : Int32) = 0 then cb1 (Sh_form f) (fun v41 => (if (v41 : Int32) = x2 then cb1 (Sh_holds s x3 1) (fun v62 => (if (v62 : Int32) = 0 then cb2 (ND_found fd 2) (fun v74 fd_74 => some (v74, fd_74)) else some (1, fd))) else cb2 (ND_found fd 3) (fun v50 fd_50 => some (v50, fd_50)))) else cb2 (ND_found fd 1) (fun v31 fd_31 => some (v31, fd_31))))
theorem look1_ok {forms sizes items : Nat → Int32} {k : Nat} (hk : k < 4) {f s : Int32} {i : Nat → Int32} (h : SP forms sizes items k f s i) (fd x2 x3 : Int32) : (look1 f s fd x2 x3 = some (1, fd) ∧ Mo_lacks forms sizes fd (nI k) x2 x3 = some (0, fd) ∧ ∃ a m j, a ≤ 2 ∧ m ≤ 60 ∧ f = nI a ∧ s = nI m ∧ forms k = nI a ∧ sizes k = nI m ∧ (∀ j, j < m → i j = items (60 * k + j)) ∧ x2 = nI a ∧ x3 = nI j ∧ j < m) ∨ (∃ r fd', ¬ r = 1 ∧ ¬ r = 0 ∧ look1 f s fd x2 x3 = some (r, fd') ∧ Mo_lacks forms sizes fd (nI k) x2 x3 = some (r, fd')) := by
  unfold look1 Mo_lacks Sh_form
  rw [rdN hk (by omega), rdN hk (by omega), rdN hk (by omega)]
  rcases h with ⟨q1, q2⟩ | ⟨a, m, q1, q2, q3, q4, q5, q6, q7⟩
  · rw [q1, q2, Sh_isLost_m1, cb1_s, if_neg (show ¬ (1 : Int32) = 0 by decide), if_neg (show ¬ (0 : Int32) ≤ -1 by decide)]
    exact Or.inr ⟨_, _, (by decide : ¬ ((-10 : Int32) - 1) = 1), (by decide : ¬ ((-10 : Int32) - 1) = 0), rfl, rfl⟩
  · rw [q3, q4, q5, q6, Sh_isLost_n q2, cb1_s, if_pos rfl, if_pos (show (0 : Int32) ≤ nI a from nI_pos' (by omega)), cb1_s]
    by_cases e : nI a = x2
    · rw [if_pos e, if_pos e]
      rcases Sh_holds_cases q2 x3 1 with ⟨j, c, e1, e2, e3, e4⟩ | ⟨e4, e5⟩
      · have hc : c = 1 ∨ c ≠ 1 := by omega
        have hc1 : c = 1 := by
          have : nI 1 = nI c := e2
          rw [eqN (by omega) (by omega)] at this; omega
        have hin : Mo_in (Int32.toInt64 x3) 0 (Int32.toInt64 (nI m - 1)) = some 1 := by
          obtain ⟨p, rfl⟩ : ∃ p, m = p + 1 := ⟨m - 1, by omega⟩
          rw [nI_pred]
          rcases in_cases x3 0 p (by omega) (by omega) with ⟨_, _, _, _, h⟩ | ⟨h, _⟩
          · exact h
          · rw [e1, ltN (by omega) (by omega), ltN (by omega) (by omega)] at h; omega
        rw [e4, cb1_s, if_neg (show ¬ (1 : Int32) = 0 by decide), hin, cb1_s, if_neg (show ¬ (1 : Int32) = 0 by decide)]
        exact Or.inl ⟨rfl, rfl, a, m, j, q1, q2, rfl, rfl, rfl, rfl, q7, e.symm, e1, by omega⟩
      · have hin : Mo_in (Int32.toInt64 x3) 0 (Int32.toInt64 (nI m - 1)) = some 0 := by
          rw [Mo_in_ok, i0, Int32.toInt_toInt64, Int32.toInt_toInt64, show (1 : Int32) = nI 1 from rfl, pk_sub_toInt (by omega) (by omega)]
          rw [if_neg (fun hc => ?_)]
          rcases e5 with h | h | ⟨j, c, hj, hc', rfl, h2, h3⟩
          · rw [neg_toInt] at h; omega
          · exact absurd h (by decide)
          · rw [nI_toInt hj] at hc
            have : nI 1 = nI c := h2
            rw [eqN (by omega) hc'] at this; omega
        rw [e4, cb1_s, if_pos rfl, hin, cb1_s, if_pos rfl]
        exact Or.inr ⟨_, _, (by decide : ¬ ((-10 : Int32) - 2) = 1), (by decide : ¬ ((-10 : Int32) - 2) = 0), rfl, rfl⟩
    · rw [if_neg e, if_neg e]
      exact Or.inr ⟨_, _, (by decide : ¬ ((-10 : Int32) - 3) = 1), (by decide : ¬ ((-10 : Int32) - 3) = 0), rfl, rfl⟩
theorem lookFor_bad (h0f : Int32) (h0s : Int32) (h0i : (Nat → Int32)) (h1f : Int32) (h1s : Int32) (h1i : (Nat → Int32)) (h2f : Int32) (h2s : Int32) (h2i : (Nat → Int32)) (h3f : Int32) (h3s : Int32) (h3i : (Nat → Int32)) (fd x1 x2 x3 : Int32) (h : ND_isSheet x1 = some 0 ∨ (ND_isSheet x1 = some 1 ∧ ND_isForm x2 = some 0)) : ND_lookFor h0f h0s h1f h1s h2f h2s h3f h3s fd x1 x2 x3 = some (-2, fd) := by
  unfold ND_lookFor
  rcases h with h | ⟨h, h2⟩
  · rw [h, cb1_s, if_pos rfl]
  · rw [h, cb1_s, if_neg (show ¬ (1 : Int32) = 0 by decide), h2, cb1_s, if_pos rfl]
theorem lookFor_0 (h0f : Int32) (h0s : Int32) (h0i : (Nat → Int32)) (h1f : Int32) (h1s : Int32) (h1i : (Nat → Int32)) (h2f : Int32) (h2s : Int32) (h2i : (Nat → Int32)) (h3f : Int32) (h3s : Int32) (h3i : (Nat → Int32)) (fd x2 x3 : Int32) (h : ND_isForm x2 = some 1) : ND_lookFor h0f h0s h1f h1s h2f h2s h3f h3s fd (nI 0) x2 x3 = look1 h0f h0s fd x2 x3 := by
  unfold ND_lookFor
  rw [(isSheet_k 0 (by omega)).1, cb1_s, if_neg (show ¬ (1 : Int32) = 0 by decide), h, cb1_s, if_neg (show ¬ (1 : Int32) = 0 by decide)]
  rw [if_pos (show nI 0 = 0 from rfl)]
  rfl
theorem lookFor_1 (h0f : Int32) (h0s : Int32) (h0i : (Nat → Int32)) (h1f : Int32) (h1s : Int32) (h1i : (Nat → Int32)) (h2f : Int32) (h2s : Int32) (h2i : (Nat → Int32)) (h3f : Int32) (h3s : Int32) (h3i : (Nat → Int32)) (fd x2 x3 : Int32) (h : ND_isForm x2 = some 1) : ND_lookFor h0f h0s h1f h1s h2f h2s h3f h3s fd (nI 1) x2 x3 = look1 h1f h1s fd x2 x3 := by
  unfold ND_lookFor
  rw [(isSheet_k 1 (by omega)).1, cb1_s, if_neg (show ¬ (1 : Int32) = 0 by decide), h, cb1_s, if_neg (show ¬ (1 : Int32) = 0 by decide)]
  rw [if_neg (show ¬ nI 1 = 0 by decide), if_pos (show nI 1 = 1 from rfl)]
  rfl
theorem lookFor_2 (h0f : Int32) (h0s : Int32) (h0i : (Nat → Int32)) (h1f : Int32) (h1s : Int32) (h1i : (Nat → Int32)) (h2f : Int32) (h2s : Int32) (h2i : (Nat → Int32)) (h3f : Int32) (h3s : Int32) (h3i : (Nat → Int32)) (fd x2 x3 : Int32) (h : ND_isForm x2 = some 1) : ND_lookFor h0f h0s h1f h1s h2f h2s h3f h3s fd (nI 2) x2 x3 = look1 h2f h2s fd x2 x3 := by
  unfold ND_lookFor
  rw [(isSheet_k 2 (by omega)).1, cb1_s, if_neg (show ¬ (1 : Int32) = 0 by decide), h, cb1_s, if_neg (show ¬ (1 : Int32) = 0 by decide)]
  rw [if_neg (show ¬ nI 2 = 0 by decide), if_neg (show ¬ nI 2 = 1 by decide), if_pos (show nI 2 = 2 from rfl)]
  rfl
theorem lookFor_3 (h0f : Int32) (h0s : Int32) (h0i : (Nat → Int32)) (h1f : Int32) (h1s : Int32) (h1i : (Nat → Int32)) (h2f : Int32) (h2s : Int32) (h2i : (Nat → Int32)) (h3f : Int32) (h3s : Int32) (h3i : (Nat → Int32)) (fd x2 x3 : Int32) (h : ND_isForm x2 = some 1) : ND_lookFor h0f h0s h1f h1s h2f h2s h3f h3s fd (nI 3) x2 x3 = look1 h3f h3s fd x2 x3 := by
  unfold ND_lookFor
  rw [(isSheet_k 3 (by omega)).1, cb1_s, if_neg (show ¬ (1 : Int32) = 0 by decide), h, cb1_s, if_neg (show ¬ (1 : Int32) = 0 by decide)]
  rw [if_neg (show ¬ nI 3 = 0 by decide), if_neg (show ¬ nI 3 = 1 by decide), if_neg (show ¬ nI 3 = 2 by decide), if_pos (show nI 3 = 3 from rfl)]
  rfl
theorem Sh_item_ok {m : Nat} (hm : m ≤ 60) {j : Nat} (hj : j < m) (i : Nat → Int32) : Sh_item (nI m) i (nI j) = some (i j) := by
  unfold Sh_item
  rw [if_neg (nI_pos (by omega)), if_neg (show ¬ nI m ≤ nI j by rw [leN (by omega) (by omega)]; omega), if_neg (show ¬ (60 : Int32) ≤ nI j by rw [show (60 : Int32) = nI 60 from rfl, leN (by omega) (by omega)]; omega), rdN (by omega) (by omega)]
theorem Sh_put_ok {m : Nat} (hm : m ≤ 60) {j : Nat} (hj : j < m) (i : Nat → Int32) (f x : Int32) : ∃ v, Sh_put f (nI m) i (nI j) x = some (upd i j v) ∧ Mo_cut f x = some v := by
  unfold Sh_put Sh_asOfForm Mo_cut
  rw [if_neg (nI_pos (by omega)), if_neg (show ¬ nI m ≤ nI j by rw [leN (by omega) (by omega)]; omega), if_neg (show ¬ (60 : Int32) ≤ nI j by rw [show (60 : Int32) = nI 60 from rfl, leN (by omega) (by omega)]; omega)]
  by_cases h0 : f = 0
  · rw [if_pos h0, cb1_s, wrN (by omega) (by omega)]; exact ⟨_, rfl, rfl⟩
  · rw [if_neg h0]
    by_cases h1 : f = 1
    · rw [if_pos h1, cb1_s, wrN (by omega) (by omega)]; exact ⟨_, rfl, rfl⟩
    · rw [if_neg h1, cb1_s, wrN (by omega) (by omega)]; exact ⟨_, rfl, rfl⟩
theorem SP_put {forms sizes items : Nat → Int32} {k a m j : Nat} {f s : Int32} {i : Nat → Int32} (ha : a ≤ 2) (hm : m ≤ 60) (hf : f = nI a) (hs : s = nI m) (h1 : forms k = nI a) (h2 : sizes k = nI m) (h3 : ∀ j, j < m → i j = items (60 * k + j)) (v : Int32) : SP forms sizes (upd items (60 * k + j) v) k f s (upd i j v) := by
  refine Or.inr ⟨a, m, ha, hm, hf, hs, h1, h2, fun q hq => ?_⟩
  by_cases e : q = j
  · subst e; rw [upd_s, upd_s]
  · rw [upd_n e, upd_n (by omega)]; exact h3 q hq
theorem get_ok {h0f : Int32} {h0s : Int32} {h0i : (Nat → Int32)} {h1f : Int32} {h1s : Int32} {h1i : (Nat → Int32)} {h2f : Int32} {h2s : Int32} {h2i : (Nat → Int32)} {h3f : Int32} {h3s : Int32} {h3i : (Nat → Int32)} {forms sizes items : Nat → Int32} (h : ShP h0f h0s h0i h1f h1s h1i h2f h2s h2i h3f h3s h3i forms sizes items) (fd x1 x2 x3 : Int32) : ∃ r fd', ND_get h0f h0s h0i h1f h1s h1i h2f h2s h2i h3f h3s h3i fd x1 x2 x3 = some (r, fd') ∧ Mo_get forms sizes items fd x1 x2 x3 = some (r, fd') := by
  obtain ⟨p0, p1, p2, p3⟩ := h
  unfold ND_get Mo_get Mo_get_b29
  rcases sheet_cases x1 with ⟨k, hk, rfl⟩ | ⟨e1, e2⟩
  · rcases form_cases x2 with ⟨a, ha, rfl, e1, e2⟩ | ⟨e1, e2⟩
    · rw [(isSheet_k k hk).2, cb1_s, if_neg (show ¬ (1 : Int32) = 0 by decide), e2, cb1_s, if_neg (show ¬ (1 : Int32) = 0 by decide)]
      rcases (show k = 0 ∨ k = 1 ∨ k = 2 ∨ k = 3 by omega) with rfl | rfl | rfl | rfl
      · rw [lookFor_0 h0f h0s h0i h1f h1s h1i h2f h2s h2i h3f h3s h3i fd (nI a) x3 e1]
        rcases look1_ok hk p0 fd (nI a) x3 with ⟨f1, f2, a', m, j, g1, g2, g3, g4, g5, g6, g7, g8, rfl, g10⟩ | ⟨r, fd', f1, f2, f3, f4⟩
        · rw [f1, f2, cb2_s, cb2_s, if_pos rfl, if_pos rfl, g4, Sh_item_ok g2 g10, show (60 : Int32) = nI 60 from rfl, mulN, nI_add, rdN (by omega) (by omega), g7 j g10]
          rw [if_pos (show nI 0 = 0 from rfl)]
          exact ⟨_, _, rfl, rfl⟩
        · rw [f3, f4, cb2_s, cb2_s, if_neg f1, if_neg f2]
          exact ⟨_, _, rfl, rfl⟩
      · rw [lookFor_1 h0f h0s h0i h1f h1s h1i h2f h2s h2i h3f h3s h3i fd (nI a) x3 e1]
        rcases look1_ok hk p1 fd (nI a) x3 with ⟨f1, f2, a', m, j, g1, g2, g3, g4, g5, g6, g7, g8, rfl, g10⟩ | ⟨r, fd', f1, f2, f3, f4⟩
        · rw [f1, f2, cb2_s, cb2_s, if_pos rfl, if_pos rfl, g4, Sh_item_ok g2 g10, show (60 : Int32) = nI 60 from rfl, mulN, nI_add, rdN (by omega) (by omega), g7 j g10]
          rw [if_neg (show ¬ nI 1 = 0 by decide), if_pos (show nI 1 = 1 from rfl)]
          exact ⟨_, _, rfl, rfl⟩
        · rw [f3, f4, cb2_s, cb2_s, if_neg f1, if_neg f2]
          exact ⟨_, _, rfl, rfl⟩
      · rw [lookFor_2 h0f h0s h0i h1f h1s h1i h2f h2s h2i h3f h3s h3i fd (nI a) x3 e1]
        rcases look1_ok hk p2 fd (nI a) x3 with ⟨f1, f2, a', m, j, g1, g2, g3, g4, g5, g6, g7, g8, rfl, g10⟩ | ⟨r, fd', f1, f2, f3, f4⟩
        · rw [f1, f2, cb2_s, cb2_s, if_pos rfl, if_pos rfl, g4, Sh_item_ok g2 g10, show (60 : Int32) = nI 60 from rfl, mulN, nI_add, rdN (by omega) (by omega), g7 j g10]
          rw [if_neg (show ¬ nI 2 = 0 by decide), if_neg (show ¬ nI 2 = 1 by decide), if_pos (show nI 2 = 2 from rfl)]
          exact ⟨_, _, rfl, rfl⟩
        · rw [f3, f4, cb2_s, cb2_s, if_neg f1, if_neg f2]
          exact ⟨_, _, rfl, rfl⟩
      · rw [lookFor_3 h0f h0s h0i h1f h1s h1i h2f h2s h2i h3f h3s h3i fd (nI a) x3 e1]
        rcases look1_ok hk p3 fd (nI a) x3 with ⟨f1, f2, a', m, j, g1, g2, g3, g4, g5, g6, g7, g8, rfl, g10⟩ | ⟨r, fd', f1, f2, f3, f4⟩
        · rw [f1, f2, cb2_s, cb2_s, if_pos rfl, if_pos rfl, g4, Sh_item_ok g2 g10, show (60 : Int32) = nI 60 from rfl, mulN, nI_add, rdN (by omega) (by omega), g7 j g10]
          rw [if_neg (show ¬ nI 3 = 0 by decide), if_neg (show ¬ nI 3 = 1 by decide), if_neg (show ¬ nI 3 = 2 by decide), if_pos (show nI 3 = 3 from rfl)]
          exact ⟨_, _, rfl, rfl⟩
        · rw [f3, f4, cb2_s, cb2_s, if_neg f1, if_neg f2]
          exact ⟨_, _, rfl, rfl⟩
    · rw [(isSheet_k k hk).2, cb1_s, if_neg (show ¬ (1 : Int32) = 0 by decide), e2, cb1_s, if_pos rfl, lookFor_bad h0f h0s h0i h1f h1s h1i h2f h2s h2i h3f h3s h3i fd (nI k) x2 x3 (Or.inr ⟨(isSheet_k k hk).1, e1⟩), cb2_s, if_neg (show ¬ (-2 : Int32) = 1 by decide)]
      exact ⟨_, _, rfl, rfl⟩
  · rw [e2, cb1_s, if_pos rfl, lookFor_bad h0f h0s h0i h1f h1s h1i h2f h2s h2i h3f h3s h3i fd x1 x2 x3 (Or.inl e1), cb2_s, if_neg (show ¬ (-2 : Int32) = 1 by decide)]
    exact ⟨_, _, rfl, rfl⟩
theorem lay_ok {h0f : Int32} {h0s : Int32} {h0i : (Nat → Int32)} {h1f : Int32} {h1s : Int32} {h1i : (Nat → Int32)} {h2f : Int32} {h2s : Int32} {h2i : (Nat → Int32)} {h3f : Int32} {h3s : Int32} {h3i : (Nat → Int32)} {forms sizes items : Nat → Int32} (h : ShP h0f h0s h0i h1f h1s h1i h2f h2s h2i h3f h3s h3i forms sizes items) (fd x1 x2 x3 x4 : Int32) : ∃ r fd' h0i' h1i' h2i' h3i' items', ND_lay h0f h0s h1f h1s h2f h2s h3f h3s fd h0i h1i h2i h3i x1 x2 x3 x4 = some (r, fd', h0i', h1i', h2i', h3i') ∧ Mo_lay forms sizes fd items x1 x2 x3 x4 = some (r, fd', items') ∧ ShP h0f h0s h0i' h1f h1s h1i' h2f h2s h2i' h3f h3s h3i' forms sizes items' := by
  obtain ⟨p0, p1, p2, p3⟩ := h
  unfold ND_lay Mo_lay
  rcases sheet_cases x1 with ⟨k, hk, rfl⟩ | ⟨e1, e2⟩
  · rcases form_cases x2 with ⟨a, ha, rfl, e1, e2⟩ | ⟨e1, e2⟩
    · rw [(isSheet_k k hk).2, cb1_s, if_neg (show ¬ (1 : Int32) = 0 by decide), e2, cb1_s, if_neg (show ¬ (1 : Int32) = 0 by decide)]
      rcases (show k = 0 ∨ k = 1 ∨ k = 2 ∨ k = 3 by omega) with rfl | rfl | rfl | rfl
      · rw [lookFor_0 h0f h0s h0i h1f h1s h1i h2f h2s h2i h3f h3s h3i fd (nI a) x3 e1]
        rcases look1_ok hk p0 fd (nI a) x3 with ⟨f1, f2, a', m, j, g1, g2, g3, g4, g5, g6, g7, g8, rfl, g10⟩ | ⟨r, fd', f1, f2, f3, f4⟩
        · obtain ⟨v, w1, w2⟩ := Sh_put_ok g2 g10 h0i h0f x4
          rw [f1, f2, cb2_s, cb2_s, if_pos rfl, if_pos rfl]
          rw [if_pos (show nI 0 = 0 from rfl)]
          rw [g4, w1, cb1_s, g8, ← g3, w2, cb1_s, show (60 : Int32) = nI 60 from rfl, mulN, nI_add, wrN (by omega) (by omega)]
          exact ⟨_, _, _, _, _, _, _, rfl, rfl, SP_put g1 g2 g3 rfl g5 g6 g7 v, SP_ext p1 rfl rfl (fun j hj => upd_n (by omega)), SP_ext p2 rfl rfl (fun j hj => upd_n (by omega)), SP_ext p3 rfl rfl (fun j hj => upd_n (by omega))⟩
        · rw [f3, f4, cb2_s, cb2_s, if_neg f1, if_neg f2]
          exact ⟨_, _, _, _, _, _, _, rfl, rfl, p0, p1, p2, p3⟩
      · rw [lookFor_1 h0f h0s h0i h1f h1s h1i h2f h2s h2i h3f h3s h3i fd (nI a) x3 e1]
        rcases look1_ok hk p1 fd (nI a) x3 with ⟨f1, f2, a', m, j, g1, g2, g3, g4, g5, g6, g7, g8, rfl, g10⟩ | ⟨r, fd', f1, f2, f3, f4⟩
        · obtain ⟨v, w1, w2⟩ := Sh_put_ok g2 g10 h1i h1f x4
          rw [f1, f2, cb2_s, cb2_s, if_pos rfl, if_pos rfl]
          rw [if_neg (show ¬ nI 1 = 0 by decide), if_pos (show nI 1 = 1 from rfl)]
          rw [g4, w1, cb1_s, g8, ← g3, w2, cb1_s, show (60 : Int32) = nI 60 from rfl, mulN, nI_add, wrN (by omega) (by omega)]
          exact ⟨_, _, _, _, _, _, _, rfl, rfl, SP_ext p0 rfl rfl (fun j hj => upd_n (by omega)), SP_put g1 g2 g3 rfl g5 g6 g7 v, SP_ext p2 rfl rfl (fun j hj => upd_n (by omega)), SP_ext p3 rfl rfl (fun j hj => upd_n (by omega))⟩
        · rw [f3, f4, cb2_s, cb2_s, if_neg f1, if_neg f2]
          exact ⟨_, _, _, _, _, _, _, rfl, rfl, p0, p1, p2, p3⟩
      · rw [lookFor_2 h0f h0s h0i h1f h1s h1i h2f h2s h2i h3f h3s h3i fd (nI a) x3 e1]
        rcases look1_ok hk p2 fd (nI a) x3 with ⟨f1, f2, a', m, j, g1, g2, g3, g4, g5, g6, g7, g8, rfl, g10⟩ | ⟨r, fd', f1, f2, f3, f4⟩
        · obtain ⟨v, w1, w2⟩ := Sh_put_ok g2 g10 h2i h2f x4
          rw [f1, f2, cb2_s, cb2_s, if_pos rfl, if_pos rfl]
          rw [if_neg (show ¬ nI 2 = 0 by decide), if_neg (show ¬ nI 2 = 1 by decide), if_pos (show nI 2 = 2 from rfl)]
          rw [g4, w1, cb1_s, g8, ← g3, w2, cb1_s, show (60 : Int32) = nI 60 from rfl, mulN, nI_add, wrN (by omega) (by omega)]
          exact ⟨_, _, _, _, _, _, _, rfl, rfl, SP_ext p0 rfl rfl (fun j hj => upd_n (by omega)), SP_ext p1 rfl rfl (fun j hj => upd_n (by omega)), SP_put g1 g2 g3 rfl g5 g6 g7 v, SP_ext p3 rfl rfl (fun j hj => upd_n (by omega))⟩
        · rw [f3, f4, cb2_s, cb2_s, if_neg f1, if_neg f2]
          exact ⟨_, _, _, _, _, _, _, rfl, rfl, p0, p1, p2, p3⟩
      · rw [lookFor_3 h0f h0s h0i h1f h1s h1i h2f h2s h2i h3f h3s h3i fd (nI a) x3 e1]
        rcases look1_ok hk p3 fd (nI a) x3 with ⟨f1, f2, a', m, j, g1, g2, g3, g4, g5, g6, g7, g8, rfl, g10⟩ | ⟨r, fd', f1, f2, f3, f4⟩
        · obtain ⟨v, w1, w2⟩ := Sh_put_ok g2 g10 h3i h3f x4
          rw [f1, f2, cb2_s, cb2_s, if_pos rfl, if_pos rfl]
          rw [if_neg (show ¬ nI 3 = 0 by decide), if_neg (show ¬ nI 3 = 1 by decide), if_neg (show ¬ nI 3 = 2 by decide), if_pos (show nI 3 = 3 from rfl)]
          rw [g4, w1, cb1_s, g8, ← g3, w2, cb1_s, show (60 : Int32) = nI 60 from rfl, mulN, nI_add, wrN (by omega) (by omega)]
          exact ⟨_, _, _, _, _, _, _, rfl, rfl, SP_ext p0 rfl rfl (fun j hj => upd_n (by omega)), SP_ext p1 rfl rfl (fun j hj => upd_n (by omega)), SP_ext p2 rfl rfl (fun j hj => upd_n (by omega)), SP_put g1 g2 g3 rfl g5 g6 g7 v⟩
        · rw [f3, f4, cb2_s, cb2_s, if_neg f1, if_neg f2]
          exact ⟨_, _, _, _, _, _, _, rfl, rfl, p0, p1, p2, p3⟩
    · rw [(isSheet_k k hk).2, cb1_s, if_neg (show ¬ (1 : Int32) = 0 by decide), e2, cb1_s, if_pos rfl, lookFor_bad h0f h0s h0i h1f h1s h1i h2f h2s h2i h3f h3s h3i fd (nI k) x2 x3 (Or.inr ⟨(isSheet_k k hk).1, e1⟩), cb2_s, if_neg (show ¬ (-2 : Int32) = 1 by decide)]
      exact ⟨_, _, _, _, _, _, _, rfl, rfl, p0, p1, p2, p3⟩
  · rw [e2, cb1_s, if_pos rfl, lookFor_bad h0f h0s h0i h1f h1s h1i h2f h2s h2i h3f h3s h3i fd x1 x2 x3 (Or.inl e1), cb2_s, if_neg (show ¬ (-2 : Int32) = 1 by decide)]
    exact ⟨_, _, _, _, _, _, _, rfl, rfl, p0, p1, p2, p3⟩
