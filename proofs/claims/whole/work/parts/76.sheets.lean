/-! sheets: sheet, lose -/
def SP (forms sizes items : Nat → Int32) (k : Nat) (f s : Int32) (i : Nat → Int32) : Prop := (s = -1 ∧ forms k = -1) ∨ ∃ a m, a ≤ 2 ∧ m ≤ 60 ∧ f = nI a ∧ s = nI m ∧ forms k = nI a ∧ sizes k = nI m ∧ ∀ j, j < m → i j = items (60 * k + j)
def ShP (h0f : Int32) (h0s : Int32) (h0i : (Nat → Int32)) (h1f : Int32) (h1s : Int32) (h1i : (Nat → Int32)) (h2f : Int32) (h2s : Int32) (h2i : (Nat → Int32)) (h3f : Int32) (h3s : Int32) (h3i : (Nat → Int32)) (forms sizes items : Nat → Int32) : Prop := SP forms sizes items 0 h0f h0s h0i ∧ SP forms sizes items 1 h1f h1s h1i ∧ SP forms sizes items 2 h2f h2s h2i ∧ SP forms sizes items 3 h3f h3s h3i
theorem SP_ext {forms sizes items forms' sizes' items' : Nat → Int32} {k : Nat} {f s : Int32} {i : Nat → Int32} (h : SP forms sizes items k f s i) (h1 : forms' k = forms k) (h2 : sizes' k = sizes k) (h3 : ∀ j, j < 60 → items' (60 * k + j) = items (60 * k + j)) : SP forms' sizes' items' k f s i := by
  rcases h with ⟨a, b⟩ | ⟨a, m, e1, e2, e3, e4, e5, e6, e7⟩
  · exact Or.inl ⟨a, by rw [h1, b]⟩
  · exact Or.inr ⟨a, m, e1, e2, e3, e4, by rw [h1, e5], by rw [h2, e6], fun j hj => by rw [h3 j (by omega), e7 j hj]⟩
theorem sheet_cases (x : Int32) : (∃ k, k < 4 ∧ x = nI k) ∨ (ND_isSheet x = some 0 ∧ Mo_isSheet x = some 0) := by
  unfold Mo_isSheet ND_isSheet
  rcases in_cases x 0 3 (by omega) (by omega) with ⟨k, _, hk, rfl, e⟩ | ⟨h1, e⟩
  · exact Or.inl ⟨k, by omega, rfl⟩
  · refine Or.inr ⟨?_, by
      rw [show Mo_in (Int32.toInt64 x) 0 3 = some 0 from e, cb1_s, gd_s (by exact Or.inl rfl)]⟩
    by_cases h : x < 0
    · rw [if_pos h]
    · obtain ⟨j, hj, rfl⟩ := nI_of h
      rw [ltN (by omega) (by omega), ltN (by omega) (by omega)] at h1
      rw [if_neg h, if_pos (show (4 : Int32) ≤ nI j by rw [show (4 : Int32) = nI 4 from rfl, leN (by omega) (by omega)]; omega)]
theorem isSheet_k : ∀ k, k < 4 → ND_isSheet (nI k) = some 1 ∧ Mo_isSheet (nI k) = some 1 := by decide +kernel
theorem form_cases (x : Int32) : (∃ a, a ≤ 2 ∧ x = nI a ∧ ND_isForm x = some 1 ∧ Mo_in (Int32.toInt64 x) 0 2 = some 1) ∨ (ND_isForm x = some 0 ∧ Mo_in (Int32.toInt64 x) 0 2 = some 0) := by
  unfold ND_isForm
  rcases in_cases x 0 2 (by omega) (by omega) with ⟨k, _, hk, rfl, e⟩ | ⟨h1, e⟩
  · exact Or.inl ⟨k, hk, rfl, by rw [if_neg (nI_pos (by omega)), if_neg (show ¬ (3 : Int32) ≤ nI k by rw [n3, leN (by omega) (by omega)]; omega)], e⟩
  · refine Or.inr ⟨?_, e⟩
    by_cases h : x < 0
    · rw [if_pos h]
    · obtain ⟨j, hj, rfl⟩ := nI_of h
      rw [ltN (by omega) (by omega), ltN (by omega) (by omega)] at h1
      rw [if_neg h, if_pos (show (3 : Int32) ≤ nI j by rw [n3, leN (by omega) (by omega)]; omega)]
theorem Sh_isLost_m1 : Sh_isLost (-1) = some 1 := rfl
theorem Sh_isLost_n {m : Nat} (hm : m ≤ 60) : Sh_isLost (nI m) = some 0 := by
  unfold Sh_isLost; rw [if_neg (ne_m1 (by omega))]
theorem lose_ok {h0f : Int32} {h0s : Int32} {h0i : (Nat → Int32)} {h1f : Int32} {h1s : Int32} {h1i : (Nat → Int32)} {h2f : Int32} {h2s : Int32} {h2i : (Nat → Int32)} {h3f : Int32} {h3s : Int32} {h3i : (Nat → Int32)} {forms sizes items : Nat → Int32} (h : ShP h0f h0s h0i h1f h1s h1i h2f h2s h2i h3f h3s h3i forms sizes items) (fd x1 : Int32) : ∃ r fd' h0s' h1s' h2s' h3s' forms', ND_lose fd h0s h1s h2s h3s x1 = some (r, fd', h0s', h1s', h2s', h3s') ∧ Mo_lose sizes fd forms x1 = some (r, fd', forms') ∧ ShP h0f h0s' h0i h1f h1s' h1i h2f h2s' h2i h3f h3s' h3i forms' sizes items := by
  obtain ⟨p0, p1, p2, p3⟩ := h
  unfold ND_lose Mo_lose
  rcases sheet_cases x1 with ⟨k, hk, rfl⟩ | ⟨e1, e2⟩
  · rw [(isSheet_k k hk).1, (isSheet_k k hk).2, cb1_s, cb1_s, if_neg (show ¬ (1 : Int32) = 0 by decide), if_neg (show ¬ (1 : Int32) = 0 by decide), rdN hk (by omega), wrN hk (by omega), rdN hk (by omega)]
    rcases (show k = 0 ∨ k = 1 ∨ k = 2 ∨ k = 3 by omega) with rfl | rfl | rfl | rfl
    · rw [if_pos (show nI 0 = 0 from rfl)]
      rcases p0 with ⟨q1, q2⟩ | ⟨a, m, q1, q2, q3, q4, q5, q6, q7⟩
      · rw [q1, q2, Sh_isLost_m1, cb1_s, if_neg (show ¬ (1 : Int32) = 0 by decide), if_neg (show ¬ (0 : Int32) ≤ -1 by decide)]
        exact ⟨_, _, _, _, _, _, _, rfl, rfl, Or.inl ⟨rfl, q2⟩, p1, p2, p3⟩
      · rw [q4, q5, q6, Sh_isLost_n q2, cb1_s, if_pos rfl, if_pos (show (0 : Int32) ≤ nI a from nI_pos' (by omega))]
        exact ⟨_, _, _, _, _, _, _, rfl, rfl, Or.inl ⟨rfl, upd_s _ _ _⟩, SP_ext p1 (upd_n (by decide)) rfl (fun _ _ => rfl), SP_ext p2 (upd_n (by decide)) rfl (fun _ _ => rfl), SP_ext p3 (upd_n (by decide)) rfl (fun _ _ => rfl)⟩
    · rw [if_neg (show ¬ nI 1 = 0 by decide), if_pos (show nI 1 = 1 from rfl)]
      rcases p1 with ⟨q1, q2⟩ | ⟨a, m, q1, q2, q3, q4, q5, q6, q7⟩
      · rw [q1, q2, Sh_isLost_m1, cb1_s, if_neg (show ¬ (1 : Int32) = 0 by decide), if_neg (show ¬ (0 : Int32) ≤ -1 by decide)]
        exact ⟨_, _, _, _, _, _, _, rfl, rfl, p0, Or.inl ⟨rfl, q2⟩, p2, p3⟩
      · rw [q4, q5, q6, Sh_isLost_n q2, cb1_s, if_pos rfl, if_pos (show (0 : Int32) ≤ nI a from nI_pos' (by omega))]
        exact ⟨_, _, _, _, _, _, _, rfl, rfl, SP_ext p0 (upd_n (by decide)) rfl (fun _ _ => rfl), Or.inl ⟨rfl, upd_s _ _ _⟩, SP_ext p2 (upd_n (by decide)) rfl (fun _ _ => rfl), SP_ext p3 (upd_n (by decide)) rfl (fun _ _ => rfl)⟩
    · rw [if_neg (show ¬ nI 2 = 0 by decide), if_neg (show ¬ nI 2 = 1 by decide), if_pos (show nI 2 = 2 from rfl)]
      rcases p2 with ⟨q1, q2⟩ | ⟨a, m, q1, q2, q3, q4, q5, q6, q7⟩
      · rw [q1, q2, Sh_isLost_m1, cb1_s, if_neg (show ¬ (1 : Int32) = 0 by decide), if_neg (show ¬ (0 : Int32) ≤ -1 by decide)]
        exact ⟨_, _, _, _, _, _, _, rfl, rfl, p0, p1, Or.inl ⟨rfl, q2⟩, p3⟩
      · rw [q4, q5, q6, Sh_isLost_n q2, cb1_s, if_pos rfl, if_pos (show (0 : Int32) ≤ nI a from nI_pos' (by omega))]
        exact ⟨_, _, _, _, _, _, _, rfl, rfl, SP_ext p0 (upd_n (by decide)) rfl (fun _ _ => rfl), SP_ext p1 (upd_n (by decide)) rfl (fun _ _ => rfl), Or.inl ⟨rfl, upd_s _ _ _⟩, SP_ext p3 (upd_n (by decide)) rfl (fun _ _ => rfl)⟩
    · rw [if_neg (show ¬ nI 3 = 0 by decide), if_neg (show ¬ nI 3 = 1 by decide), if_neg (show ¬ nI 3 = 2 by decide), if_pos (show nI 3 = 3 from rfl)]
      rcases p3 with ⟨q1, q2⟩ | ⟨a, m, q1, q2, q3, q4, q5, q6, q7⟩
      · rw [q1, q2, Sh_isLost_m1, cb1_s, if_neg (show ¬ (1 : Int32) = 0 by decide), if_neg (show ¬ (0 : Int32) ≤ -1 by decide)]
        exact ⟨_, _, _, _, _, _, _, rfl, rfl, p0, p1, p2, Or.inl ⟨rfl, q2⟩⟩
      · rw [q4, q5, q6, Sh_isLost_n q2, cb1_s, if_pos rfl, if_pos (show (0 : Int32) ≤ nI a from nI_pos' (by omega))]
        exact ⟨_, _, _, _, _, _, _, rfl, rfl, SP_ext p0 (upd_n (by decide)) rfl (fun _ _ => rfl), SP_ext p1 (upd_n (by decide)) rfl (fun _ _ => rfl), SP_ext p2 (upd_n (by decide)) rfl (fun _ _ => rfl), Or.inl ⟨rfl, upd_s _ _ _⟩⟩
  · rw [e1, e2, cb1_s, cb1_s, if_pos rfl, if_pos rfl]
    exact ⟨_, _, _, _, _, _, _, rfl, rfl, p0, p1, p2, p3⟩
theorem Mo_sheet_loop (F : Nat) (x2 fd : Int32) (forms sizes : Nat → Int32) {k m : Nat} (hk : k < 4) (hm : m ≤ 60) : ∀ (d j f : Nat) (items : Nat → Int32), j + d = m → d < f → (∀ q, q < j → items (60 * k + q) = 0) → ∃ items', Mo_sheet_l55 F (nI k) x2 (nI m) f (nI j) fd forms sizes items = some (nI m, fd, forms, sizes, items') ∧ (∀ q, q < m → items' (60 * k + q) = 0) ∧ ∀ q, (q < 60 * k ∨ 60 * k + 60 ≤ q) → items' q = items q := by
  intro d
  induction d with
  | zero =>
    intro j f items hj hf h
    obtain ⟨f, rfl⟩ : ∃ f', f = f' + 1 := ⟨f - 1, by omega⟩
    show ∃ items', Mo_sheet_b55 F (nI k) x2 (nI m) _ (nI j) fd forms sizes items = _ ∧ _
    unfold Mo_sheet_b55
    rw [if_pos (show nI m ≤ nI j by rw [leN (by omega) (by omega)]; omega)]
    exact ⟨items, rfl, fun q hq => h q (by omega), fun _ _ => rfl⟩
  | succ d ih =>
    intro j f items hj hf h
    obtain ⟨f, rfl⟩ : ∃ f', f = f' + 1 := ⟨f - 1, by omega⟩
    show ∃ items', Mo_sheet_b55 F (nI k) x2 (nI m) (Mo_sheet_l55 F (nI k) x2 (nI m) f) (nI j) fd forms sizes items = _ ∧ _
    unfold Mo_sheet_b55
    rw [if_neg (show ¬ nI m ≤ nI j by rw [leN (by omega) (by omega)]; omega), show (60 : Int32) = nI 60 from rfl, mulN, nI_add, wrN (by omega) (by omega), show nI j + 1 = nI (j + 1) from nI_1 _]
    obtain ⟨it, e1, e2, e3⟩ := ih (j + 1) f (upd items (60 * k + j) 0) (by omega) (by omega) (fun q hq => by
      by_cases e : q = j
      · subst e; exact upd_s _ _ _
      · rw [upd_n (by omega)]; exact h q (by omega))
    exact ⟨it, e1, e2, fun q hq => by rw [e3 q hq, upd_n (by omega)]⟩
theorem Sh_begin_ok {F : Nat} (hF : 100 ≤ F) (f s : Int32) (i : Nat → Int32) (x2 : Int32) {m : Nat} (hm : m ≤ 60) : ∃ i', Sh_begin F f s i x2 (nI m) = some (x2, nI m, i') ∧ ∀ q, q < 60 → i' q = 0 := by
  unfold Sh_begin Sh_become
  obtain ⟨w, e1, e2⟩ := fill0 (F := F) (cap := 60) (by omega) (by omega) i
  rw [cb1_s, e1, cb1_s]
  have : mnI (nI m) 60 = nI m := by
    have : ∀ m, m ≤ 60 → mnI (nI m) 60 = nI m := by decide +kernel
    exact this m hm
  rw [this]
  exact ⟨w, rfl, e2⟩
theorem sheet_ok {F : Nat} (hF : 100 ≤ F) {h0f : Int32} {h0s : Int32} {h0i : (Nat → Int32)} {h1f : Int32} {h1s : Int32} {h1i : (Nat → Int32)} {h2f : Int32} {h2s : Int32} {h2i : (Nat → Int32)} {h3f : Int32} {h3s : Int32} {h3i : (Nat → Int32)} {forms sizes items : Nat → Int32} (h : ShP h0f h0s h0i h1f h1s h1i h2f h2s h2i h3f h3s h3i forms sizes items) (fd x1 x2 x3 : Int32) : ∃ r fd' h0f' h0s' h0i' h1f' h1s' h1i' h2f' h2s' h2i' h3f' h3s' h3i' forms' sizes' items', ND_sheet F fd h0f h0s h0i h1f h1s h1i h2f h2s h2i h3f h3s h3i x1 x2 x3 = some (r, fd', h0f', h0s', h0i', h1f', h1s', h1i', h2f', h2s', h2i', h3f', h3s', h3i') ∧ Mo_sheet F fd forms sizes items x1 x2 x3 = some (r, fd', forms', sizes', items') ∧ ShP h0f' h0s' h0i' h1f' h1s' h1i' h2f' h2s' h2i' h3f' h3s' h3i' forms' sizes' items' := by
  unfold ND_sheet Mo_sheet
  rcases sheet_cases x1 with ⟨k, hk, rfl⟩ | ⟨e1, e2⟩
  · rw [(isSheet_k k hk).1, (isSheet_k k hk).2, cb1_s, cb1_s, if_neg (show ¬ (1 : Int32) = 0 by decide), if_neg (show ¬ (1 : Int32) = 0 by decide)]
    rcases form_cases x2 with ⟨a, ha, rfl, e1, e2⟩ | ⟨e1, e2⟩
    · rw [e1, e2, cb1_s, cb1_s, if_neg (show ¬ (1 : Int32) = 0 by decide), if_neg (show ¬ (1 : Int32) = 0 by decide)]
      by_cases h60 : x3 ≤ 60
      · rw [if_pos h60, if_pos h60]
        by_cases h0 : x3 < 0
        · have h0' : ¬ (0 : Int32) ≤ x3 := fun hc => by
            rw [neg_toInt] at h0; rw [Int32.le_iff_toInt_le] at hc
            have : (0 : Int32).toInt = 0 := by decide
            omega
          rw [if_neg h0', if_neg h0']
          exact ⟨_, _, _, _, _, _, _, _, _, _, _, _, _, _, _, _, _, rfl, rfl, h⟩
        · obtain ⟨m, hm, rfl⟩ := nI_of h0
          rw [show (60 : Int32) = nI 60 from rfl, leN (by omega) (by omega)] at h60
          rw [if_pos (nI_pos' hm), if_pos (nI_pos' hm), wrN hk (by omega), wrN hk (by omega)]
          obtain ⟨p0, p1, p2, p3⟩ := h
          obtain ⟨it, f1, f2, f3⟩ := Mo_sheet_loop F (nI a) fd (upd forms k (nI a)) (upd sizes k (nI m)) hk h60 m 0 F items (by omega) (by omega) (fun q hq => absurd hq (Nat.not_lt_zero q))
          rw [show Mo_sheet_l55 F (nI k) (nI a) (nI m) F 0 fd (upd forms k (nI a)) (upd sizes k (nI m)) items = _ from f1]
          rcases (show k = 0 ∨ k = 1 ∨ k = 2 ∨ k = 3 by omega) with rfl | rfl | rfl | rfl
          · rw [if_pos (show nI 0 = 0 from rfl)]
            obtain ⟨w, g1, g2⟩ := Sh_begin_ok hF h0f h0s h0i (nI a) h60
            rw [g1, cb3_s]
            exact ⟨_, _, _, _, _, _, _, _, _, _, _, _, _, _, _, _, _, rfl, rfl, Or.inr ⟨a, m, ha, h60, rfl, rfl, upd_s _ _ _, upd_s _ _ _, fun j hj => by rw [g2 j (by omega), f2 j hj]⟩, SP_ext p1 (upd_n (by decide)) (upd_n (by decide)) (fun j hj => f3 _ (by omega)), SP_ext p2 (upd_n (by decide)) (upd_n (by decide)) (fun j hj => f3 _ (by omega)), SP_ext p3 (upd_n (by decide)) (upd_n (by decide)) (fun j hj => f3 _ (by omega))⟩
          · rw [if_neg (show ¬ nI 1 = 0 by decide), if_pos (show nI 1 = 1 from rfl)]
            obtain ⟨w, g1, g2⟩ := Sh_begin_ok hF h1f h1s h1i (nI a) h60
            rw [g1, cb3_s]
            exact ⟨_, _, _, _, _, _, _, _, _, _, _, _, _, _, _, _, _, rfl, rfl, SP_ext p0 (upd_n (by decide)) (upd_n (by decide)) (fun j hj => f3 _ (by omega)), Or.inr ⟨a, m, ha, h60, rfl, rfl, upd_s _ _ _, upd_s _ _ _, fun j hj => by rw [g2 j (by omega), f2 j hj]⟩, SP_ext p2 (upd_n (by decide)) (upd_n (by decide)) (fun j hj => f3 _ (by omega)), SP_ext p3 (upd_n (by decide)) (upd_n (by decide)) (fun j hj => f3 _ (by omega))⟩
          · rw [if_neg (show ¬ nI 2 = 0 by decide), if_neg (show ¬ nI 2 = 1 by decide), if_pos (show nI 2 = 2 from rfl)]
            obtain ⟨w, g1, g2⟩ := Sh_begin_ok hF h2f h2s h2i (nI a) h60
            rw [g1, cb3_s]
            exact ⟨_, _, _, _, _, _, _, _, _, _, _, _, _, _, _, _, _, rfl, rfl, SP_ext p0 (upd_n (by decide)) (upd_n (by decide)) (fun j hj => f3 _ (by omega)), SP_ext p1 (upd_n (by decide)) (upd_n (by decide)) (fun j hj => f3 _ (by omega)), Or.inr ⟨a, m, ha, h60, rfl, rfl, upd_s _ _ _, upd_s _ _ _, fun j hj => by rw [g2 j (by omega), f2 j hj]⟩, SP_ext p3 (upd_n (by decide)) (upd_n (by decide)) (fun j hj => f3 _ (by omega))⟩
          · rw [if_neg (show ¬ nI 3 = 0 by decide), if_neg (show ¬ nI 3 = 1 by decide), if_neg (show ¬ nI 3 = 2 by decide), if_pos (show nI 3 = 3 from rfl)]
            obtain ⟨w, g1, g2⟩ := Sh_begin_ok hF h3f h3s h3i (nI a) h60
            rw [g1, cb3_s]
            exact ⟨_, _, _, _, _, _, _, _, _, _, _, _, _, _, _, _, _, rfl, rfl, SP_ext p0 (upd_n (by decide)) (upd_n (by decide)) (fun j hj => f3 _ (by omega)), SP_ext p1 (upd_n (by decide)) (upd_n (by decide)) (fun j hj => f3 _ (by omega)), SP_ext p2 (upd_n (by decide)) (upd_n (by decide)) (fun j hj => f3 _ (by omega)), Or.inr ⟨a, m, ha, h60, rfl, rfl, upd_s _ _ _, upd_s _ _ _, fun j hj => by rw [g2 j (by omega), f2 j hj]⟩⟩
      · rw [if_neg h60, if_neg h60]
        exact ⟨_, _, _, _, _, _, _, _, _, _, _, _, _, _, _, _, _, rfl, rfl, h⟩
    · rw [e1, e2, cb1_s, cb1_s, if_pos rfl, if_pos rfl]
      exact ⟨_, _, _, _, _, _, _, _, _, _, _, _, _, _, _, _, _, rfl, rfl, h⟩
  · rw [e1, e2, cb1_s, cb1_s, if_pos rfl, if_pos rfl]
    exact ⟨_, _, _, _, _, _, _, _, _, _, _, _, _, _, _, _, _, rfl, rfl, h⟩
