/-! the row, continued; the class's table of what fits -/
theorem remM_0 {od : Nat → Nat} {N M j : Nat} (hN : N ≤ 10) (hM : M < 2 ^ N) (hj : j ≤ cnt M N) : remM od N M j = 0 ↔ j = cnt M N := by
  have h := remM_cnt (od := od) hN j hj
  constructor
  · intro h0
    have : cnt (remM od N M j) N = 0 := by
      rcases Nat.eq_zero_or_pos (cnt (remM od N M j) N) with h1 | h1
      · exact h1
      · obtain ⟨i, _, h2⟩ := cnt_ex h1
        rw [h0, Nat.zero_testBit] at h2; cases h2
    omega
  · intro e
    exact m_0 (remM_lt hM j) (cnt_0 (by omega))
theorem Mo_row_loop {T : Nat → Nat} {N : Nat} {od ln lt is pn pl sg : Nat → Int32} (hO : NmOK T N od ln lt) (hN : N ≤ 10) {F : Nat} (hF : 100 ≤ F) (np ns : Int32) {M : Nat} (hM : M < 2 ^ N) : ∀ (m j f : Nat) (row : Nat → Int32), j + m = cnt M N → m < f → (∀ i, i < j → row i = nI (sel (Od T) (remM (Od T) N M i) N)) → ∃ row', Mo_findRow_l7 F (nI N) np ns od ln lt is pn pl sg f (nI (remM (Od T) N M j)) (nI j) row = some (nI (cnt M N), row') ∧ ∀ i, i < cnt M N → row' i = nI (sel (Od T) (remM (Od T) N M i) N) := by
  have hmN := p2_10 hN
  have hcl := cnt_le M N
  intro m
  induction m with
  | zero =>
    intro j f row hj hf hr
    obtain ⟨f, rfl⟩ : ∃ f', f = f' + 1 := ⟨f - 1, by omega⟩
    refine ⟨row, ?_, fun i hi => hr i (by omega)⟩
    show Mo_findRow_b7 F (nI N) np ns od ln lt is pn pl sg _ (nI (remM (Od T) N M j)) (nI j) row = _
    unfold Mo_findRow_b7
    rw [(remM_0 hN hM (show j ≤ cnt M N by omega)).mpr (by omega), if_pos (show nI 0 = 0 from rfl), show j = cnt M N by omega]
  | succ m ih =>
    intro j f row hj hf hr
    obtain ⟨f, rfl⟩ : ∃ f', f = f' + 1 := ⟨f - 1, by omega⟩
    have h0 : ¬ remM (Od T) N M j = 0 := fun h => by have := (remM_0 hN hM (show j ≤ cnt M N by omega)).mp h; omega
    have hl := remM_lt (od := Od T) hM j
    have hc := remM_cnt (od := Od T) (M := M) hN j (by omega)
    obtain ⟨i, h1, h2⟩ := cnt_ex (m := remM (Od T) N M j) (n := N) (by omega)
    obtain ⟨h3, h4, _⟩ := sel_in (od := Od T) (show N < 99 by omega) h1 h2
    obtain ⟨row', e1, e2⟩ := ih (j + 1) f (upd row j (nI (sel (Od T) (remM (Od T) N M j) N))) (by omega) (by omega) (fun i hi => by
      by_cases e : i = j
      · subst e; rw [upd_s]
      · rw [upd_n e]; exact hr i (by omega))
    refine ⟨row', ?_, e2⟩
    rw [← e1]
    show Mo_findRow_b7 F (nI N) np ns od ln lt is pn pl sg (Mo_findRow_l7 F (nI N) np ns od ln lt is pn pl sg f) (nI (remM (Od T) N M j)) (nI j) row = _
    unfold Mo_findRow_b7
    rw [if_neg (show ¬ nI (remM (Od T) N M j) = 0 by rw [n0, eqN (by omega) (by omega)]; exact h0)]
    have := Mo_row_in (is := is) (pn := pn) (pl := pl) (sg := sg) hO hN F np ns (Mo_findRow_l7 F (nI N) np ns od ln lt is pn pl sg f) hl (nI j) row _ rfl h3 N 0 F (by omega) (by omega)
    rw [show (if sel (Od T) (remM (Od T) N M j) 0 = 99 then (-1 : Int32) else nI (sel (Od T) (remM (Od T) N M j) 0)) = -1 from rfl] at this
    rw [n0, this]
    unfold Mo_findRow_b68
    rw [wrN (by omega) (by omega), sh1 _ (by omega), bNot, show nI j + 1 = nI (j + 1) from nI_1 _, remM]
theorem Mo_findRow_ok {T Tp Ts : Nat → Nat} {N P S : Nat} {od ln lt is pn pl sg : Nat → Int32} (hO : NmOK T N od ln lt) (hN : N ≤ 10) (hP : PcOK Tp P is pn pl) (hP6 : P ≤ 6) (hS : SgOK Ts S sg) (hS6 : S ≤ 6) {F : Nat} (hF : 100 ≤ F) (row : Nat → Int32) : ∃ c row', Mo_findRow F (nI N) (nI P) (nI S) od ln lt is pn pl sg row = some (c, row') ∧ RowOK (Od T) N (fm T Tp Ts N P S 63) c row' := by
  unfold Mo_findRow
  rw [Mo_fitsNow_ok hO hN hP hP6 hS hS6 hF, cb1_s]
  have hcl := cnt_le (fm T Tp Ts N P S 63) N
  obtain ⟨row', e1, e2⟩ := Mo_row_loop (is := is) (pn := pn) (pl := pl) (sg := sg) hO hN hF (nI P) (nI S) (fm_lt T Tp Ts N P S 63) (cnt (fm T Tp Ts N P S 63) N) 0 F row (by omega) (by omega) (fun i h => absurd h (Nat.not_lt_zero i))
  exact ⟨_, row', e1, rfl, e2⟩
theorem Fi_order_in {T : Nat → Nat} {N : Nat} {od ln lt : Nat → Int32} (hO : NmOK T N od ln lt) (hN : N ≤ 10) {F : Nat} {M : Nat} (hM : M < 2 ^ N) (rec8 : Int32 → Int32 → (Nat → Int32) → Option (Int32 × (Nat → Int32))) {d : Nat} (hd : d < 10) (hr : ∀ j row, j ≤ cnt M N → (∀ b, b < N → (remM (Od T) N M j).testBit b = (M.testBit b && decide (Od T b < d))) → (∀ i, i < j → row i = nI (sel (Od T) (remM (Od T) N M i) N)) → ∃ c row', rec8 (nI d + -1) (nI j) row = some (c, row') ∧ RowOK (Od T) N M c row') : ∀ (m k f j : Nat) (row : Nat → Int32), k + m = N → m < f → j ≤ cnt M N → (∀ b, b < N → (remM (Od T) N M j).testBit b = (M.testBit b && decide (Od T b < d ∨ (Od T b = d ∧ k ≤ b)))) → (∀ i, i < j → row i = nI (sel (Od T) (remM (Od T) N M i) N)) → ∃ c row', Fi_order_l15 F (nI M) (nI N) od rec8 f (nI d) (nI k) (nI j) row = some (c, row') ∧ RowOK (Od T) N M c row' := by
  have hmN := p2_10 hN
  have hcl := cnt_le M N
  intro m
  induction m with
  | zero =>
    intro k f j row hk hf hj hb hrow
    obtain ⟨f, rfl⟩ : ∃ f', f = f' + 1 := ⟨f - 1, by omega⟩
    show ∃ c row', Fi_order_b15 F (nI M) (nI N) od rec8 _ (nI d) (nI k) (nI j) row = some (c, row') ∧ RowOK (Od T) N M c row'
    unfold Fi_order_b15 Fi_order_b78 Na_size
    rw [cb1_s, if_pos (show nI N ≤ nI k by rw [leN (by omega) (by omega)]; omega)]
    refine hr j row hj (fun b hbN => ?_) hrow
    rw [hb b hbN]
    congr 1
    exact decide_eq_decide.mpr (by omega)
  | succ m ih =>
    intro k f j row hk hf hj hb hrow
    obtain ⟨f, rfl⟩ : ∃ f', f = f' + 1 := ⟨f - 1, by omega⟩
    show ∃ c row', Fi_order_b15 F (nI M) (nI N) od rec8 (Fi_order_l15 F (nI M) (nI N) od rec8 f) (nI d) (nI k) (nI j) row = some (c, row') ∧ RowOK (Od T) N M c row'
    unfold Fi_order_b15 Fi_order_b72 Na_size
    have hd9 : Od T k ≤ 9 := by have := (hO k (by omega)).1; unfold Od; omega
    rw [cb1_s, if_neg (show ¬ nI N ≤ nI k by rw [leN (by omega) (by omega)]; omega), sh1 k (by omega), show nI k + 1 = nI (k + 1) from nI_1 _, Na_oddsOf_ok hO hN (by omega), cb1_s]
    have skip : M.testBit k = false ∨ ¬ Od T k = d → ∃ c row', Fi_order_l15 F (nI M) (nI N) od rec8 f (nI d) (nI (k + 1)) (nI j) row = some (c, row') ∧ RowOK (Od T) N M c row' := fun h => ih (k + 1) f j row (by omega) (by omega) hj (fun b hbN => by
      rw [hb b hbN]
      by_cases e : b = k
      · subst e
        rcases h with h | h
        · rw [h]; rfl
        · congr 1; exact decide_eq_decide.mpr (by omega)
      · congr 1; exact decide_eq_decide.mpr (by omega)) hrow
    cases hMb : M.testBit k with
    | false =>
      rw [if_pos (show nI M &&& nI (2 ^ k) = 0 by rw [bBit (by omega)]; exact hMb)]
      exact skip (Or.inl hMb)
    | true =>
      rw [if_neg (show ¬ nI M &&& nI (2 ^ k) = 0 by rw [bBit (by omega), hMb]; decide)]
      by_cases e : Od T k = d
      · have hkb : (remM (Od T) N M j).testBit k = true := by
          rw [hb k (by omega), hMb]; simp [e]
        have hsel : sel (Od T) (remM (Od T) N M j) N = k := sel_eq (by omega) (by omega) hkb (fun i hi hbi => by
          rw [hb i hi, Bool.and_eq_true, decide_eq_true_iff] at hbi
          omega)
        have hcc := remM_cnt (od := Od T) (M := M) hN j hj
        have hcp := cnt_pos (show k < N by omega) hkb
        rw [if_pos (show nI (Od T k) = nI d by rw [e]), if_neg (show ¬ (10 : Int32) ≤ nI j by rw [n10, leN (by omega) (by omega)]; omega), wrN (by omega) (by omega), show nI j + 1 = nI (j + 1) from nI_1 _]
        refine ih (k + 1) f (j + 1) _ (by omega) (by omega) (by omega) (fun b hbN => ?_) (fun i hi => ?_)
        · rw [remM, ndf_p2, hsel, hb b hbN]
          by_cases e2 : k = b
          · subst e2; simp
            omega
          · rw [show (!decide (k = b)) = true by simp [e2], Bool.and_true]
            congr 1; exact decide_eq_decide.mpr (by omega)
        · by_cases e2 : i = j
          · subst e2; rw [upd_s, hsel]
          · rw [upd_n e2]; exact hrow i (by omega)
      · rw [if_neg (show ¬ nI (Od T k) = nI d by rw [eqN (by omega) (by omega)]; exact e)]
        exact skip (Or.inr e)
theorem Fi_order_loop {T : Nat → Nat} {N : Nat} {od ln lt : Nat → Int32} (hO : NmOK T N od ln lt) (hN : N ≤ 10) {F : Nat} (hF : 100 ≤ F) {M : Nat} (hM : M < 2 ^ N) : ∀ (d f j : Nat) (row : Nat → Int32), d < 10 → d < f → j ≤ cnt M N → (∀ b, b < N → (remM (Od T) N M j).testBit b = (M.testBit b && decide (Od T b ≤ d))) → (∀ i, i < j → row i = nI (sel (Od T) (remM (Od T) N M i) N)) → ∃ c row', Fi_order_l8 F (nI M) (nI N) od f (nI d) (nI j) row = some (c, row') ∧ RowOK (Od T) N M c row' := by
  have hmN := p2_10 hN
  have hcl := cnt_le M N
  intro d
  induction d with
  | zero =>
    intro f j row hd hf hj hb hrow
    obtain ⟨f, rfl⟩ : ∃ f', f = f' + 1 := ⟨f - 1, by omega⟩
    have h0 : remM (Od T) N M j = 0 := m_0 (remM_lt hM j) (fun b hbN => by
      have h1 : 1 ≤ Od T b := by have := (hO b hbN).1; unfold Od; omega
      rw [hb b hbN, show decide (Od T b ≤ 0) = false from decide_eq_false (by omega), Bool.and_false])
    have hj2 := (remM_0 hN hM hj).mp h0
    refine ⟨_, row, ?_, rfl, fun i hi => hrow i (by omega)⟩
    show Fi_order_b8 F (nI M) (nI N) od _ (nI 0) (nI j) row = _
    unfold Fi_order_b8
    rw [if_pos (show nI 0 < 1 by decide), hj2]
  | succ d ih =>
    intro f j row hd hf hj hb hrow
    obtain ⟨f, rfl⟩ : ∃ f', f = f' + 1 := ⟨f - 1, by omega⟩
    show ∃ c row', Fi_order_b8 F (nI M) (nI N) od (Fi_order_l8 F (nI M) (nI N) od f) (nI (d + 1)) (nI j) row = _ ∧ _
    unfold Fi_order_b8
    rw [if_neg (show ¬ nI (d + 1) < 1 by rw [n1, ltN (by omega) (by omega)]; omega)]
    refine Fi_order_in hO hN hM (Fi_order_l8 F (nI M) (nI N) od f) hd (fun j row hj hb hrow => ?_) N 0 F j row (by omega) (by omega) hj (fun b hbN => ?_) hrow
    · rw [m1_add]
      refine ih f j row (by omega) (by omega) hj (fun b hbN => ?_) hrow
      rw [hb b hbN]
      congr 1; exact decide_eq_decide.mpr (by omega)
    · rw [hb b hbN]
      congr 1; exact decide_eq_decide.mpr (by omega)
theorem Fi_order_ok {T : Nat → Nat} {N : Nat} {od ln lt : Nat → Int32} (hO : NmOK T N od ln lt) (hN : N ≤ 10) {F : Nat} (hF : 100 ≤ F) {M : Nat} (hM : M < 2 ^ N) (o0 : Int32) (row : Nat → Int32) : ∃ c row', Fi_order F (nI M) (nI N) od o0 row = some (c, row') ∧ RowOK (Od T) N M c row' := by
  unfold Fi_order
  refine Fi_order_loop hO hN hF hM 9 F 0 row (by omega) (by omega) (by omega) (fun b hbN => ?_) (fun i h => absurd h (Nat.not_lt_zero i))
  have h1 : Od T b ≤ 9 := by have := (hO b hbN).1; unfold Od; omega
  rw [remM, show decide (Od T b ≤ 9) = true from decide_eq_true h1, Bool.and_true]
