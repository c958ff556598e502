/-! type, wipe, undo, fault -/
theorem neg_toInt {x : Int32} : (x < 0) = (x.toInt < 0) := propext Int32.lt_iff_toInt_lt
theorem i0 : (0 : Int64).toInt = 0 := by decide
theorem text_cases (x : Int32) : (∃ k, k < 3 ∧ x = nI k) ∨ (ND_isText x = some 0 ∧ Mo_isText x = some 0) := by
  have e2 : (2 : Int64).toInt = 2 := by decide
  by_cases h : x < 0
  · refine Or.inr ⟨if_pos h, ?_⟩
    rw [neg_toInt] at h
    unfold Mo_isText
    rw [Mo_in_ok, cb1_s, Int32.toInt_toInt64, i0, if_neg (fun hc => by omega), gd_s (by exact Or.inl rfl)]
  · obtain ⟨j, hj, rfl⟩ := nI_of h
    by_cases h3 : j < 3
    · exact Or.inl ⟨j, h3, rfl⟩
    · refine Or.inr ⟨?_, ?_⟩
      · unfold ND_isText; rw [if_neg h, if_pos (show 3 ≤ nI j by rw [n3, leN (by omega) (by omega)]; omega)]
      · unfold Mo_isText
        rw [Mo_in_ok, cb1_s, Int32.toInt_toInt64, i0, e2, nI_toInt hj, if_neg (fun hc => by omega), gd_s (by exact Or.inl rfl)]
theorem isText_k : ∀ k, k < 3 → ND_isText (nI k) = some 1 ∧ Mo_isText (nI k) = some 1 := by decide +kernel
theorem byte_cases (x : Int32) : (∃ c, c < 256 ∧ x = nI c ∧ Mo_in (Int32.toInt64 x) 0 255 = some 1) ∨ ((x < 0 ∨ ¬ x ≤ 255) ∧ Mo_in (Int32.toInt64 x) 0 255 = some 0) := by
  have e2 : (255 : Int64).toInt = 255 := by decide
  rw [Mo_in_ok, Int32.toInt_toInt64, i0, e2]
  by_cases h : x < 0
  · have h' := h
    rw [neg_toInt] at h'
    exact Or.inr ⟨Or.inl h, by rw [if_neg (fun hc => by omega)]⟩
  · obtain ⟨j, hj, rfl⟩ := nI_of h
    rw [nI_toInt hj]
    by_cases h3 : j < 256
    · exact Or.inl ⟨j, h3, rfl, by rw [if_pos (by omega)]⟩
    · exact Or.inr ⟨Or.inr (by rw [show (255 : Int32) = nI 255 from rfl, leN (by omega) (by omega)]; omega), by rw [if_neg (fun hc => by omega)]⟩
def upT {α : Type} (T : Nat → α) (k : Nat) (t : α) : Nat → α := fun j => if j = k then t else T j
theorem upT_s {α : Type} {T : Nat → α} {k : Nat} {t : α} : upT T k t k = t := if_pos rfl
theorem upT_n {α : Type} {T : Nat → α} {k j : Nat} {t : α} (h : j ≠ k) : upT T k t j = T j := if_neg h
theorem TX_push {T : Nat → Nat} {n cap : Nat} {b : Nat → Int32} (h : TX T n cap b) (hn : n < cap) {c : Nat} (hc : c < 256) : TX (upT T n c) (n + 1) cap (upd b n (nI c)) := by
  refine ⟨hn, h.2.1, fun j hj => ?_, fun j hj => ?_⟩
  · by_cases e : j = n
    · subst e; rw [upT_s, upd_s]; exact ⟨hc, rfl⟩
    · rw [upT_n e, upd_n e]; exact h.2.2.1 j (by omega)
  · rw [upT_n (by omega)]; exact h.2.2.2 j (by omega)
theorem TX_pop {T : Nat → Nat} {n cap : Nat} {b : Nat → Int32} (h : TX T (n + 1) cap b) : TX (upT T n 999) n cap b := by
  refine ⟨by have := h.1; omega, h.2.1, fun j hj => ?_, fun j hj => ?_⟩
  · rw [upT_n (by omega)]; exact h.2.2.1 j (by omega)
  · by_cases e : j = n
    · subst e; exact upT_s
    · rw [upT_n e]; exact h.2.2.2 j (by omega)
theorem TX_wipe {T : Nat → Nat} {n cap : Nat} {b : Nat → Int32} (h : TX T n cap b) : TX (fun _ => 999) 0 cap b := ⟨by omega, h.2.1, fun j hj => absurd hj (Nat.not_lt_zero j), fun _ _ => rfl⟩
def cap (k : Nat) : Nat := if k = 0 then 80 else if k = 1 then 40 else 6
theorem cap_le (k : Nat) : cap k ≤ 80 := by unfold cap; split <;> (try split) <;> omega
theorem Mo_room_ok : ∀ k, k < 3 → Mo_room (nI k) = some (nI (cap k)) := by decide +kernel
theorem TxR_push {T : Nat → Nat → Nat} {n : Nat → Nat} {bytes typed : Nat → Int32} (h : TxR T n bytes typed) {k : Nat} (hk : k < 3) (hn : n k < cap k) (hall : ∀ k, k < 3 → n k ≤ 80) (c : Nat) : TxR (upT T k (upT (T k) (n k) c)) (upT n k (n k + 1)) (upd bytes (80 * k + n k) (nI c)) (upd typed k (nI (n k + 1))) := by
  have hcap := cap_le k
  intro k' hk'
  by_cases e : k' = k
  · subst e
    rw [upT_s, upT_s]
    refine ⟨upd_s _ _ _, fun j hj => ?_⟩
    by_cases e2 : j = n k'
    · subst e2; rw [upd_s, upT_s]
    · rw [upd_n (by omega), upT_n e2]; exact (h k' hk').2 j (by omega)
  · rw [upT_n e, upT_n e]
    refine ⟨by rw [upd_n e]; exact (h k' hk').1, fun j hj => ?_⟩
    have := hall k' hk'
    rw [upd_n (by omega)]; exact (h k' hk').2 j hj
theorem TxR_pop {T : Nat → Nat → Nat} {n : Nat → Nat} {bytes typed : Nat → Int32} (h : TxR T n bytes typed) {k : Nat} (hk : k < 3) (m : Nat) (t : Nat → Nat) (hm : m ≤ n k) (ht : ∀ j, j < m → t j = T k j) : TxR (upT T k t) (upT n k m) bytes (upd typed k (nI m)) := by
  intro k' hk'
  by_cases e : k' = k
  · subst e
    rw [upT_s, upT_s]
    exact ⟨upd_s _ _ _, fun j hj => by rw [ht j hj]; exact (h k' hk').2 j (by omega)⟩
  · rw [upT_n e, upT_n e]
    exact ⟨by rw [upd_n e]; exact (h k' hk').1, (h k' hk').2⟩
def Chg (T : Nat → Nat → Nat) (n : Nat → Nat) (st ws ys : Int32) (T' : Nat → Nat → Nat) (n' : Nat → Nat) (st' ws' ys' : Int32) : Prop := (T' = T ∧ n' = n ∧ st' = st ∧ ws' = ws ∧ ys' = ys) ∨ (st' = 1 ∧ ((T' 0 = T 0 ∧ n' 0 = n 0 ∧ ws' = ws ∧ ys' = ys) ∨ (ws' = 1 ∧ ys' = 1)))
theorem Chg_same (T : Nat → Nat → Nat) (n : Nat → Nat) (st ws ys : Int32) : Chg T n st ws ys T n st ws ys := Or.inl ⟨rfl, rfl, rfl, rfl, rfl⟩
theorem Chg_0 (T : Nat → Nat → Nat) (n : Nat → Nat) (st ws ys : Int32) (T' : Nat → Nat → Nat) (n' : Nat → Nat) : Chg T n st ws ys T' n' 1 1 1 := Or.inr ⟨rfl, Or.inr ⟨rfl, rfl⟩⟩
theorem Chg_k (T : Nat → Nat → Nat) (n : Nat → Nat) (st ws ys : Int32) {k : Nat} (hk : 0 ≠ k) (t : Nat → Nat) (m : Nat) : Chg T n st ws ys (upT T k t) (upT n k m) 1 ws ys := Or.inr ⟨rfl, Or.inl ⟨upT_n hk, upT_n hk, rfl, rfl⟩⟩
theorem TxC_n {T : Nat → Nat → Nat} {n : Nat → Nat} {t0s : Int32} {t0b : (Nat → Int32)} {t1s : Int32} {t1b : (Nat → Int32)} {t2s : Int32} {t2b : (Nat → Int32)} (hT : TxC T n t0s t0b t1s t1b t2s t2b) : ∀ k, k < 3 → n k ≤ cap k := by
  intro k hk
  rcases (show k = 0 ∨ k = 1 ∨ k = 2 by omega) with rfl | rfl | rfl
  · exact hT.2.1.1
  · exact hT.2.2.2.1.1
  · exact hT.2.2.2.2.2.1
theorem Te_isFull_ok {c m : Nat} (hc : c < 2147483648) (hm : m < 2147483648) : Te_isFull c (nI m) = some (if m < c then 0 else 1) := by
  unfold Te_isFull
  rw [kof]
  by_cases h : m < c
  · rw [if_pos h, if_pos (show nI m < nI c by rw [ltN hm hc]; exact h)]
  · rw [if_neg h, if_neg (show ¬ nI m < nI c by rw [ltN hm hc]; exact h)]
theorem Te_append_ok {c m : Nat} (hc : c < 2147483648) (h : m < c) (b : Nat → Int32) (x : Int32) : Te_append c (nI m) b x = some (nI (m + 1), upd b m x) := by
  unfold Te_append
  rw [if_neg (nI_pos (by omega)), kof, if_neg (show ¬ nI c ≤ nI m by rw [leN (by omega) (by omega)]; omega), wrN (by omega) hc, show nI m + 1 = nI (m + 1) from nI_1 _]
theorem Mo_type_ok {T : Nat → Nat → Nat} {n : Nat → Nat} {bytes typed : Nat → Int32} (hM : TxR T n bytes typed) (hall : ∀ k, k < 3 → n k ≤ cap k) {k : Nat} (hk : k < 3) {c : Nat} (hc : Mo_in (Int32.toInt64 (nI c)) 0 255 = some 1) : (n k = cap k ∧ Mo_type bytes typed (nI k) (nI c) = some (-4, bytes, typed)) ∨ (n k < cap k ∧ ∃ bytes' typed', Mo_type bytes typed (nI k) (nI c) = some (nI (n k + 1), bytes', typed') ∧ TxR (upT T k (upT (T k) (n k) c)) (upT n k (n k + 1)) bytes' typed') := by
  have hcap := cap_le k
  have h1 := hall k hk
  unfold Mo_type
  rw [(isText_k k hk).2, cb1_s, if_neg (show ¬ (1 : Int32) = 0 by decide), hc, cb1_s, if_neg (show ¬ (1 : Int32) = 0 by decide), rdN hk (by omega), Mo_room_ok k hk, cb1_s, (hM k hk).1]
  by_cases e : n k = cap k
  · exact Or.inl ⟨e, by rw [if_pos (show nI (n k) = nI (cap k) by rw [e])]⟩
  · refine Or.inr ⟨by omega, _, _, ?_, TxR_push hM hk (by omega) (fun k hk => Nat.le_trans (hall k hk) (cap_le k)) c⟩
    rw [if_neg (show ¬ nI (n k) = nI (cap k) by rw [eqN (by omega) (by omega)]; exact e), rdN hk (by omega), (hM k hk).1, show (80 : Int32) = nI 80 from rfl, mulN, nI_add, wrN (by omega) (by omega), rdN hk (by omega), (hM k hk).1, wrN hk (by omega), rdN hk (by omega), upd_s, show nI (n k) + 1 = nI (n k + 1) from nI_1 _]
theorem type_ok {T : Nat → Nat → Nat} {n : Nat → Nat} {t0s : Int32} {t0b : (Nat → Int32)} {t1s : Int32} {t1b : (Nat → Int32)} {t2s : Int32} {t2b : (Nat → Int32)} (hT : TxC T n t0s t0b t1s t1b t2s t2b) {bytes typed : Nat → Int32} (hM : TxR T n bytes typed) (st ws ys x1 x2 : Int32) : ∃ r st' t0s' t0b' t1s' t1b' t2s' t2b' ws' ys' bytes' typed' T' n', ND_type st t0s t0b t1s t1b t2s t2b ws ys x1 x2 = some (r, st', t0s', t0b', t1s', t1b', t2s', t2b', ws', ys') ∧ Mo_type bytes typed x1 x2 = some (r, bytes', typed') ∧ TxC T' n' t0s' t0b' t1s' t1b' t2s' t2b' ∧ TxR T' n' bytes' typed' ∧ Chg T n st ws ys T' n' st' ws' ys' := by
  have hall := TxC_n hT
  rcases text_cases x1 with ⟨k, hk, rfl⟩ | ⟨e1, e2⟩
  · rcases byte_cases x2 with ⟨c, hc, rfl, hMo⟩ | ⟨h2, hMo⟩
    · have hm := Mo_type_ok hM hall hk hMo
      unfold ND_type
      rw [(isText_k k hk).1, cb1_s, if_neg (show ¬ (1 : Int32) = 0 by decide), if_neg (nI_pos (by omega)), if_pos (show nI c ≤ 255 by rw [show (255 : Int32) = nI 255 from rfl, leN (by omega) (by omega)]; omega)]
      obtain ⟨a0, a1, a2, a3, a4, a5⟩ := hT
      subst a0 a2 a4
      have b1 := a1.1
      have b3 := a3.1
      have b5 := a5.1
      rcases (show k = 0 ∨ k = 1 ∨ k = 2 by omega) with rfl | rfl | rfl
      · rw [if_pos (show nI 0 = 0 from rfl), Te_isFull_ok (by omega) (by omega), cb1_s]
        rcases hm with ⟨h, e⟩ | ⟨h, bytes', typed', e, g⟩
        · rw [show cap 0 = 80 from rfl] at h
          rw [if_neg (show ¬ (if n 0 < 80 then (0 : Int32) else 1) = 0 by rw [if_neg (by omega)]; decide)]
          exact ⟨_, _, _, _, _, _, _, _, _, _, _, _, _, _, rfl, e, ⟨rfl, a1, rfl, a3, rfl, a5⟩, hM, Chg_same _ _ _ _ _⟩
        · rw [show cap 0 = 80 from rfl] at h
          rw [if_pos (show (if n 0 < 80 then (0 : Int32) else 1) = 0 from if_pos h), Te_append_ok (by omega) h, cb2_s]
          exact ⟨_, _, _, _, _, _, _, _, _, _, _, _, upT T 0 (upT (T 0) (n 0) c), upT n 0 (n 0 + 1), rfl, e, ⟨rfl, TX_push a1 h hc, rfl, a3, rfl, a5⟩, g, Chg_0 _ _ _ _ _ _ _⟩
      · rw [if_neg (show ¬ nI 1 = 0 by decide), if_pos (show nI 1 = 1 from rfl), Te_isFull_ok (by omega) (by omega), cb1_s]
        rcases hm with ⟨h, e⟩ | ⟨h, bytes', typed', e, g⟩
        · rw [show cap 1 = 40 from rfl] at h
          rw [if_neg (show ¬ (if n 1 < 40 then (0 : Int32) else 1) = 0 by rw [if_neg (by omega)]; decide)]
          exact ⟨_, _, _, _, _, _, _, _, _, _, _, _, _, _, rfl, e, ⟨rfl, a1, rfl, a3, rfl, a5⟩, hM, Chg_same _ _ _ _ _⟩
        · rw [show cap 1 = 40 from rfl] at h
          rw [if_pos (show (if n 1 < 40 then (0 : Int32) else 1) = 0 from if_pos h), Te_append_ok (by omega) h, cb2_s]
          exact ⟨_, _, _, _, _, _, _, _, _, _, _, _, upT T 1 (upT (T 1) (n 1) c), upT n 1 (n 1 + 1), rfl, e, ⟨rfl, a1, rfl, TX_push a3 h hc, rfl, a5⟩, g, Chg_k _ _ _ _ _ (by decide) _ _⟩
      · rw [if_neg (show ¬ nI 2 = 0 by decide), if_neg (show ¬ nI 2 = 1 by decide), if_pos (show nI 2 = 2 from rfl), Te_isFull_ok (by omega) (by omega), cb1_s]
        rcases hm with ⟨h, e⟩ | ⟨h, bytes', typed', e, g⟩
        · rw [show cap 2 = 6 from rfl] at h
          rw [if_neg (show ¬ (if n 2 < 6 then (0 : Int32) else 1) = 0 by rw [if_neg (by omega)]; decide)]
          exact ⟨_, _, _, _, _, _, _, _, _, _, _, _, _, _, rfl, e, ⟨rfl, a1, rfl, a3, rfl, a5⟩, hM, Chg_same _ _ _ _ _⟩
        · rw [show cap 2 = 6 from rfl] at h
          rw [if_pos (show (if n 2 < 6 then (0 : Int32) else 1) = 0 from if_pos h), Te_append_ok (by omega) h, cb2_s]
          exact ⟨_, _, _, _, _, _, _, _, _, _, _, _, upT T 2 (upT (T 2) (n 2) c), upT n 2 (n 2 + 1), rfl, e, ⟨rfl, a1, rfl, a3, rfl, TX_push a5 h hc⟩, g, Chg_k _ _ _ _ _ (by decide) _ _⟩
    · refine ⟨-2, _, _, _, _, _, _, _, _, _, _, _, _, _, ?_, ?_, hT, hM, Chg_same _ _ _ _ _⟩
      · unfold ND_type
        rw [(isText_k k hk).1, cb1_s, if_neg (show ¬ (1 : Int32) = 0 by decide)]
        rcases h2 with h2 | h2
        · rw [if_pos h2]
        · by_cases h3 : x2 < 0
          · rw [if_pos h3]
          · rw [if_neg h3, if_neg h2]
      · unfold Mo_type
        rw [(isText_k k hk).2, cb1_s, if_neg (show ¬ (1 : Int32) = 0 by decide), hMo, cb1_s, if_pos rfl]
  · refine ⟨-2, _, _, _, _, _, _, _, _, _, _, _, _, _, ?_, ?_, hT, hM, Chg_same _ _ _ _ _⟩
    · unfold ND_type; rw [e1, cb1_s, if_pos rfl]
    · unfold Mo_type; rw [e2, cb1_s, if_pos rfl]
