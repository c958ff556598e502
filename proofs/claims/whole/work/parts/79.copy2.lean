/-! sheets: copy agrees -/
theorem acpN {β : Type} {f g : Nat → Int32} {a b c : Nat} {k : (Nat → Int32) → Option β} (h1 : a + c ≤ 60) (h2 : b + c ≤ 60) : acp 60 60 f g (nI a) (nI b) (nI c) k = k (va_cpy f g a b c) := by
  unfold acp
  rw [nI_clamp (show a < 2 ^ 31 by omega), nI_clamp (show b < 2 ^ 31 by omega), nI_clamp (show c < 2 ^ 31 by omega), gd_s ⟨nI_pos (by omega), nI_pos (by omega), nI_pos (by omega), h1, h2⟩]
theorem cp_cases {forms sizes items : Nat → Int32} {k1 k3 : Nat} (hk1 : k1 < 4) (hk3 : k3 < 4) {f1 s1 f3 s3 : Int32} {i1 i3 : Nat → Int32} (p1 : SP forms sizes items k1 f1 s1 i1) (p3 : SP forms sizes items k3 f3 s3 i3) {F : Nat} (hF : 100 ≤ F) (fd : Int32) (moved : Nat → Int32) (x2 x4 x5 : Int32) :
    ((∀ (β : Type) (b1 b2 b4 ok : Option β), cp1 f1 s1 f3 s3 x2 x4 x5 b1 b2 b4 ok = b1) ∧ Mo_copy F forms sizes fd items moved (nI k1) x2 (nI k3) x4 x5 = some ((-10 : Int32) - 1, 1, items, moved)) ∨
    ((∀ (β : Type) (b1 b2 b4 ok : Option β), cp1 f1 s1 f3 s3 x2 x4 x5 b1 b2 b4 ok = b2) ∧ Mo_copy F forms sizes fd items moved (nI k1) x2 (nI k3) x4 x5 = some ((-10 : Int32) - 2, 2, items, moved)) ∨
    ((∀ (β : Type) (b1 b2 b4 ok : Option β), cp1 f1 s1 f3 s3 x2 x4 x5 b1 b2 b4 ok = b4) ∧ Mo_copy F forms sizes fd items moved (nI k1) x2 (nI k3) x4 x5 = some ((-10 : Int32) - 4, 4, items, moved)) ∨
    ((∀ (β : Type) (b1 b2 b4 ok : Option β), cp1 f1 s1 f3 s3 x2 x4 x5 b1 b2 b4 ok = ok) ∧ ∃ i' items' moved', (cb1 (Sh_holds s1 x2 x5) (fun v4 => if v4 = 0 then some i3 else cb1 (Sh_holds s3 x4 x5) (fun v14 => if v14 = 0 then some i3 else acp 60 60 i1 i3 x2 x4 x5 (fun z => some z)))) = some i' ∧ Mo_copy F forms sizes fd items moved (nI k1) x2 (nI k3) x4 x5 = some (1, fd, items', moved') ∧ SP forms sizes items' k3 f3 s3 i' ∧ ∀ k, k ≠ k3 → ∀ j, j < 60 → items' (60 * k + j) = items (60 * k + j)) := by
  unfold cp1 Mo_copy Mo_copy_b35 Mo_copy_b111
  rw [(isSheet_k k1 hk1).2, cb1_s, if_neg (show ¬ (1 : Int32) = 0 by decide), (isSheet_k k3 hk3).2, cb1_s, if_neg (show ¬ (1 : Int32) = 0 by decide), rdN hk1 (by omega)]
  rcases p1 with ⟨q1, q2⟩ | ⟨a, m, q1, q2, q3, q4, q5, q6, q7⟩
  · rw [q2, if_pos (show (-1 : Int32) < 0 by decide), q1]
    exact Or.inl ⟨fun β b1 b2 b4 ok => rfl, rfl⟩
  · rw [q5, if_neg (nI_pos (by omega)), rdN hk3 (by omega), rdN hk1 (by omega), rdN hk3 (by omega), q5, q4]
    rcases p3 with ⟨t1, t2⟩ | ⟨a3, m3, t1, t2, t3, t4, t5, t6, t7⟩
    · rw [t2, if_neg (show ¬ (0 : Int32) ≤ -1 by decide), t1]
      refine Or.inl ⟨fun β b1 b2 b4 ok => ?_, rfl⟩
      rw [Sh_isLost_n q2]; rfl
    · rw [t5, if_pos (show (0 : Int32) ≤ nI a3 from nI_pos' (by omega)), t4, q3, t3, Sh_isLost_n q2, Sh_isLost_n t2]
      by_cases e : nI a = nI a3
      · rw [if_pos e]
        have cls : ∀ (β : Type) (b1 b2 b4 ok : Option β), (cb1 (some 0) (fun v35 => (if (v35 : Int32) = 0 then cb1 (some 0) (fun v43 => (if (v43 : Int32) = 0 then cb1 (Sh_form (nI a)) (fun v57 => cb1 (Sh_form (nI a3)) (fun v62 => (if (v57 : Int32) = v62 then cb1 (Sh_holds (nI m) x2 x5) (fun v79 => (if (v79 : Int32) = 0 then b2 else cb1 (Sh_holds (nI m3) x4 x5) (fun v91 => (if (v91 : Int32) = 0 then b2 else ok)))) else b4))) else b1)) else b1))) = cb1 (Sh_holds (nI m) x2 x5) (fun v79 => (if (v79 : Int32) = 0 then b2 else cb1 (Sh_holds (nI m3) x4 x5) (fun v91 => (if (v91 : Int32) = 0 then b2 else ok)))) := fun β b1 b2 b4 ok => by
          rw [cb1_s, if_pos rfl, cb1_s, if_pos rfl]
          unfold Sh_form
          rw [cb1_s, cb1_s, if_pos e]
        simp only [cls]
        by_cases h2 : x2 < 0
        · rw [if_pos h2, show Sh_holds (nI m) x2 x5 = some 0 by unfold Sh_holds; rw [if_pos h2]]
          exact Or.inr (Or.inl ⟨fun β b1 b2 b4 ok => rfl, rfl⟩)
        · rw [if_neg h2]
          by_cases h5 : x5 < 0
          · rw [show Sh_holds (nI m) x2 x5 = some 0 by unfold Sh_holds; rw [if_neg h2, if_pos h5]]
            by_cases h4 : x4 < 0
            · rw [if_pos h4]
              exact Or.inr (Or.inl ⟨fun β b1 b2 b4 ok => rfl, rfl⟩)
            · rw [if_neg h4, if_pos h5]
              exact Or.inr (Or.inl ⟨fun β b1 b2 b4 ok => rfl, rfl⟩)
          · obtain ⟨j1, hj1, rfl⟩ := nI_of h2
            obtain ⟨c, hc, rfl⟩ := nI_of h5
            rw [if_neg h5, rdN hk1 (by omega), rdN hk3 (by omega), q6, t6]
            by_cases o1 : m < j1 + c
            · rw [show Sh_holds (nI m) (nI j1) (nI c) = some 0 by unfold Sh_holds; rw [if_neg h2, if_neg h5, if_pos (by rw [sum64 hj1 hc (by omega)]; exact o1)], if_pos (show 0 < lg_cmp (Int32.toInt64 (nI j1) + Int32.toInt64 (nI c)) (Int32.toInt64 (nI m)) by rw [sum64 hj1 hc (by omega)]; exact o1)]
              refine Or.inr (Or.inl ⟨fun β b1 b2 b4 ok => rfl, ?_⟩)
              by_cases h4 : x4 < 0
              · rw [if_pos h4]; rfl
              · rw [if_neg h4]; rfl
            · rw [show Sh_holds (nI m) (nI j1) (nI c) = some 1 by unfold Sh_holds; rw [if_neg h2, if_neg h5, if_neg (by rw [sum64 hj1 hc (by omega)]; exact o1)], if_neg (show ¬ 0 < lg_cmp (Int32.toInt64 (nI j1) + Int32.toInt64 (nI c)) (Int32.toInt64 (nI m)) by rw [sum64 hj1 hc (by omega)]; exact o1)]
              by_cases h4 : x4 < 0
              · rw [if_pos h4, show Sh_holds (nI m3) x4 (nI c) = some 0 by unfold Sh_holds; rw [if_pos h4]]
                exact Or.inr (Or.inl ⟨fun β b1 b2 b4 ok => rfl, rfl⟩)
              · obtain ⟨j3, hj3, rfl⟩ := nI_of h4
                rw [if_neg h4]
                by_cases o3 : m3 < j3 + c
                · rw [show Sh_holds (nI m3) (nI j3) (nI c) = some 0 by unfold Sh_holds; rw [if_neg h4, if_neg h5, if_pos (by rw [sum64 hj3 hc (by omega)]; exact o3)], if_neg (show ¬ lg_cmp (Int32.toInt64 (nI j3) + Int32.toInt64 (nI c)) (Int32.toInt64 (nI m3)) ≤ 0 by rw [Int32.not_le, sum64 hj3 hc (by omega)]; exact o3)]
                  exact Or.inr (Or.inl ⟨fun β b1 b2 b4 ok => rfl, rfl⟩)
                · rw [show Sh_holds (nI m3) (nI j3) (nI c) = some 1 by unfold Sh_holds; rw [if_neg h4, if_neg h5, if_neg (by rw [sum64 hj3 hc (by omega)]; exact o3)], if_pos (show lg_cmp (Int32.toInt64 (nI j3) + Int32.toInt64 (nI c)) (Int32.toInt64 (nI m3)) ≤ 0 by rw [← Int32.not_lt, sum64 hj3 hc (by omega)]; exact o3)]
                  obtain ⟨mv, f1, f2⟩ := Mo_copy_in F forms sizes (nI j1) (nI j3) fd (k3 := k3) (j3 := j3) rfl hk1 (show j1 + c ≤ 60 by omega) items c 0 F moved (by omega) (by omega) (fun p hp => absurd hp (Nat.not_lt_zero p))
                  obtain ⟨it, g1, g2, g3⟩ := Mo_copy_out F forms sizes (nI j1) (nI j3) fd (k1 := k1) rfl hk3 (show j3 + c ≤ 60 by omega) mv c 0 F items (by omega) (by omega) (fun p hp => absurd hp (Nat.not_lt_zero p))
                  refine Or.inr (Or.inr (Or.inr ⟨fun β b1 b2 b4 ok => rfl, va_cpy i1 i3 j1 j3 c, it, mv, ?_, ?_, Or.inr ⟨a3, m3, t1, t2, rfl, rfl, t5, t6, fun q hq => ?_⟩, fun k hk j hj => g3 _ (by omega)⟩))
                  · rw [cb1_s, if_neg (show ¬ (1 : Int32) = 0 by decide), cb1_s, if_neg (show ¬ (1 : Int32) = 0 by decide), acpN (by omega) (by omega)]
                  · rw [n0, f1]; unfold Mo_copy_b154; rw [n0, g1]
                  · unfold va_cpy
                    by_cases e5 : j3 ≤ q ∧ q < j3 + c
                    · rw [if_pos e5, q7 _ (by omega)]
                      have := g2 (q - j3) (by omega)
                      rw [show 60 * k3 + j3 + (q - j3) = 60 * k3 + q by omega, f2 _ (by omega)] at this
                      rw [this, show 60 * k1 + (j1 + (q - j3)) = 60 * k1 + j1 + (q - j3) by omega]
                    · rw [if_neg e5, t7 q hq, g3 _ (by omega)]
      · rw [if_neg e]
        refine Or.inr (Or.inr (Or.inl ⟨fun β b1 b2 b4 ok => ?_, rfl⟩))
        rw [cb1_s, if_pos rfl, cb1_s, if_pos rfl]
        unfold Sh_form
        rw [cb1_s, cb1_s, if_neg e]
theorem copy_ok {F : Nat} (hF : 100 ≤ F) {h0f : Int32} {h0s : Int32} {h0i : (Nat → Int32)} {h1f : Int32} {h1s : Int32} {h1i : (Nat → Int32)} {h2f : Int32} {h2s : Int32} {h2i : (Nat → Int32)} {h3f : Int32} {h3s : Int32} {h3i : (Nat → Int32)} {forms sizes items : Nat → Int32} (h : ShP h0f h0s h0i h1f h1s h1i h2f h2s h2i h3f h3s h3i forms sizes items) (moved : Nat → Int32) (fd x1 x2 x3 x4 x5 : Int32) : ∃ r fd' h0i' h1i' h2i' h3i' items' moved', ND_copy h0f h0s h1f h1s h2f h2s h3f h3s fd h0i h1i h2i h3i x1 x2 x3 x4 x5 = some (r, fd', h0i', h1i', h2i', h3i') ∧ Mo_copy F forms sizes fd items moved x1 x2 x3 x4 x5 = some (r, fd', items', moved') ∧ ShP h0f h0s h0i' h1f h1s h1i' h2f h2s h2i' h3f h3s h3i' forms sizes items' := by
  have h' := h
  obtain ⟨p0, p1, p2, p3⟩ := h
  rcases sheet_cases x1 with ⟨k1, hk1, rfl⟩ | ⟨e1, e2⟩
  · rcases sheet_cases x3 with ⟨k3, hk3, rfl⟩ | ⟨e1, e2⟩
    · rcases (show k1 = 0 ∨ k1 = 1 ∨ k1 = 2 ∨ k1 = 3 by omega) with rfl | rfl | rfl | rfl
      · rcases (show k3 = 0 ∨ k3 = 1 ∨ k3 = 2 ∨ k3 = 3 by omega) with rfl | rfl | rfl | rfl
        · rw [copy_00 h0f h0s h0i h1f h1s h1i h2f h2s h2i h3f h3s h3i fd x2 x4 x5]
          rcases cp_cases hk1 hk3 p0 p0 hF fd moved x2 x4 x5 with ⟨c1, c2⟩ | ⟨c1, c2⟩ | ⟨c1, c2⟩ | ⟨c1, i', items', moved', w1, w2, w3, w4⟩
          · rw [c1, c2]; exact ⟨_, _, _, _, _, _, _, _, rfl, rfl, h'⟩
          · rw [c1, c2]; exact ⟨_, _, _, _, _, _, _, _, rfl, rfl, h'⟩
          · rw [c1, c2]; exact ⟨_, _, _, _, _, _, _, _, rfl, rfl, h'⟩
          · rw [c1, w2, show Sh_take_same h0s h0i x2 x4 x5 = some i' from w1]
            exact ⟨_, _, _, _, _, _, _, _, rfl, rfl, w3, SP_ext p1 rfl rfl (w4 1 (by decide)), SP_ext p2 rfl rfl (w4 2 (by decide)), SP_ext p3 rfl rfl (w4 3 (by decide))⟩
        · rw [copy_01 h0f h0s h0i h1f h1s h1i h2f h2s h2i h3f h3s h3i fd x2 x4 x5]
          rcases cp_cases hk1 hk3 p0 p1 hF fd moved x2 x4 x5 with ⟨c1, c2⟩ | ⟨c1, c2⟩ | ⟨c1, c2⟩ | ⟨c1, i', items', moved', w1, w2, w3, w4⟩
          · rw [c1, c2]; exact ⟨_, _, _, _, _, _, _, _, rfl, rfl, h'⟩
          · rw [c1, c2]; exact ⟨_, _, _, _, _, _, _, _, rfl, rfl, h'⟩
          · rw [c1, c2]; exact ⟨_, _, _, _, _, _, _, _, rfl, rfl, h'⟩
          · rw [c1, w2, show Sh_take h1s h0s h0i h1i x2 x4 x5 = some i' from w1]
            exact ⟨_, _, _, _, _, _, _, _, rfl, rfl, SP_ext p0 rfl rfl (w4 0 (by decide)), w3, SP_ext p2 rfl rfl (w4 2 (by decide)), SP_ext p3 rfl rfl (w4 3 (by decide))⟩
        · rw [copy_02 h0f h0s h0i h1f h1s h1i h2f h2s h2i h3f h3s h3i fd x2 x4 x5]
          rcases cp_cases hk1 hk3 p0 p2 hF fd moved x2 x4 x5 with ⟨c1, c2⟩ | ⟨c1, c2⟩ | ⟨c1, c2⟩ | ⟨c1, i', items', moved', w1, w2, w3, w4⟩
          · rw [c1, c2]; exact ⟨_, _, _, _, _, _, _, _, rfl, rfl, h'⟩
          · rw [c1, c2]; exact ⟨_, _, _, _, _, _, _, _, rfl, rfl, h'⟩
          · rw [c1, c2]; exact ⟨_, _, _, _, _, _, _, _, rfl, rfl, h'⟩
          · rw [c1, w2, show Sh_take h2s h0s h0i h2i x2 x4 x5 = some i' from w1]
            exact ⟨_, _, _, _, _, _, _, _, rfl, rfl, SP_ext p0 rfl rfl (w4 0 (by decide)), SP_ext p1 rfl rfl (w4 1 (by decide)), w3, SP_ext p3 rfl rfl (w4 3 (by decide))⟩
        · rw [copy_03 h0f h0s h0i h1f h1s h1i h2f h2s h2i h3f h3s h3i fd x2 x4 x5]
          rcases cp_cases hk1 hk3 p0 p3 hF fd moved x2 x4 x5 with ⟨c1, c2⟩ | ⟨c1, c2⟩ | ⟨c1, c2⟩ | ⟨c1, i', items', moved', w1, w2, w3, w4⟩
          · rw [c1, c2]; exact ⟨_, _, _, _, _, _, _, _, rfl, rfl, h'⟩
          · rw [c1, c2]; exact ⟨_, _, _, _, _, _, _, _, rfl, rfl, h'⟩
          · rw [c1, c2]; exact ⟨_, _, _, _, _, _, _, _, rfl, rfl, h'⟩
          · rw [c1, w2, show Sh_take h3s h0s h0i h3i x2 x4 x5 = some i' from w1]
            exact ⟨_, _, _, _, _, _, _, _, rfl, rfl, SP_ext p0 rfl rfl (w4 0 (by decide)), SP_ext p1 rfl rfl (w4 1 (by decide)), SP_ext p2 rfl rfl (w4 2 (by decide)), w3⟩
      · rcases (show k3 = 0 ∨ k3 = 1 ∨ k3 = 2 ∨ k3 = 3 by omega) with rfl | rfl | rfl | rfl
        · rw [copy_10 h0f h0s h0i h1f h1s h1i h2f h2s h2i h3f h3s h3i fd x2 x4 x5]
          rcases cp_cases hk1 hk3 p1 p0 hF fd moved x2 x4 x5 with ⟨c1, c2⟩ | ⟨c1, c2⟩ | ⟨c1, c2⟩ | ⟨c1, i', items', moved', w1, w2, w3, w4⟩
          · rw [c1, c2]; exact ⟨_, _, _, _, _, _, _, _, rfl, rfl, h'⟩
          · rw [c1, c2]; exact ⟨_, _, _, _, _, _, _, _, rfl, rfl, h'⟩
          · rw [c1, c2]; exact ⟨_, _, _, _, _, _, _, _, rfl, rfl, h'⟩
          · rw [c1, w2, show Sh_take h0s h1s h1i h0i x2 x4 x5 = some i' from w1]
            exact ⟨_, _, _, _, _, _, _, _, rfl, rfl, w3, SP_ext p1 rfl rfl (w4 1 (by decide)), SP_ext p2 rfl rfl (w4 2 (by decide)), SP_ext p3 rfl rfl (w4 3 (by decide))⟩
        · rw [copy_11 h0f h0s h0i h1f h1s h1i h2f h2s h2i h3f h3s h3i fd x2 x4 x5]
          rcases cp_cases hk1 hk3 p1 p1 hF fd moved x2 x4 x5 with ⟨c1, c2⟩ | ⟨c1, c2⟩ | ⟨c1, c2⟩ | ⟨c1, i', items', moved', w1, w2, w3, w4⟩
          · rw [c1, c2]; exact ⟨_, _, _, _, _, _, _, _, rfl, rfl, h'⟩
          · rw [c1, c2]; exact ⟨_, _, _, _, _, _, _, _, rfl, rfl, h'⟩
          · rw [c1, c2]; exact ⟨_, _, _, _, _, _, _, _, rfl, rfl, h'⟩
          · rw [c1, w2, show Sh_take_same h1s h1i x2 x4 x5 = some i' from w1]
            exact ⟨_, _, _, _, _, _, _, _, rfl, rfl, SP_ext p0 rfl rfl (w4 0 (by decide)), w3, SP_ext p2 rfl rfl (w4 2 (by decide)), SP_ext p3 rfl rfl (w4 3 (by decide))⟩
        · rw [copy_12 h0f h0s h0i h1f h1s h1i h2f h2s h2i h3f h3s h3i fd x2 x4 x5]
          rcases cp_cases hk1 hk3 p1 p2 hF fd moved x2 x4 x5 with ⟨c1, c2⟩ | ⟨c1, c2⟩ | ⟨c1, c2⟩ | ⟨c1, i', items', moved', w1, w2, w3, w4⟩
          · rw [c1, c2]; exact ⟨_, _, _, _, _, _, _, _, rfl, rfl, h'⟩
          · rw [c1, c2]; exact ⟨_, _, _, _, _, _, _, _, rfl, rfl, h'⟩
          · rw [c1, c2]; exact ⟨_, _, _, _, _, _, _, _, rfl, rfl, h'⟩
          · rw [c1, w2, show Sh_take h2s h1s h1i h2i x2 x4 x5 = some i' from w1]
            exact ⟨_, _, _, _, _, _, _, _, rfl, rfl, SP_ext p0 rfl rfl (w4 0 (by decide)), SP_ext p1 rfl rfl (w4 1 (by decide)), w3, SP_ext p3 rfl rfl (w4 3 (by decide))⟩
        · rw [copy_13 h0f h0s h0i h1f h1s h1i h2f h2s h2i h3f h3s h3i fd x2 x4 x5]
          rcases cp_cases hk1 hk3 p1 p3 hF fd moved x2 x4 x5 with ⟨c1, c2⟩ | ⟨c1, c2⟩ | ⟨c1, c2⟩ | ⟨c1, i', items', moved', w1, w2, w3, w4⟩
          · rw [c1, c2]; exact ⟨_, _, _, _, _, _, _, _, rfl, rfl, h'⟩
          · rw [c1, c2]; exact ⟨_, _, _, _, _, _, _, _, rfl, rfl, h'⟩
          · rw [c1, c2]; exact ⟨_, _, _, _, _, _, _, _, rfl, rfl, h'⟩
          · rw [c1, w2, show Sh_take h3s h1s h1i h3i x2 x4 x5 = some i' from w1]
            exact ⟨_, _, _, _, _, _, _, _, rfl, rfl, SP_ext p0 rfl rfl (w4 0 (by decide)), SP_ext p1 rfl rfl (w4 1 (by decide)), SP_ext p2 rfl rfl (w4 2 (by decide)), w3⟩
      · rcases (show k3 = 0 ∨ k3 = 1 ∨ k3 = 2 ∨ k3 = 3 by omega) with rfl | rfl | rfl | rfl
        · rw [copy_20 h0f h0s h0i h1f h1s h1i h2f h2s h2i h3f h3s h3i fd x2 x4 x5]
          rcases cp_cases hk1 hk3 p2 p0 hF fd moved x2 x4 x5 with ⟨c1, c2⟩ | ⟨c1, c2⟩ | ⟨c1, c2⟩ | ⟨c1, i', items', moved', w1, w2, w3, w4⟩
          · rw [c1, c2]; exact ⟨_, _, _, _, _, _, _, _, rfl, rfl, h'⟩
          · rw [c1, c2]; exact ⟨_, _, _, _, _, _, _, _, rfl, rfl, h'⟩
          · rw [c1, c2]; exact ⟨_, _, _, _, _, _, _, _, rfl, rfl, h'⟩
          · rw [c1, w2, show Sh_take h0s h2s h2i h0i x2 x4 x5 = some i' from w1]
            exact ⟨_, _, _, _, _, _, _, _, rfl, rfl, w3, SP_ext p1 rfl rfl (w4 1 (by decide)), SP_ext p2 rfl rfl (w4 2 (by decide)), SP_ext p3 rfl rfl (w4 3 (by decide))⟩
        · rw [copy_21 h0f h0s h0i h1f h1s h1i h2f h2s h2i h3f h3s h3i fd x2 x4 x5]
          rcases cp_cases hk1 hk3 p2 p1 hF fd moved x2 x4 x5 with ⟨c1, c2⟩ | ⟨c1, c2⟩ | ⟨c1, c2⟩ | ⟨c1, i', items', moved', w1, w2, w3, w4⟩
          · rw [c1, c2]; exact ⟨_, _, _, _, _, _, _, _, rfl, rfl, h'⟩
          · rw [c1, c2]; exact ⟨_, _, _, _, _, _, _, _, rfl, rfl, h'⟩
          · rw [c1, c2]; exact ⟨_, _, _, _, _, _, _, _, rfl, rfl, h'⟩
          · rw [c1, w2, show Sh_take h1s h2s h2i h1i x2 x4 x5 = some i' from w1]
            exact ⟨_, _, _, _, _, _, _, _, rfl, rfl, SP_ext p0 rfl rfl (w4 0 (by decide)), w3, SP_ext p2 rfl rfl (w4 2 (by decide)), SP_ext p3 rfl rfl (w4 3 (by decide))⟩
        · rw [copy_22 h0f h0s h0i h1f h1s h1i h2f h2s h2i h3f h3s h3i fd x2 x4 x5]
          rcases cp_cases hk1 hk3 p2 p2 hF fd moved x2 x4 x5 with ⟨c1, c2⟩ | ⟨c1, c2⟩ | ⟨c1, c2⟩ | ⟨c1, i', items', moved', w1, w2, w3, w4⟩
          · rw [c1, c2]; exact ⟨_, _, _, _, _, _, _, _, rfl, rfl, h'⟩
          · rw [c1, c2]; exact ⟨_, _, _, _, _, _, _, _, rfl, rfl, h'⟩
          · rw [c1, c2]; exact ⟨_, _, _, _, _, _, _, _, rfl, rfl, h'⟩
          · rw [c1, w2, show Sh_take_same h2s h2i x2 x4 x5 = some i' from w1]
            exact ⟨_, _, _, _, _, _, _, _, rfl, rfl, SP_ext p0 rfl rfl (w4 0 (by decide)), SP_ext p1 rfl rfl (w4 1 (by decide)), w3, SP_ext p3 rfl rfl (w4 3 (by decide))⟩
        · rw [copy_23 h0f h0s h0i h1f h1s h1i h2f h2s h2i h3f h3s h3i fd x2 x4 x5]
          rcases cp_cases hk1 hk3 p2 p3 hF fd moved x2 x4 x5 with ⟨c1, c2⟩ | ⟨c1, c2⟩ | ⟨c1, c2⟩ | ⟨c1, i', items', moved', w1, w2, w3, w4⟩
          · rw [c1, c2]; exact ⟨_, _, _, _, _, _, _, _, rfl, rfl, h'⟩
          · rw [c1, c2]; exact ⟨_, _, _, _, _, _, _, _, rfl, rfl, h'⟩
          · rw [c1, c2]; exact ⟨_, _, _, _, _, _, _, _, rfl, rfl, h'⟩
          · rw [c1, w2, show Sh_take h3s h2s h2i h3i x2 x4 x5 = some i' from w1]
            exact ⟨_, _, _, _, _, _, _, _, rfl, rfl, SP_ext p0 rfl rfl (w4 0 (by decide)), SP_ext p1 rfl rfl (w4 1 (by decide)), SP_ext p2 rfl rfl (w4 2 (by decide)), w3⟩
      · rcases (show k3 = 0 ∨ k3 = 1 ∨ k3 = 2 ∨ k3 = 3 by omega) with rfl | rfl | rfl | rfl
        · rw [copy_30 h0f h0s h0i h1f h1s h1i h2f h2s h2i h3f h3s h3i fd x2 x4 x5]
          rcases cp_cases hk1 hk3 p3 p0 hF fd moved x2 x4 x5 with ⟨c1, c2⟩ | ⟨c1, c2⟩ | ⟨c1, c2⟩ | ⟨c1, i', items', moved', w1, w2, w3, w4⟩
          · rw [c1, c2]; exact ⟨_, _, _, _, _, _, _, _, rfl, rfl, h'⟩
          · rw [c1, c2]; exact ⟨_, _, _, _, _, _, _, _, rfl, rfl, h'⟩
          · rw [c1, c2]; exact ⟨_, _, _, _, _, _, _, _, rfl, rfl, h'⟩
          · rw [c1, w2, show Sh_take h0s h3s h3i h0i x2 x4 x5 = some i' from w1]
            exact ⟨_, _, _, _, _, _, _, _, rfl, rfl, w3, SP_ext p1 rfl rfl (w4 1 (by decide)), SP_ext p2 rfl rfl (w4 2 (by decide)), SP_ext p3 rfl rfl (w4 3 (by decide))⟩
        · rw [copy_31 h0f h0s h0i h1f h1s h1i h2f h2s h2i h3f h3s h3i fd x2 x4 x5]
          rcases cp_cases hk1 hk3 p3 p1 hF fd moved x2 x4 x5 with ⟨c1, c2⟩ | ⟨c1, c2⟩ | ⟨c1, c2⟩ | ⟨c1, i', items', moved', w1, w2, w3, w4⟩
          · rw [c1, c2]; exact ⟨_, _, _, _, _, _, _, _, rfl, rfl, h'⟩
          · rw [c1, c2]; exact ⟨_, _, _, _, _, _, _, _, rfl, rfl, h'⟩
          · rw [c1, c2]; exact ⟨_, _, _, _, _, _, _, _, rfl, rfl, h'⟩
          · rw [c1, w2, show Sh_take h1s h3s h3i h1i x2 x4 x5 = some i' from w1]
            exact ⟨_, _, _, _, _, _, _, _, rfl, rfl, SP_ext p0 rfl rfl (w4 0 (by decide)), w3, SP_ext p2 rfl rfl (w4 2 (by decide)), SP_ext p3 rfl rfl (w4 3 (by decide))⟩
        · rw [copy_32 h0f h0s h0i h1f h1s h1i h2f h2s h2i h3f h3s h3i fd x2 x4 x5]
          rcases cp_cases hk1 hk3 p3 p2 hF fd moved x2 x4 x5 with ⟨c1, c2⟩ | ⟨c1, c2⟩ | ⟨c1, c2⟩ | ⟨c1, i', items', moved', w1, w2, w3, w4⟩
          · rw [c1, c2]; exact ⟨_, _, _, _, _, _, _, _, rfl, rfl, h'⟩
          · rw [c1, c2]; exact ⟨_, _, _, _, _, _, _, _, rfl, rfl, h'⟩
          · rw [c1, c2]; exact ⟨_, _, _, _, _, _, _, _, rfl, rfl, h'⟩
          · rw [c1, w2, show Sh_take h2s h3s h3i h2i x2 x4 x5 = some i' from w1]
            exact ⟨_, _, _, _, _, _, _, _, rfl, rfl, SP_ext p0 rfl rfl (w4 0 (by decide)), SP_ext p1 rfl rfl (w4 1 (by decide)), w3, SP_ext p3 rfl rfl (w4 3 (by decide))⟩
        · rw [copy_33 h0f h0s h0i h1f h1s h1i h2f h2s h2i h3f h3s h3i fd x2 x4 x5]
          rcases cp_cases hk1 hk3 p3 p3 hF fd moved x2 x4 x5 with ⟨c1, c2⟩ | ⟨c1, c2⟩ | ⟨c1, c2⟩ | ⟨c1, i', items', moved', w1, w2, w3, w4⟩
          · rw [c1, c2]; exact ⟨_, _, _, _, _, _, _, _, rfl, rfl, h'⟩
          · rw [c1, c2]; exact ⟨_, _, _, _, _, _, _, _, rfl, rfl, h'⟩
          · rw [c1, c2]; exact ⟨_, _, _, _, _, _, _, _, rfl, rfl, h'⟩
          · rw [c1, w2, show Sh_take_same h3s h3i x2 x4 x5 = some i' from w1]
            exact ⟨_, _, _, _, _, _, _, _, rfl, rfl, SP_ext p0 rfl rfl (w4 0 (by decide)), SP_ext p1 rfl rfl (w4 1 (by decide)), SP_ext p2 rfl rfl (w4 2 (by decide)), w3⟩
    · unfold ND_copy Mo_copy
      rw [(isSheet_k k1 hk1).1, (isSheet_k k1 hk1).2, cb1_s, cb1_s, if_neg (show ¬ (1 : Int32) = 0 by decide), if_neg (show ¬ (1 : Int32) = 0 by decide), e1, e2, cb1_s, cb1_s, if_pos rfl, if_pos rfl]
      exact ⟨_, _, _, _, _, _, _, _, rfl, rfl, h'⟩
  · unfold ND_copy Mo_copy
    rw [e1, e2, cb1_s, cb1_s, if_pos rfl, if_pos rfl]
    exact ⟨_, _, _, _, _, _, _, _, rfl, rfl, h'⟩
