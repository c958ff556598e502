/-! sheets: copy -/
def cp1 {β : Type} (f1 s1 f3 s3 x2 x4 x5 : Int32) (b1 b2 b4 ok : Option β) : Option β := cb1 (Sh_isLost s1) (fun v35 => (if (v35 : Int32) = 0 then cb1 (Sh_isLost s3) (fun v43 => (if (v43 : Int32) = 0 then cb1 (Sh_form f1) (fun v57 => cb1 (Sh_form f3) (fun v62 => (if (v57 : Int32) = v62 then cb1 (Sh_holds s1 x2 x5) (fun v79 => (if (v79 : Int32) = 0 then b2 else cb1 (Sh_holds s3 x4 x5) (fun v91 => (if (v91 : Int32) = 0 then b2 else ok)))) else b4))) else b1)) else b1))
theorem Mo_copy_in (F : Nat) (forms sizes : Nat → Int32) (x2 x4 fd : Int32) {k1 k3 j1 j3 c : Nat} (hx2 : x2 = nI j1) (hk1 : k1 < 4) (h1 : j1 + c ≤ 60) (items : Nat → Int32) : ∀ (d q f : Nat) (moved : Nat → Int32), q + d = c → d < f → (∀ p, p < q → moved p = items (60 * k1 + j1 + p)) → ∃ moved', Mo_copy_l120 F forms sizes (nI k1) x2 (nI k3) x4 (nI c) f (nI q) fd items moved = Mo_copy_b154 F forms sizes (nI k1) x2 (nI k3) x4 (nI c) fd items moved' ∧ ∀ p, p < c → moved' p = items (60 * k1 + j1 + p) := by
  intro d
  induction d with
  | zero =>
    intro q f moved hq hf h
    obtain ⟨f, rfl⟩ : ∃ f', f = f' + 1 := ⟨f - 1, by omega⟩
    show ∃ moved', Mo_copy_b120 F forms sizes (nI k1) x2 (nI k3) x4 (nI c) _ (nI q) fd items moved = _ ∧ _
    unfold Mo_copy_b120
    rw [if_pos (show nI c ≤ nI q by rw [leN (by omega) (by omega)]; omega)]
    exact ⟨moved, rfl, fun p hp => h p (by omega)⟩
  | succ d ih =>
    intro q f moved hq hf h
    obtain ⟨f, rfl⟩ : ∃ f', f = f' + 1 := ⟨f - 1, by omega⟩
    show ∃ moved', Mo_copy_b120 F forms sizes (nI k1) x2 (nI k3) x4 (nI c) (Mo_copy_l120 F forms sizes (nI k1) x2 (nI k3) x4 (nI c) f) (nI q) fd items moved = _ ∧ _
    unfold Mo_copy_b120
    rw [if_neg (show ¬ nI c ≤ nI q by rw [leN (by omega) (by omega)]; omega), hx2, show (60 : Int32) = nI 60 from rfl, mulN, nI_add, nI_add, rdN (by omega) (by omega), wrN (by omega) (by omega), show nI q + 1 = nI (q + 1) from nI_1 _, ← hx2]
    exact ih (q + 1) f _ (by omega) (by omega) (fun p hp => by
      by_cases e : p = q
      · subst e; rw [upd_s]
      · rw [upd_n e]; exact h p (by omega))
theorem Mo_copy_out (F : Nat) (forms sizes : Nat → Int32) (x2 x4 fd : Int32) {k1 k3 j3 c : Nat} (hx4 : x4 = nI j3) (hk3 : k3 < 4) (h3 : j3 + c ≤ 60) (moved : Nat → Int32) : ∀ (d q f : Nat) (items : Nat → Int32), q + d = c → d < f → (∀ p, p < q → items (60 * k3 + j3 + p) = moved p) → ∃ items', Mo_copy_l157 F forms sizes (nI k1) x2 (nI k3) x4 (nI c) f (nI q) fd items moved = some (1, fd, items', moved) ∧ (∀ p, p < c → items' (60 * k3 + j3 + p) = moved p) ∧ ∀ p, (p < 60 * k3 + j3 ∨ 60 * k3 + j3 + c ≤ p) → items' p = items p := by
  intro d
  induction d with
  | zero =>
    intro q f items hq hf h
    obtain ⟨f, rfl⟩ : ∃ f', f = f' + 1 := ⟨f - 1, by omega⟩
    show ∃ items', Mo_copy_b157 F forms sizes (nI k1) x2 (nI k3) x4 (nI c) _ (nI q) fd items moved = _ ∧ _
    unfold Mo_copy_b157
    rw [if_pos (show nI c ≤ nI q by rw [leN (by omega) (by omega)]; omega)]
    exact ⟨items, rfl, fun p hp => h p (by omega), fun _ _ => rfl⟩
  | succ d ih =>
    intro q f items hq hf h
    obtain ⟨f, rfl⟩ : ∃ f', f = f' + 1 := ⟨f - 1, by omega⟩
    show ∃ items', Mo_copy_b157 F forms sizes (nI k1) x2 (nI k3) x4 (nI c) (Mo_copy_l157 F forms sizes (nI k1) x2 (nI k3) x4 (nI c) f) (nI q) fd items moved = _ ∧ _
    unfold Mo_copy_b157
    rw [if_neg (show ¬ nI c ≤ nI q by rw [leN (by omega) (by omega)]; omega), rdN (by omega) (by omega), hx4, show (60 : Int32) = nI 60 from rfl, mulN, nI_add, nI_add, wrN (by omega) (by omega), show nI q + 1 = nI (q + 1) from nI_1 _, ← hx4]
    obtain ⟨it, e1, e2, e3⟩ := ih (q + 1) f (upd items (60 * k3 + j3 + q) (moved q)) (by omega) (by omega) (fun p hp => by
      by_cases e : p = q
      · subst e; rw [upd_s]
      · rw [upd_n (by omega)]; exact h p (by omega))
    exact ⟨it, e1, e2, fun p hp => by rw [e3 p hp, upd_n (by omega)]⟩
theorem copy_00 (h0f : Int32) (h0s : Int32) (h0i : (Nat → Int32)) (h1f : Int32) (h1s : Int32) (h1i : (Nat → Int32)) (h2f : Int32) (h2s : Int32) (h2i : (Nat → Int32)) (h3f : Int32) (h3s : Int32) (h3i : (Nat → Int32)) (fd x2 x4 x5 : Int32) : ND_copy h0f h0s h1f h1s h2f h2s h3f h3s fd h0i h1i h2i h3i (nI 0) x2 (nI 0) x4 x5 = cp1 h0f h0s h0f h0s x2 x4 x5 (some ((-10 : Int32) - 1, 1, h0i, h1i, h2i, h3i)) (some ((-10 : Int32) - 2, 2, h0i, h1i, h2i, h3i)) (some ((-10 : Int32) - 4, 4, h0i, h1i, h2i, h3i)) (cb1 (Sh_take_same h0s h0i x2 x4 x5) (fun i' => some (1, fd, i', h1i, h2i, h3i))) := by
  unfold ND_copy
  rw [(isSheet_k 0 (by omega)).1, cb1_s, if_neg (show ¬ (1 : Int32) = 0 by decide), cb1_s, if_neg (show ¬ (1 : Int32) = 0 by decide)]
  rw [if_pos (show nI 0 = 0 from rfl)]
  rw [if_pos (show nI 0 = 0 from rfl)]
  rfl
theorem copy_01 (h0f : Int32) (h0s : Int32) (h0i : (Nat → Int32)) (h1f : Int32) (h1s : Int32) (h1i : (Nat → Int32)) (h2f : Int32) (h2s : Int32) (h2i : (Nat → Int32)) (h3f : Int32) (h3s : Int32) (h3i : (Nat → Int32)) (fd x2 x4 x5 : Int32) : ND_copy h0f h0s h1f h1s h2f h2s h3f h3s fd h0i h1i h2i h3i (nI 0) x2 (nI 1) x4 x5 = cp1 h0f h0s h1f h1s x2 x4 x5 (some ((-10 : Int32) - 1, 1, h0i, h1i, h2i, h3i)) (some ((-10 : Int32) - 2, 2, h0i, h1i, h2i, h3i)) (some ((-10 : Int32) - 4, 4, h0i, h1i, h2i, h3i)) (cb1 (Sh_take h1s h0s h0i h1i x2 x4 x5) (fun i' => some (1, fd, h0i, i', h2i, h3i))) := by
  unfold ND_copy
  rw [(isSheet_k 0 (by omega)).1, cb1_s, if_neg (show ¬ (1 : Int32) = 0 by decide), (isSheet_k 1 (by omega)).1, cb1_s, if_neg (show ¬ (1 : Int32) = 0 by decide)]
  rw [if_pos (show nI 0 = 0 from rfl)]
  rw [if_neg (show ¬ nI 1 = 0 by decide), if_pos (show nI 1 = 1 from rfl)]
  rfl
theorem copy_02 (h0f : Int32) (h0s : Int32) (h0i : (Nat → Int32)) (h1f : Int32) (h1s : Int32) (h1i : (Nat → Int32)) (h2f : Int32) (h2s : Int32) (h2i : (Nat → Int32)) (h3f : Int32) (h3s : Int32) (h3i : (Nat → Int32)) (fd x2 x4 x5 : Int32) : ND_copy h0f h0s h1f h1s h2f h2s h3f h3s fd h0i h1i h2i h3i (nI 0) x2 (nI 2) x4 x5 = cp1 h0f h0s h2f h2s x2 x4 x5 (some ((-10 : Int32) - 1, 1, h0i, h1i, h2i, h3i)) (some ((-10 : Int32) - 2, 2, h0i, h1i, h2i, h3i)) (some ((-10 : Int32) - 4, 4, h0i, h1i, h2i, h3i)) (cb1 (Sh_take h2s h0s h0i h2i x2 x4 x5) (fun i' => some (1, fd, h0i, h1i, i', h3i))) := by
  unfold ND_copy
  rw [(isSheet_k 0 (by omega)).1, cb1_s, if_neg (show ¬ (1 : Int32) = 0 by decide), (isSheet_k 2 (by omega)).1, cb1_s, if_neg (show ¬ (1 : Int32) = 0 by decide)]
  rw [if_pos (show nI 0 = 0 from rfl)]
  rw [if_neg (show ¬ nI 2 = 0 by decide), if_neg (show ¬ nI 2 = 1 by decide), if_pos (show nI 2 = 2 from rfl)]
  rfl
theorem copy_03 (h0f : Int32) (h0s : Int32) (h0i : (Nat → Int32)) (h1f : Int32) (h1s : Int32) (h1i : (Nat → Int32)) (h2f : Int32) (h2s : Int32) (h2i : (Nat → Int32)) (h3f : Int32) (h3s : Int32) (h3i : (Nat → Int32)) (fd x2 x4 x5 : Int32) : ND_copy h0f h0s h1f h1s h2f h2s h3f h3s fd h0i h1i h2i h3i (nI 0) x2 (nI 3) x4 x5 = cp1 h0f h0s h3f h3s x2 x4 x5 (some ((-10 : Int32) - 1, 1, h0i, h1i, h2i, h3i)) (some ((-10 : Int32) - 2, 2, h0i, h1i, h2i, h3i)) (some ((-10 : Int32) - 4, 4, h0i, h1i, h2i, h3i)) (cb1 (Sh_take h3s h0s h0i h3i x2 x4 x5) (fun i' => some (1, fd, h0i, h1i, h2i, i'))) := by
  unfold ND_copy
  rw [(isSheet_k 0 (by omega)).1, cb1_s, if_neg (show ¬ (1 : Int32) = 0 by decide), (isSheet_k 3 (by omega)).1, cb1_s, if_neg (show ¬ (1 : Int32) = 0 by decide)]
  rw [if_pos (show nI 0 = 0 from rfl)]
  rw [if_neg (show ¬ nI 3 = 0 by decide), if_neg (show ¬ nI 3 = 1 by decide), if_neg (show ¬ nI 3 = 2 by decide), if_pos (show nI 3 = 3 from rfl)]
  rfl
theorem copy_10 (h0f : Int32) (h0s : Int32) (h0i : (Nat → Int32)) (h1f : Int32) (h1s : Int32) (h1i : (Nat → Int32)) (h2f : Int32) (h2s : Int32) (h2i : (Nat → Int32)) (h3f : Int32) (h3s : Int32) (h3i : (Nat → Int32)) (fd x2 x4 x5 : Int32) : ND_copy h0f h0s h1f h1s h2f h2s h3f h3s fd h0i h1i h2i h3i (nI 1) x2 (nI 0) x4 x5 = cp1 h1f h1s h0f h0s x2 x4 x5 (some ((-10 : Int32) - 1, 1, h0i, h1i, h2i, h3i)) (some ((-10 : Int32) - 2, 2, h0i, h1i, h2i, h3i)) (some ((-10 : Int32) - 4, 4, h0i, h1i, h2i, h3i)) (cb1 (Sh_take h0s h1s h1i h0i x2 x4 x5) (fun i' => some (1, fd, i', h1i, h2i, h3i))) := by
  unfold ND_copy
  rw [(isSheet_k 1 (by omega)).1, cb1_s, if_neg (show ¬ (1 : Int32) = 0 by decide), (isSheet_k 0 (by omega)).1, cb1_s, if_neg (show ¬ (1 : Int32) = 0 by decide)]
  rw [if_neg (show ¬ nI 1 = 0 by decide), if_pos (show nI 1 = 1 from rfl)]
  rw [if_pos (show nI 0 = 0 from rfl)]
  rfl
theorem copy_11 (h0f : Int32) (h0s : Int32) (h0i : (Nat → Int32)) (h1f : Int32) (h1s : Int32) (h1i : (Nat → Int32)) (h2f : Int32) (h2s : Int32) (h2i : (Nat → Int32)) (h3f : Int32) (h3s : Int32) (h3i : (Nat → Int32)) (fd x2 x4 x5 : Int32) : ND_copy h0f h0s h1f h1s h2f h2s h3f h3s fd h0i h1i h2i h3i (nI 1) x2 (nI 1) x4 x5 = cp1 h1f h1s h1f h1s x2 x4 x5 (some ((-10 : Int32) - 1, 1, h0i, h1i, h2i, h3i)) (some ((-10 : Int32) - 2, 2, h0i, h1i, h2i, h3i)) (some ((-10 : Int32) - 4, 4, h0i, h1i, h2i, h3i)) (cb1 (Sh_take_same h1s h1i x2 x4 x5) (fun i' => some (1, fd, h0i, i', h2i, h3i))) := by
  unfold ND_copy
  rw [(isSheet_k 1 (by omega)).1, cb1_s, if_neg (show ¬ (1 : Int32) = 0 by decide), cb1_s, if_neg (show ¬ (1 : Int32) = 0 by decide)]
  rw [if_neg (show ¬ nI 1 = 0 by decide), if_pos (show nI 1 = 1 from rfl)]
  rw [if_neg (show ¬ nI 1 = 0 by decide), if_pos (show nI 1 = 1 from rfl)]
  rfl
theorem copy_12 (h0f : Int32) (h0s : Int32) (h0i : (Nat → Int32)) (h1f : Int32) (h1s : Int32) (h1i : (Nat → Int32)) (h2f : Int32) (h2s : Int32) (h2i : (Nat → Int32)) (h3f : Int32) (h3s : Int32) (h3i : (Nat → Int32)) (fd x2 x4 x5 : Int32) : ND_copy h0f h0s h1f h1s h2f h2s h3f h3s fd h0i h1i h2i h3i (nI 1) x2 (nI 2) x4 x5 = cp1 h1f h1s h2f h2s x2 x4 x5 (some ((-10 : Int32) - 1, 1, h0i, h1i, h2i, h3i)) (some ((-10 : Int32) - 2, 2, h0i, h1i, h2i, h3i)) (some ((-10 : Int32) - 4, 4, h0i, h1i, h2i, h3i)) (cb1 (Sh_take h2s h1s h1i h2i x2 x4 x5) (fun i' => some (1, fd, h0i, h1i, i', h3i))) := by
  unfold ND_copy
  rw [(isSheet_k 1 (by omega)).1, cb1_s, if_neg (show ¬ (1 : Int32) = 0 by decide), (isSheet_k 2 (by omega)).1, cb1_s, if_neg (show ¬ (1 : Int32) = 0 by decide)]
  rw [if_neg (show ¬ nI 1 = 0 by decide), if_pos (show nI 1 = 1 from rfl)]
  rw [if_neg (show ¬ nI 2 = 0 by decide), if_neg (show ¬ nI 2 = 1 by decide), if_pos (show nI 2 = 2 from rfl)]
  rfl
theorem copy_13 (h0f : Int32) (h0s : Int32) (h0i : (Nat → Int32)) (h1f : Int32) (h1s : Int32) (h1i : (Nat → Int32)) (h2f : Int32) (h2s : Int32) (h2i : (Nat → Int32)) (h3f : Int32) (h3s : Int32) (h3i : (Nat → Int32)) (fd x2 x4 x5 : Int32) : ND_copy h0f h0s h1f h1s h2f h2s h3f h3s fd h0i h1i h2i h3i (nI 1) x2 (nI 3) x4 x5 = cp1 h1f h1s h3f h3s x2 x4 x5 (some ((-10 : Int32) - 1, 1, h0i, h1i, h2i, h3i)) (some ((-10 : Int32) - 2, 2, h0i, h1i, h2i, h3i)) (some ((-10 : Int32) - 4, 4, h0i, h1i, h2i, h3i)) (cb1 (Sh_take h3s h1s h1i h3i x2 x4 x5) (fun i' => some (1, fd, h0i, h1i, h2i, i'))) := by
  unfold ND_copy
  rw [(isSheet_k 1 (by omega)).1, cb1_s, if_neg (show ¬ (1 : Int32) = 0 by decide), (isSheet_k 3 (by omega)).1, cb1_s, if_neg (show ¬ (1 : Int32) = 0 by decide)]
  rw [if_neg (show ¬ nI 1 = 0 by decide), if_pos (show nI 1 = 1 from rfl)]
  rw [if_neg (show ¬ nI 3 = 0 by decide), if_neg (show ¬ nI 3 = 1 by decide), if_neg (show ¬ nI 3 = 2 by decide), if_pos (show nI 3 = 3 from rfl)]
  rfl
theorem copy_20 (h0f : Int32) (h0s : Int32) (h0i : (Nat → Int32)) (h1f : Int32) (h1s : Int32) (h1i : (Nat → Int32)) (h2f : Int32) (h2s : Int32) (h2i : (Nat → Int32)) (h3f : Int32) (h3s : Int32) (h3i : (Nat → Int32)) (fd x2 x4 x5 : Int32) : ND_copy h0f h0s h1f h1s h2f h2s h3f h3s fd h0i h1i h2i h3i (nI 2) x2 (nI 0) x4 x5 = cp1 h2f h2s h0f h0s x2 x4 x5 (some ((-10 : Int32) - 1, 1, h0i, h1i, h2i, h3i)) (some ((-10 : Int32) - 2, 2, h0i, h1i, h2i, h3i)) (some ((-10 : Int32) - 4, 4, h0i, h1i, h2i, h3i)) (cb1 (Sh_take h0s h2s h2i h0i x2 x4 x5) (fun i' => some (1, fd, i', h1i, h2i, h3i))) := by
  unfold ND_copy
  rw [(isSheet_k 2 (by omega)).1, cb1_s, if_neg (show ¬ (1 : Int32) = 0 by decide), (isSheet_k 0 (by omega)).1, cb1_s, if_neg (show ¬ (1 : Int32) = 0 by decide)]
  rw [if_neg (show ¬ nI 2 = 0 by decide), if_neg (show ¬ nI 2 = 1 by decide), if_pos (show nI 2 = 2 from rfl)]
  rw [if_pos (show nI 0 = 0 from rfl)]
  rfl
theorem copy_21 (h0f : Int32) (h0s : Int32) (h0i : (Nat → Int32)) (h1f : Int32) (h1s : Int32) (h1i : (Nat → Int32)) (h2f : Int32) (h2s : Int32) (h2i : (Nat → Int32)) (h3f : Int32) (h3s : Int32) (h3i : (Nat → Int32)) (fd x2 x4 x5 : Int32) : ND_copy h0f h0s h1f h1s h2f h2s h3f h3s fd h0i h1i h2i h3i (nI 2) x2 (nI 1) x4 x5 = cp1 h2f h2s h1f h1s x2 x4 x5 (some ((-10 : Int32) - 1, 1, h0i, h1i, h2i, h3i)) (some ((-10 : Int32) - 2, 2, h0i, h1i, h2i, h3i)) (some ((-10 : Int32) - 4, 4, h0i, h1i, h2i, h3i)) (cb1 (Sh_take h1s h2s h2i h1i x2 x4 x5) (fun i' => some (1, fd, h0i, i', h2i, h3i))) := by
  unfold ND_copy
  rw [(isSheet_k 2 (by omega)).1, cb1_s, if_neg (show ¬ (1 : Int32) = 0 by decide), (isSheet_k 1 (by omega)).1, cb1_s, if_neg (show ¬ (1 : Int32) = 0 by decide)]
  rw [if_neg (show ¬ nI 2 = 0 by decide), if_neg (show ¬ nI 2 = 1 by decide), if_pos (show nI 2 = 2 from rfl)]
  rw [if_neg (show ¬ nI 1 = 0 by decide), if_pos (show nI 1 = 1 from rfl)]
  rfl
theorem copy_22 (h0f : Int32) (h0s : Int32) (h0i : (Nat → Int32)) (h1f : Int32) (h1s : Int32) (h1i : (Nat → Int32)) (h2f : Int32) (h2s : Int32) (h2i : (Nat → Int32)) (h3f : Int32) (h3s : Int32) (h3i : (Nat → Int32)) (fd x2 x4 x5 : Int32) : ND_copy h0f h0s h1f h1s h2f h2s h3f h3s fd h0i h1i h2i h3i (nI 2) x2 (nI 2) x4 x5 = cp1 h2f h2s h2f h2s x2 x4 x5 (some ((-10 : Int32) - 1, 1, h0i, h1i, h2i, h3i)) (some ((-10 : Int32) - 2, 2, h0i, h1i, h2i, h3i)) (some ((-10 : Int32) - 4, 4, h0i, h1i, h2i, h3i)) (cb1 (Sh_take_same h2s h2i x2 x4 x5) (fun i' => some (1, fd, h0i, h1i, i', h3i))) := by
  unfold ND_copy
  rw [(isSheet_k 2 (by omega)).1, cb1_s, if_neg (show ¬ (1 : Int32) = 0 by decide), cb1_s, if_neg (show ¬ (1 : Int32) = 0 by decide)]
  rw [if_neg (show ¬ nI 2 = 0 by decide), if_neg (show ¬ nI 2 = 1 by decide), if_pos (show nI 2 = 2 from rfl)]
  rw [if_neg (show ¬ nI 2 = 0 by decide), if_neg (show ¬ nI 2 = 1 by decide), if_pos (show nI 2 = 2 from rfl)]
  rfl
theorem copy_23 (h0f : Int32) (h0s : Int32) (h0i : (Nat → Int32)) (h1f : Int32) (h1s : Int32) (h1i : (Nat → Int32)) (h2f : Int32) (h2s : Int32) (h2i : (Nat → Int32)) (h3f : Int32) (h3s : Int32) (h3i : (Nat → Int32)) (fd x2 x4 x5 : Int32) : ND_copy h0f h0s h1f h1s h2f h2s h3f h3s fd h0i h1i h2i h3i (nI 2) x2 (nI 3) x4 x5 = cp1 h2f h2s h3f h3s x2 x4 x5 (some ((-10 : Int32) - 1, 1, h0i, h1i, h2i, h3i)) (some ((-10 : Int32) - 2, 2, h0i, h1i, h2i, h3i)) (some ((-10 : Int32) - 4, 4, h0i, h1i, h2i, h3i)) (cb1 (Sh_take h3s h2s h2i h3i x2 x4 x5) (fun i' => some (1, fd, h0i, h1i, h2i, i'))) := by
  unfold ND_copy
  rw [(isSheet_k 2 (by omega)).1, cb1_s, if_neg (show ¬ (1 : Int32) = 0 by decide), (isSheet_k 3 (by omega)).1, cb1_s, if_neg (show ¬ (1 : Int32) = 0 by decide)]
  rw [if_neg (show ¬ nI 2 = 0 by decide), if_neg (show ¬ nI 2 = 1 by decide), if_pos (show nI 2 = 2 from rfl)]
  rw [if_neg (show ¬ nI 3 = 0 by decide), if_neg (show ¬ nI 3 = 1 by decide), if_neg (show ¬ nI 3 = 2 by decide), if_pos (show nI 3 = 3 from rfl)]
  rfl
theorem copy_30 (h0f : Int32) (h0s : Int32) (h0i : (Nat → Int32)) (h1f : Int32) (h1s : Int32) (h1i : (Nat → Int32)) (h2f : Int32) (h2s : Int32) (h2i : (Nat → Int32)) (h3f : Int32) (h3s : Int32) (h3i : (Nat → Int32)) (fd x2 x4 x5 : Int32) : ND_copy h0f h0s h1f h1s h2f h2s h3f h3s fd h0i h1i h2i h3i (nI 3) x2 (nI 0) x4 x5 = cp1 h3f h3s h0f h0s x2 x4 x5 (some ((-10 : Int32) - 1, 1, h0i, h1i, h2i, h3i)) (some ((-10 : Int32) - 2, 2, h0i, h1i, h2i, h3i)) (some ((-10 : Int32) - 4, 4, h0i, h1i, h2i, h3i)) (cb1 (Sh_take h0s h3s h3i h0i x2 x4 x5) (fun i' => some (1, fd, i', h1i, h2i, h3i))) := by
  unfold ND_copy
  rw [(isSheet_k 3 (by omega)).1, cb1_s, if_neg (show ¬ (1 : Int32) = 0 by decide), (isSheet_k 0 (by omega)).1, cb1_s, if_neg (show ¬ (1 : Int32) = 0 by decide)]
  rw [if_neg (show ¬ nI 3 = 0 by decide), if_neg (show ¬ nI 3 = 1 by decide), if_neg (show ¬ nI 3 = 2 by decide), if_pos (show nI 3 = 3 from rfl)]
  rw [if_pos (show nI 0 = 0 from rfl)]
  rfl
theorem copy_31 (h0f : Int32) (h0s : Int32) (h0i : (Nat → Int32)) (h1f : Int32) (h1s : Int32) (h1i : (Nat → Int32)) (h2f : Int32) (h2s : Int32) (h2i : (Nat → Int32)) (h3f : Int32) (h3s : Int32) (h3i : (Nat → Int32)) (fd x2 x4 x5 : Int32) : ND_copy h0f h0s h1f h1s h2f h2s h3f h3s fd h0i h1i h2i h3i (nI 3) x2 (nI 1) x4 x5 = cp1 h3f h3s h1f h1s x2 x4 x5 (some ((-10 : Int32) - 1, 1, h0i, h1i, h2i, h3i)) (some ((-10 : Int32) - 2, 2, h0i, h1i, h2i, h3i)) (some ((-10 : Int32) - 4, 4, h0i, h1i, h2i, h3i)) (cb1 (Sh_take h1s h3s h3i h1i x2 x4 x5) (fun i' => some (1, fd, h0i, i', h2i, h3i))) := by
  unfold ND_copy
  rw [(isSheet_k 3 (by omega)).1, cb1_s, if_neg (show ¬ (1 : Int32) = 0 by decide), (isSheet_k 1 (by omega)).1, cb1_s, if_neg (show ¬ (1 : Int32) = 0 by decide)]
  rw [if_neg (show ¬ nI 3 = 0 by decide), if_neg (show ¬ nI 3 = 1 by decide), if_neg (show ¬ nI 3 = 2 by decide), if_pos (show nI 3 = 3 from rfl)]
  rw [if_neg (show ¬ nI 1 = 0 by decide), if_pos (show nI 1 = 1 from rfl)]
  rfl
theorem copy_32 (h0f : Int32) (h0s : Int32) (h0i : (Nat → Int32)) (h1f : Int32) (h1s : Int32) (h1i : (Nat → Int32)) (h2f : Int32) (h2s : Int32) (h2i : (Nat → Int32)) (h3f : Int32) (h3s : Int32) (h3i : (Nat → Int32)) (fd x2 x4 x5 : Int32) : ND_copy h0f h0s h1f h1s h2f h2s h3f h3s fd h0i h1i h2i h3i (nI 3) x2 (nI 2) x4 x5 = cp1 h3f h3s h2f h2s x2 x4 x5 (some ((-10 : Int32) - 1, 1, h0i, h1i, h2i, h3i)) (some ((-10 : Int32) - 2, 2, h0i, h1i, h2i, h3i)) (some ((-10 : Int32) - 4, 4, h0i, h1i, h2i, h3i)) (cb1 (Sh_take h2s h3s h3i h2i x2 x4 x5) (fun i' => some (1, fd, h0i, h1i, i', h3i))) := by
  unfold ND_copy
  rw [(isSheet_k 3 (by omega)).1, cb1_s, if_neg (show ¬ (1 : Int32) = 0 by decide), (isSheet_k 2 (by omega)).1, cb1_s, if_neg (show ¬ (1 : Int32) = 0 by decide)]
  rw [if_neg (show ¬ nI 3 = 0 by decide), if_neg (show ¬ nI 3 = 1 by decide), if_neg (show ¬ nI 3 = 2 by decide), if_pos (show nI 3 = 3 from rfl)]
  rw [if_neg (show ¬ nI 2 = 0 by decide), if_neg (show ¬ nI 2 = 1 by decide), if_pos (show nI 2 = 2 from rfl)]
  rfl
theorem copy_33 (h0f : Int32) (h0s : Int32) (h0i : (Nat → Int32)) (h1f : Int32) (h1s : Int32) (h1i : (Nat → Int32)) (h2f : Int32) (h2s : Int32) (h2i : (Nat → Int32)) (h3f : Int32) (h3s : Int32) (h3i : (Nat → Int32)) (fd x2 x4 x5 : Int32) : ND_copy h0f h0s h1f h1s h2f h2s h3f h3s fd h0i h1i h2i h3i (nI 3) x2 (nI 3) x4 x5 = cp1 h3f h3s h3f h3s x2 x4 x5 (some ((-10 : Int32) - 1, 1, h0i, h1i, h2i, h3i)) (some ((-10 : Int32) - 2, 2, h0i, h1i, h2i, h3i)) (some ((-10 : Int32) - 4, 4, h0i, h1i, h2i, h3i)) (cb1 (Sh_take_same h3s h3i x2 x4 x5) (fun i' => some (1, fd, h0i, h1i, h2i, i'))) := by
  unfold ND_copy
  rw [(isSheet_k 3 (by omega)).1, cb1_s, if_neg (show ¬ (1 : Int32) = 0 by decide), cb1_s, if_neg (show ¬ (1 : Int32) = 0 by decide)]
  rw [if_neg (show ¬ nI 3 = 0 by decide), if_neg (show ¬ nI 3 = 1 by decide), if_neg (show ¬ nI 3 = 2 by decide), if_pos (show nI 3 = 3 from rfl)]
  rw [if_neg (show ¬ nI 3 = 0 by decide), if_neg (show ¬ nI 3 = 1 by decide), if_neg (show ¬ nI 3 = 2 by decide), if_pos (show nI 3 = 3 from rfl)]
  rfl
