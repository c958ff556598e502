/-! the reference's table of what is least; wisest and spun agree -/
theorem lI_ge {a b : Nat} (ha : a < 2 ^ 63) (hb : b < 2 ^ 63) : (0 ≤ lg_cmp (lI a) (lI b)) ↔ b ≤ a := by
  rw [lg_cmp_ge, Int64.le_iff_toInt_le, lI_toInt ha, lI_toInt hb]; omega
theorem lI_neg {a : Nat} (ha : a < 2 ^ 63) : ¬ lg_cmp (lI a) 0 < 0 := by
  rw [lg_cmp_lt, Int64.lt_iff_toInt_lt, lI_toInt ha, i0]; omega
theorem Mo_guessed_ok {T : Nat → Nat} {N : Nat} {od ln lt : Nat → Int32} (hO : NmOK T N od ln lt) (hN : N ≤ 10) {tm : Nat → Nat} {se : Nat → Int32} (hC : TmC tm se) (hT : TmOK tm) {F : Nat} (hF : 100 ≤ F) {n r : Nat} (hnr : n + r + 1 = tm 2) {M m k : Nat} (hm : m < 2 ^ N) (hs : sub m M) (hk : k < N) {least : Nat → Int64} (hL : ∀ s, sub s M → least (1024 * (n + 1) + s) = lI (VV T N tm r s)) : Mo_guessed F (nI N) od se least (nI n) (nI m) (nI k) = some (lI (gv T tm (VV T N tm r) n m k)) := by
  have h10 := p2_10 hN
  have hb := TmB hT
  have hn := ndf_lt (b := 2 ^ k) hm
  have ho := (Od_le hO hk).2
  have hw := (UU_bd hO hN hT hn).1
  unfold Mo_guessed
  rw [rdN (by omega) (by omega), (hO k hk).2.2.1, Mo_promise_ok hC hT (by omega), cb1_s, r1, hC 1 (by omega), sh1 k (by omega), ndfI, Mo_weight_ok hO hN hF hn, cb1_s, show nI n + 1 = nI (n + 1) from nI_1 _, show (1024 : Int32) = nI 1024 from rfl, mulN, nI_add, rdN (by omega) (by omega), hL _ (sub_tr (sub_ndf m k) hs)]
  unfold ww at hw
  rw [tL (by omega), tL (by omega), tL (by omega), lI_mul, lI_mul, lI_add, lI_add]
  unfold gv ww
  rw [Nat.mul_comm (tm 1)]
theorem Mo_listened_ok {T : Nat → Nat} {N : Nat} {od ln lt : Nat → Int32} (hO : NmOK T N od ln lt) (hN : N ≤ 10) {tm : Nat → Nat} (hT : TmOK tm) {F : Nat} (hF : 100 ≤ F) {n r : Nat} (hnr : n + r + 1 = tm 2) {M m p : Nat} (hm : m < 2 ^ N) (hs : sub m M) (hp : p < 6) {least : Nat → Int64} (hL : ∀ s, sub s M → least (1024 * (n + 1) + s) = lI (VV T N tm r s)) : Mo_listened F (nI N) ln lt least (nI n) (nI m) (nI p) = some (lI (lv T N (VV T N tm r) m p)) := by
  have h10 := p2_10 hN
  have hb := TmB hT
  have key : ∀ (d c f : Nat), c + d = 7 → d < f → Mo_listened_l6 F (nI N) ln lt least (nI n) (nI m) (nI p) f (lI (sm (fun c => VV T N tm r (m &&& snd T N p ((c + 1) % 7))) c)) (nI c) = some (lI (lv T N (VV T N tm r) m p)) := by
    intro d
    induction d with
    | zero =>
      intro c f hc hf
      obtain ⟨f, rfl⟩ : ∃ f', f = f' + 1 := ⟨f - 1, by omega⟩
      obtain rfl : c = 7 := by omega
      show Mo_listened_b6 F (nI N) ln lt least (nI n) (nI m) (nI p) _ _ _ = _
      unfold Mo_listened_b6
      rw [if_pos (show (7 : Int32) ≤ nI 7 by decide)]
      exact congrArg (fun a => some (lI a)) (sm_rot (fun c => VV T N tm r (m &&& snd T N p c)))
    | succ d ih =>
      intro c f hc hf
      obtain ⟨f, rfl⟩ : ∃ f', f = f' + 1 := ⟨f - 1, by omega⟩
      show Mo_listened_b6 F (nI N) ln lt least (nI n) (nI m) (nI p) (Mo_listened_l6 F (nI N) ln lt least (nI n) (nI m) (nI p) f) _ _ = _
      have h3 := and_lt (b := snd T N p ((c + 1) % 7)) hm
      unfold Mo_listened_b6
      rw [n7, if_neg (show ¬ nI 7 ≤ nI c by rw [leN (by omega) (by omega)]; omega), Mo_with_ok hO hN hF hm hp (by omega), cb1_s, show nI n + 1 = nI (n + 1) from nI_1 _, show (1024 : Int32) = nI 1024 from rfl, mulN, nI_add, rdN (by omega) (by omega), hL _ (sub_tr sub_and hs), lI_add, show nI c + 1 = nI (c + 1) from nI_1 _]
      exact ih (c + 1) f (by omega) (by omega)
  exact key 7 0 F rfl (by omega)
theorem ra_get {T : Nat → Nat} {N : Nat} {tm v : Nat → Nat} {n m : Nat} (p : Nat) : ra T N tm v n m (10 + p) = lv T N v m p := by
  unfold ra; rw [if_neg (by omega), show 10 + p - 10 = p by omega]
theorem Mo_best_places {T : Nat → Nat} {N : Nat} {od ln lt : Nat → Int32} (hO : NmOK T N od ln lt) (hN : N ≤ 10) {tm : Nat → Nat} (hT : TmOK tm) {F : Nat} (hF : 100 ≤ F) {n r : Nat} (hnr : n + r + 1 = tm 2) {M m : Nat} (hm : m < 2 ^ N) (h0 : m ≠ 0) (hs : sub m M) (se : Nat → Int32) {least : Nat → Int64} (hL : ∀ s, sub s M → least (1024 * (n + 1) + s) = lI (VV T N tm r s)) : ∀ (d k f : Nat), k + d = 6 → d < f → Mo_findBest_l95 F (nI N) od ln lt se (nI n) (nI m) f (lI (mnf (ra T N tm (VV T N tm r) n m) (10 + k))) (nI k) (nI (fsi (ra T N tm (VV T N tm r) n m) (10 + k))) least = some (actN T N tm n m, vp_updL least (1024 * n + m) (lI (VV T N tm (r + 1) m))) := by
  have h10 := p2_10 hN
  have hb := TmB hT
  have hm0 : ¬ nI m = 0 := fun hq => h0 ((nI_eq (b := 0) (by omega) (by omega)).mp hq)
  intro d
  induction d with
  | zero =>
    intro k f hc hf
    obtain ⟨f, rfl⟩ : ∃ f', f = f' + 1 := ⟨f - 1, by omega⟩
    obtain rfl : k = 6 := by omega
    show Mo_findBest_b95 F (nI N) od ln lt se (nI n) (nI m) _ _ _ _ least = _
    unfold Mo_findBest_b95 Mo_findBest_b159 Mo_findBest_b179
    rw [if_pos (show (6 : Int32) ≤ nI 6 by decide), if_neg hm0, show (1024 : Int32) = nI 1024 from rfl, mulN, nI_add, wrLN (by omega) (by omega), show 10 + 6 = 16 from rfl]
    have e1 : VV T N tm (r + 1) m = mnf (ra T N tm (VV T N tm r) n m) 16 := by rw [VV, if_neg h0, show tm 2 - (r + 1) = n by omega]
    unfold actN
    rw [if_neg h0, if_pos (by omega), e1, show tm 2 - (n + 1) = r by omega]
  | succ d ih =>
    intro k f hc hf
    obtain ⟨f, rfl⟩ : ∃ f', f = f' + 1 := ⟨f - 1, by omega⟩
    show Mo_findBest_b95 F (nI N) od ln lt se (nI n) (nI m) (Mo_findBest_l95 F (nI N) od ln lt se (nI n) (nI m) f) _ _ _ least = _
    have hlt := (ra_16 hO hN hT (r := r) hm (show n ≤ 12 by omega) h0 k).2
    have hv := mnf_le (f := fun c => c) (a := 0) (k := 1) (by omega)
    have hlv : lv T N (VV T N tm r) m k ≤ 37395270 := by
      have h1 := (UU_bd hO hN hT hm).2.2
      have h2 : lv T N (VV T N tm r) m k ≤ UU T tm m := by
        rw [← UU_split hN hm k]
        exact sm_le (fun c _ => VV_U tm hN r _ (and_lt hm))
      omega
    unfold Mo_findBest_b95 Mo_findBest_b136 Mo_findBest_b152
    rw [n6, if_neg (show ¬ nI 6 ≤ nI k by rw [leN (by omega) (by omega)]; omega), if_neg hm0, Mo_listened_ok hO hN hT hF hnr hm hs (show k < 6 by omega) hL, cb1_s, show nI k + 1 = nI (k + 1) from nI_1 _, ← ih (k + 1) f (by omega) (by omega), ← Nat.add_assoc, mnf, fsi, ra_get]
    by_cases h : mnf (ra T N tm (VV T N tm r) n m) (10 + k) ≤ lv T N (VV T N tm r) m k
    · rw [if_pos ((lI_ge (by omega) (by omega)).mpr h), if_pos ((lI_ge (by omega) (by omega)).mpr h), if_neg (by omega), Nat.min_eq_left h]
    · rw [if_neg (fun hq => h ((lI_ge (by omega) (by omega)).mp hq)), if_neg (fun hq => h ((lI_ge (by omega) (by omega)).mp hq)), if_pos (by omega), Nat.min_eq_right (by omega), show (10 : Int32) = nI 10 from rfl, nI_add]
theorem Mo_findBest_ok {T : Nat → Nat} {N : Nat} {od ln lt : Nat → Int32} (hO : NmOK T N od ln lt) (hN : N ≤ 10) {tm : Nat → Nat} {se : Nat → Int32} (hC : TmC tm se) (hT : TmOK tm) {F : Nat} (hF : 100 ≤ F) {n r : Nat} (hnr : n + r + 1 = tm 2) {M m : Nat} (hm : m < 2 ^ N) (hs : sub m M) (todo : Int32) {least : Nat → Int64} (hL : ∀ s, sub s M → least (1024 * (n + 1) + s) = lI (VV T N tm r s)) : Mo_findBest F (nI N) od ln lt se todo least (nI n) (nI m) = some (actN T N tm n m, vp_updL least (1024 * n + m) (lI (VV T N tm (r + 1) m))) := by
  have h10 := p2_10 hN
  have hb := TmB hT
  unfold Mo_findBest
  by_cases h0 : m = 0
  · subst h0
    have key : ∀ (d k f : Nat), k + d = N → d < f → Mo_findBest_l12 F (nI N) od ln lt se (nI n) (nI 0) f (-1) (nI k) (-1) least = some (-1, vp_updL least (1024 * n + 0) 0) := by
      intro d
      induction d with
      | zero =>
        intro k f hk hf
        obtain ⟨f, rfl⟩ : ∃ f', f = f' + 1 := ⟨f - 1, by omega⟩
        obtain ⟨F, rfl⟩ : ∃ f', F = f' + 1 := ⟨F - 1, by omega⟩
        show Mo_findBest_b12 _ (nI N) od ln lt se (nI n) (nI 0) _ _ _ _ least = _
        unfold Mo_findBest_b12 Mo_findBest_b92
        rw [if_pos (show nI N ≤ nI k by rw [leN (by omega) (by omega)]; omega)]
        show Mo_findBest_b95 _ (nI N) od ln lt se (nI n) (nI 0) _ _ _ _ least = _
        unfold Mo_findBest_b95 Mo_findBest_b159 Mo_findBest_b179
        rw [if_neg (by decide), if_pos (show nI 0 = 0 from rfl), if_pos (show nI 0 = 0 from rfl), show (1024 : Int32) = nI 1024 from rfl, mulN, nI_add, wrLN (by omega) (by omega)]
      | succ d ih =>
        intro k f hk hf
        obtain ⟨f, rfl⟩ : ∃ f', f = f' + 1 := ⟨f - 1, by omega⟩
        show Mo_findBest_b12 _ (nI N) od ln lt se (nI n) (nI 0) (Mo_findBest_l12 F (nI N) od ln lt se (nI n) (nI 0) f) _ _ _ least = _
        unfold Mo_findBest_b12 Mo_findBest_b86
        rw [if_neg (show ¬ nI N ≤ nI k by rw [leN (by omega) (by omega)]; omega), Mo_isIn_ok (by omega) (by omega), cb1_s, Nat.zero_testBit, if_neg (show ¬ (false = true) by decide), if_pos rfl, show nI k + 1 = nI (k + 1) from nI_1 _]
        exact ih (k + 1) f (by omega) (by omega)
    have hk := key N 0 F (by omega) (by omega)
    rw [VV_z]
    exact hk
  · have hN0 := mnf_N (T := T) (tm := tm) (v := VV T N tm r) (n := n) hN hm (10 - N) (by omega)
    rw [show N + (10 - N) = 10 by omega] at hN0
    have hNb := ra_bd hO hN hT (r := r) hm (show n ≤ 12 by omega) h0
    have key : ∀ (d k f : Nat), k + d = N → d < f → Mo_findBest_l12 F (nI N) od ln lt se (nI n) (nI m) f (if mnf (ra T N tm (VV T N tm r) n m) k = 2147483647 then -1 else lI (mnf (ra T N tm (VV T N tm r) n m) k)) (nI k) (if mnf (ra T N tm (VV T N tm r) n m) k = 2147483647 then -1 else nI (fsi (ra T N tm (VV T N tm r) n m) k)) least = some (actN T N tm n m, vp_updL least (1024 * n + m) (lI (VV T N tm (r + 1) m))) := by
      intro d
      induction d with
      | zero =>
        intro k f hk hf
        obtain ⟨f, rfl⟩ : ∃ f', f = f' + 1 := ⟨f - 1, by omega⟩
        obtain rfl : k = N := by omega
        show Mo_findBest_b12 _ (nI k) od ln lt se (nI n) (nI m) _ _ _ _ least = _
        unfold Mo_findBest_b12 Mo_findBest_b92
        rw [if_pos (show nI k ≤ nI k by rw [leN (by omega) (by omega)]; omega), if_neg (by omega), if_neg (by omega), ← hN0.1, ← hN0.2]
        exact Mo_best_places hO hN hT hF hnr hm h0 hs se hL 6 0 F rfl (by omega)
      | succ d ih =>
        intro k f hk hf
        obtain ⟨f, rfl⟩ : ∃ f', f = f' + 1 := ⟨f - 1, by omega⟩
        show Mo_findBest_b12 _ (nI N) od ln lt se (nI n) (nI m) (Mo_findBest_l12 F (nI N) od ln lt se (nI n) (nI m) f) _ _ _ least = _
        have htop := mnf_top (ra T N tm (VV T N tm r) n m) k
        have hgb := (gv_bd hO hN hT (r := r) hm (show k < N by omega) (show n ≤ 12 by omega)).1
        unfold Mo_findBest_b12 Mo_findBest_b86
        rw [if_neg (show ¬ nI N ≤ nI k by rw [leN (by omega) (by omega)]; omega), Mo_isIn_ok (by omega) (by omega), cb1_s, show nI k + 1 = nI (k + 1) from nI_1 _, ← ih (k + 1) f (by omega) (by omega), mnf, fsi]
        cases hbit : m.testBit k with
        | false =>
          have hr : ra T N tm (VV T N tm r) n m k = 2147483647 := by
            unfold ra; rw [if_pos (by omega), if_neg (by rw [hbit]; decide)]
          rw [if_neg (show ¬ (false = true) by decide), if_pos rfl, hr, Nat.min_eq_left htop, if_neg (show ¬ 2147483647 < mnf (ra T N tm (VV T N tm r) n m) k by omega)]
        | true =>
          have hr : ra T N tm (VV T N tm r) n m k = gv T tm (VV T N tm r) n m k := by
            unfold ra; rw [if_pos (by omega), if_pos hbit]
          rw [if_pos rfl, if_neg (show ¬ (1 : Int32) = 0 by decide), Mo_guessed_ok hO hN hC hT hF hnr hm hs (show k < N by omega) hL, cb1_s, hr]
          have hmin : ¬ min (mnf (ra T N tm (VV T N tm r) n m) k) (gv T tm (VV T N tm r) n m k) = 2147483647 := by omega
          rw [if_neg hmin, if_neg hmin]
          unfold Mo_findBest_b54 Mo_findBest_b63 Mo_findBest_b79 Mo_findBest_b85 Mo_findBest_b86
          rw [show nI k + 1 = nI (k + 1) from nI_1 _]
          by_cases hi : mnf (ra T N tm (VV T N tm r) n m) k = 2147483647
          · rw [if_pos hi, if_pos hi, if_pos (show lg_cmp (-1) 0 < 0 by decide), if_pos (show lg_cmp (-1) 0 < 0 by decide), if_pos (by omega), Nat.min_eq_right (by omega)]
          · rw [if_neg hi, if_neg hi, if_neg (lI_neg (by omega)), if_neg (lI_neg (by omega))]
            by_cases h : mnf (ra T N tm (VV T N tm r) n m) k ≤ gv T tm (VV T N tm r) n m k
            · rw [if_pos ((lI_ge (by omega) (by omega)).mpr h), if_pos ((lI_ge (by omega) (by omega)).mpr h), if_neg (by omega), Nat.min_eq_left h]
            · rw [if_neg (fun hq => h ((lI_ge (by omega) (by omega)).mp hq)), if_neg (fun hq => h ((lI_ge (by omega) (by omega)).mp hq)), if_pos (show gv T tm (VV T N tm r) n m k < mnf (ra T N tm (VV T N tm r) n m) k by omega), Nat.min_eq_right (by omega), if_neg (lI_neg (by omega))]
    have hk := key N 0 F (by omega) (by omega)
    rw [mnf, if_pos rfl, if_pos rfl] at hk
    exact hk
theorem k13 : (∀ k, k < 13 → ∀ n, n < 13 → ((nI k + (-1) < nI n) ↔ (k ≤ n))) ∧ ∀ k, k < 13 → nI k - 1 = nI k + (-1) := by decide +kernel
theorem Mo_findWisest_ok {T : Nat → Nat} {N : Nat} {od ln lt : Nat → Int32} (hO : NmOK T N od ln lt) (hN : N ≤ 10) {tm : Nat → Nat} {se : Nat → Int32} (hC : TmC tm se) (hT : TmOK tm) {F : Nat} (hF : 2000 ≤ F) {n1 M : Nat} (hn : n1 ≤ tm 2) (hM : M < 2 ^ N) (todo : Int32) (least : Nat → Int64) : ∃ least', Mo_findWisest F (nI N) od ln lt se todo least (nI n1) (nI M) = some (actN T N tm n1 M, least') ∧ least' (1024 * n1 + M) = lI (VV T N tm (tm 2 - n1) M) := by
  have h10 := p2_10 hN
  have hb := TmB hT
  have act0 : actN T N tm (tm 2) M = -1 := by
    unfold actN; split
    · rfl
    · rw [if_neg (Nat.lt_irrefl _)]
  have inner : ∀ (n : Nat), n < tm 2 → ∀ (d s f : Nat) (rec64 : Int32 → Int32 → (Nat → Int64) → Option (Int32 × (Nat → Int64))) (todo : Int32) (least : Nat → Int64), s + d = M + 1 → d < f → (∀ q, sub q M → least (1024 * (n + 1) + q) = lI (VV T N tm (tm 2 - (n + 1)) q)) → (∀ q, q < s → sub q M → least (1024 * n + q) = lI (VV T N tm (tm 2 - n) q)) → (s = M + 1 → todo = actN T N tm n M) → ∃ least', Mo_findWisest_l72 F (nI N) od ln lt se (nI n1) (nI M) rec64 f (nI n) (nI s) todo least = rec64 (nI n + (-1)) (actN T N tm n M) least' ∧ ∀ q, sub q M → least' (1024 * n + q) = lI (VV T N tm (tm 2 - n) q) := by
    intro n hn' d
    induction d with
    | zero =>
      intro s f rec64 todo least hs hf h1 h2 h3
      obtain ⟨f, rfl⟩ : ∃ f', f = f' + 1 := ⟨f - 1, by omega⟩
      show ∃ least', Mo_findWisest_b72 F (nI N) od ln lt se (nI n1) (nI M) rec64 _ _ _ todo least = _ ∧ _
      unfold Mo_findWisest_b72 Mo_findWisest_b100
      rw [if_pos (show nI M < nI s by rw [ltN (by omega) (by omega)]; omega), h3 (by omega)]
      exact ⟨least, rfl, fun q hq => h2 q (by have := sub_le N hM hq; omega) hq⟩
    | succ d ih =>
      intro s f rec64 todo least hs hf h1 h2 h3
      obtain ⟨f, rfl⟩ : ∃ f', f = f' + 1 := ⟨f - 1, by omega⟩
      show ∃ least', Mo_findWisest_b72 F (nI N) od ln lt se (nI n1) (nI M) rec64 (Mo_findWisest_l72 F (nI N) od ln lt se (nI n1) (nI M) rec64 f) _ _ todo least = _ ∧ _
      have hnl := ndf_lt (b := M) (show s < 2 ^ N by omega)
      unfold Mo_findWisest_b72 Mo_findWisest_b94
      rw [if_neg (show ¬ nI M < nI s by rw [ltN (by omega) (by omega)]; omega), ndfI, show nI s + 1 = nI (s + 1) from nI_1 _]
      by_cases hsub : sub s M
      · obtain ⟨r, hr⟩ : ∃ r, n + r + 1 = tm 2 := ⟨tm 2 - n - 1, by omega⟩
        have h1' : ∀ q, sub q M → least (1024 * (n + 1) + q) = lI (VV T N tm r q) := fun q hq => by rw [h1 q hq, show tm 2 - (n + 1) = r by omega]
        rw [if_pos (show nI (ndf s M) = 0 by rw [ndf_sub0.mpr hsub]; rfl), Mo_findBest_ok hO hN hC hT (by omega) hr (show s < 2 ^ N by omega) hsub todo h1', cb2_s]
        refine ih (s + 1) f rec64 _ _ (by omega) (by omega) (fun q hq => ?_) (fun q hq hqs => ?_) (fun he => by rw [show s = M by omega])
        · have := sub_le N hM hq
          rw [pk_uLn (by omega)]; exact h1 q hq
        · by_cases e : q = s
          · subst e; rw [pk_uLs, show tm 2 - n = r + 1 by omega]
          · rw [pk_uLn (by omega)]; exact h2 q (by omega) hqs
      · rw [if_neg (show ¬ nI (ndf s M) = 0 from fun hq => hsub (ndf_sub0.mp ((nI_eq (b := 0) (by omega) (by omega)).mp hq)))]
        refine ih (s + 1) f rec64 _ _ (by omega) (by omega) h1 (fun q hq hqs => ?_) (fun he => ?_)
        · by_cases e : q = s
          · subst e; exact absurd hqs hsub
          · exact h2 q (by omega) hqs
        · exact absurd (show sub s M by rw [show s = M by omega]; exact fun _ h => h) hsub
  have outer : ∀ (d k f : Nat) (least : Nat → Int64), k = n1 + d → k ≤ tm 2 → d < f → (∀ q, sub q M → least (1024 * k + q) = lI (VV T N tm (tm 2 - k) q)) → ∃ least', Mo_findWisest_l64 F (nI N) od ln lt se (nI n1) (nI M) f (nI k + (-1)) (actN T N tm k M) least = some (actN T N tm n1 M, least') ∧ least' (1024 * n1 + M) = lI (VV T N tm (tm 2 - n1) M) := by
    intro d
    induction d with
    | zero =>
      intro k f least hk hk2 hf h
      obtain ⟨f, rfl⟩ : ∃ f', f = f' + 1 := ⟨f - 1, by omega⟩
      obtain rfl : k = n1 := by omega
      show ∃ least', Mo_findWisest_b64 F (nI N) od ln lt se (nI k) (nI M) _ _ _ least = _ ∧ _
      unfold Mo_findWisest_b64
      rw [if_pos ((k13.1 k (by omega) k (by omega)).mpr (Nat.le_refl _))]
      exact ⟨least, rfl, h M (fun _ h => h)⟩
    | succ d ih =>
      intro k f least hk hk2 hf h
      obtain ⟨f, rfl⟩ : ∃ f', f = f' + 1 := ⟨f - 1, by omega⟩
      obtain ⟨n, rfl⟩ : ∃ n, k = n + 1 := ⟨k - 1, by omega⟩
      show ∃ least', Mo_findWisest_b64 F (nI N) od ln lt se (nI n1) (nI M) (Mo_findWisest_l64 F (nI N) od ln lt se (nI n1) (nI M) f) _ _ least = _ ∧ _
      unfold Mo_findWisest_b64
      rw [if_neg (fun hq => by have := (k13.1 (n + 1) (by omega) n1 (by omega)).mp hq; omega), m1_add]
      obtain ⟨least', e1, e2⟩ := inner n (by omega) (M + 1) 0 F (Mo_findWisest_l64 F (nI N) od ln lt se (nI n1) (nI M) f) (actN T N tm (n + 1) M) least (by omega) (by omega) h (fun q hq _ => absurd hq (Nat.not_lt_zero q)) (fun he => by omega)
      obtain ⟨least2, f1, f2⟩ := ih n f least' (by omega) (by omega) (by omega) e2
      refine ⟨least2, ?_, f2⟩
      rw [← f1]
      exact e1
  have first : ∀ (d s f : Nat) (todo : Int32) (least : Nat → Int64), s + d = M + 1 → d < f → (∀ q, q < s → sub q M → least (1024 * tm 2 + q) = lI (VV T N tm 0 q)) → ∃ least', Mo_findWisest_l2 F (nI N) od ln lt se (nI n1) (nI M) f (nI s) todo least = some (actN T N tm n1 M, least') ∧ least' (1024 * n1 + M) = lI (VV T N tm (tm 2 - n1) M) := by
    intro d
    induction d with
    | zero =>
      intro s f todo least hs hf h
      obtain ⟨f, rfl⟩ : ∃ f', f = f' + 1 := ⟨f - 1, by omega⟩
      show ∃ least', Mo_findWisest_b2 F (nI N) od ln lt se (nI n1) (nI M) _ _ todo least = _ ∧ _
      unfold Mo_findWisest_b2 Mo_findWisest_b50
      rw [if_pos (show nI M < nI s by rw [ltN (by omega) (by omega)]; omega), r2, hC 2 (by omega), k13.2 (tm 2) (by omega)]
      have ho := outer (tm 2 - n1) (tm 2) F least (by omega) (Nat.le_refl _) (by omega) (fun q hq => by
        rw [Nat.sub_self]; exact h q (by have := sub_le N hM hq; omega) hq)
      rw [act0] at ho
      exact ho
    | succ d ih =>
      intro s f todo least hs hf h
      obtain ⟨f, rfl⟩ : ∃ f', f = f' + 1 := ⟨f - 1, by omega⟩
      show ∃ least', Mo_findWisest_b2 F (nI N) od ln lt se (nI n1) (nI M) (Mo_findWisest_l2 F (nI N) od ln lt se (nI n1) (nI M) f) _ todo least = _ ∧ _
      have hsl : s < 2 ^ N := by omega
      have hnl := ndf_lt (b := M) hsl
      have hu := UU_bd hO hN hT hsl
      unfold ww at hu
      unfold Mo_findWisest_b2 Mo_findWisest_b44
      rw [if_neg (show ¬ nI M < nI s by rw [ltN (by omega) (by omega)]; omega), ndfI, show nI s + 1 = nI (s + 1) from nI_1 _]
      by_cases hsub : sub s M
      · rw [if_pos (show nI (ndf s M) = 0 by rw [ndf_sub0.mpr hsub]; rfl), r2, hC 2 (by omega), Mo_weight_ok hO hN (by omega) hsl, cb1_s, Mo_ruin_ok hC hT, cb1_s, show (1024 : Int32) = nI 1024 from rfl, mulN, nI_add, tL (by omega), tL (by omega), lI_mul, wrLN (by omega) (by omega)]
        refine ih (s + 1) f _ _ (by omega) (by omega) (fun q hq hqs => ?_)
        by_cases e : q = s
        · subst e; rw [pk_uLs]; rfl
        · rw [pk_uLn (by omega)]; exact h q (by omega) hqs
      · rw [if_neg (show ¬ nI (ndf s M) = 0 from fun hq => hsub (ndf_sub0.mp ((nI_eq (b := 0) (by omega) (by omega)).mp hq)))]
        refine ih (s + 1) f _ _ (by omega) (by omega) (fun q hq hqs => ?_)
        by_cases e : q = s
        · subst e; exact absurd hqs hsub
        · exact h q (by omega) hqs
  exact first (M + 1) 0 F todo least (by omega) (by omega) (fun q hq _ => absurd hq (Nat.not_lt_zero q))
