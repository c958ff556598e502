/-! the class's table of what fits -/
theorem bo_and (p q : Nat → Bool) (n : Nat) : bo p n &&& bo q n = bo (fun k => p k && q k) n := by
  refine m_ext (and_lt (bo_lt p n)) (bo_lt _ n) (fun i hi => ?_)
  rw [Nat.testBit_and, bo_bit, bo_bit, bo_bit, show decide (i < n) = true from decide_eq_true hi, Bool.true_and, Bool.true_and, Bool.true_and]
theorem Fi_by_loop {T Tp Ts : Nat → Nat} {N P S : Nat} {pf : Nat → Int32} (hN : N ≤ 10) (hP6 : P ≤ 6) (hpf : ∀ q, q < P → pf q = nI (bo (fun k => heardB T Tp k q) N)) (F : Nat) (sf : Int32) {B : Nat} (hB : B < 64) : ∀ (m q f : Nat), q + m = P → m < f → Fi_by_l7 F (nI P) sf pf (nI B) f (nI (bo (fun k => sungB T Ts S k && allB (fun q => !B.testBit q || heardB T Tp k q) q) N)) (nI q) = some (nI (fm T Tp Ts N P S B)) := by
  intro m
  induction m with
  | zero =>
    intro q f hq hf
    obtain ⟨f, rfl⟩ : ∃ f', f = f' + 1 := ⟨f - 1, by omega⟩
    show Fi_by_b7 F (nI P) sf pf (nI B) _ _ (nI q) = _
    unfold Fi_by_b7
    rw [if_pos (show nI P ≤ nI q by rw [leN (by omega) (by omega)]; omega), show q = P by omega]; rfl
  | succ m ih =>
    intro q f hq hf
    obtain ⟨f, rfl⟩ : ∃ f', f = f' + 1 := ⟨f - 1, by omega⟩
    show Fi_by_b7 F (nI P) sf pf (nI B) (Fi_by_l7 F (nI P) sf pf (nI B) f) _ (nI q) = _
    unfold Fi_by_b7 Fi_by_b32
    rw [if_neg (show ¬ nI P ≤ nI q by rw [leN (by omega) (by omega)]; omega), sh1 q (by omega), show nI q + 1 = nI (q + 1) from nI_1 _, ← ih (q + 1) f (by omega) (by omega)]
    cases hb : B.testBit q with
    | false =>
      rw [if_pos (show nI B &&& nI (2 ^ q) = 0 by rw [bBit (by omega)]; exact hb)]
      rw [bo_ext (n := N) (fun i _ => show (sungB T Ts S i && allB (fun q => !B.testBit q || heardB T Tp i q) q) = (sungB T Ts S i && allB (fun q => !B.testBit q || heardB T Tp i q) (q + 1)) by rw [allB, hb]; simp)]
    | true =>
      rw [if_neg (show ¬ nI B &&& nI (2 ^ q) = 0 by rw [bBit (by omega), hb]; decide), rdN (by omega) (by omega), hpf q (by omega), bAnd, bo_and]
      rw [bo_ext (n := N) (fun i _ => show (sungB T Ts S i && allB (fun q => !B.testBit q || heardB T Tp i q) q && heardB T Tp i q) = (sungB T Ts S i && allB (fun q => !B.testBit q || heardB T Tp i q) (q + 1)) by rw [allB, hb, ← Bool.and_assoc]; rfl)]
theorem Fi_by_ok {T Tp Ts : Nat → Nat} {N P S : Nat} {pf : Nat → Int32} (hN : N ≤ 10) (hP6 : P ≤ 6) (hpf : ∀ q, q < P → pf q = nI (bo (fun k => heardB T Tp k q) N)) {F : Nat} (hF : 100 ≤ F) {B : Nat} (hB : B < 64) : Fi_by F (nI P) (nI (bo (sungB T Ts S) N)) pf (nI B) = some (nI (fm T Tp Ts N P S B)) := by
  unfold Fi_by
  have := Fi_by_loop (Ts := Ts) (S := S) hN hP6 hpf F (nI (bo (sungB T Ts S) N)) hB P 0 F (by omega) (by omega)
  rw [← this]
  rw [bo_ext (n := N) (fun i _ => show (sungB T Ts S i && allB (fun q => !B.testBit q || heardB T Tp i q) 0) = sungB T Ts S i by rw [allB, Bool.and_true])]
  rfl
def FtOK (T Tp Ts : Nat → Nat) (N P S : Nat) (pc sf af ord : Int32) (pf io : Nat → Int32) : Prop := pc = nI P ∧ sf = nI (bo (sungB T Ts S) N) ∧ af = nI (fm T Tp Ts N P S 63) ∧ RowOK (Od T) N (fm T Tp Ts N P S 63) ord io ∧ ∀ q, q < P → pf q = nI (bo (fun k => heardB T Tp k q) N)
abbrev ft6 := Option (Int32 × Int32 × Int32 × Int32 × (Nat → Int32) × (Nat → Int32))
theorem Fi_up_in {T Tp : Nat → Nat} {N P : Nat} {od ln lt is pn pl : Nat → Int32} (hO : NmOK T N od ln lt) (hN : N ≤ 10) (hP : PcOK Tp P is pn pl) (hP6 : P ≤ 6) {F : Nat} (hF : 100 ≤ F) (s3 : Int32) (sg : Nat → Int32) (rec24 : Int32 → Int32 → Int32 → Int32 → Int32 → (Nat → Int32) → (Nat → Int32) → ft6) {k : Nat} (hk : k < N) (sf af ord : Int32) (io : Nat → Int32) : ∀ (m q f : Nat) (pf : Nat → Int32), q + m = P → m < f → (∀ q', q' < q → pf q' = nI (bo (fun k => heardB T Tp k q') (k + 1))) → (∀ q', q ≤ q' → q' < P → pf q' = nI (bo (fun k => heardB T Tp k q') k)) → ∃ pf', Fi_update_l59 F (nI N) od ln lt (nI P) is pn pl s3 sg rec24 f (nI k) (nI q) (nI P) sf af ord pf io = rec24 (nI (k + 1)) (nI P) sf af ord pf' io ∧ ∀ q', q' < P → pf' q' = nI (bo (fun k => heardB T Tp k q') (k + 1)) := by
  intro m
  induction m with
  | zero =>
    intro q f pf hq hf h1 h2
    obtain ⟨f, rfl⟩ : ∃ f', f = f' + 1 := ⟨f - 1, by omega⟩
    show ∃ pf', Fi_update_b59 F (nI N) od ln lt (nI P) is pn pl s3 sg rec24 _ (nI k) (nI q) (nI P) sf af ord pf io = _ ∧ _
    unfold Fi_update_b59 Fi_update_b100
    rw [if_pos (show nI P ≤ nI q by rw [leN (by omega) (by omega)]; omega), show nI k + 1 = nI (k + 1) from nI_1 _]
    exact ⟨pf, rfl, fun q' h => h1 q' (by omega)⟩
  | succ m ih =>
    intro q f pf hq hf h1 h2
    obtain ⟨f, rfl⟩ : ∃ f', f = f' + 1 := ⟨f - 1, by omega⟩
    show ∃ pf', Fi_update_b59 F (nI N) od ln lt (nI P) is pn pl s3 sg rec24 (Fi_update_l59 F (nI N) od ln lt (nI P) is pn pl s3 sg rec24 f) (nI k) (nI q) (nI P) sf af ord pf io = _ ∧ _
    unfold Fi_update_b59 Fi_update_b94
    rw [if_neg (show ¬ nI P ≤ nI q by rw [leN (by omega) (by omega)]; omega), Pi_isTrueOf_ok hO hN hP hP6 hF hk (by omega), cb1_s, show nI q + 1 = nI (q + 1) from nI_1 _]
    cases hh : heardB T Tp k q with
    | false =>
      rw [if_pos (show bI false = 0 from rfl)]
      refine ih (q + 1) f pf (by omega) (by omega) (fun q' hq' => ?_) (fun q' ha hb => h2 q' (by omega) hb)
      by_cases e : q' = q
      · subst e; rw [h2 q' (by omega) (by omega), bo_no (p := fun k => heardB T Tp k q') hh]
      · exact h1 q' (by omega)
    | true =>
      rw [if_neg (show ¬ bI true = 0 by decide), rdN (by omega) (by omega), wrN (by omega) (by omega), sh1 k (by omega), h2 q (by omega) (by omega)]
      refine ih (q + 1) f _ (by omega) (by omega) (fun q' hq' => ?_) (fun q' ha hb => ?_)
      · by_cases e : q' = q
        · subst e; rw [upd_s, bo_orI (p := fun k => heardB T Tp k q') hh]
        · rw [upd_n e]; exact h1 q' (by omega)
      · rw [upd_n (show q' ≠ q by omega)]; exact h2 q' (by omega) hb
theorem Fi_up_loop {T Tp Ts : Nat → Nat} {N P S : Nat} {od ln lt is pn pl sg : Nat → Int32} (hO : NmOK T N od ln lt) (hN : N ≤ 10) (hP : PcOK Tp P is pn pl) (hP6 : P ≤ 6) (hS : SgOK Ts S sg) (hS6 : S ≤ 6) {F : Nat} (hF : 100 ≤ F) (af ord : Int32) (io : Nat → Int32) : ∀ (m k f : Nat) (pf : Nat → Int32), k + m = N → m < f → (∀ q', q' < P → pf q' = nI (bo (fun k => heardB T Tp k q') k)) → ∃ pc' sf' af' ord' pf' io', Fi_update_l24 F (nI N) od ln lt (nI P) is pn pl (nI S) sg f (nI k) (nI P) (nI (bo (sungB T Ts S) k)) af ord pf io = some (pc', sf', af', ord', pf', io') ∧ FtOK T Tp Ts N P S pc' sf' af' ord' pf' io' := by
  intro m
  induction m with
  | zero =>
    intro k f pf hk hf h1
    obtain ⟨f, rfl⟩ : ∃ f', f = f' + 1 := ⟨f - 1, by omega⟩
    have hk' : k = N := by omega
    subst hk'
    show ∃ pc' sf' af' ord' pf' io', Fi_update_b24 F (nI k) od ln lt (nI P) is pn pl (nI S) sg _ (nI k) (nI P) (nI (bo (sungB T Ts S) k)) af ord pf io = _ ∧ _
    unfold Fi_update_b24 Na_size Fi_update_b106
    obtain ⟨c, row, e1, e2⟩ := Fi_order_ok hO hN hF (fm_lt T Tp Ts k P S 63) ord io
    rw [cb1_s, if_pos (show nI k ≤ nI k by rw [leN (by omega) (by omega)]; omega), show (63 : Int32) = nI 63 from rfl, Fi_by_ok hN hP6 h1 hF (by omega), cb1_s, e1, cb2_s]
    exact ⟨_, _, _, _, _, _, rfl, rfl, rfl, rfl, e2, h1⟩
  | succ m ih =>
    intro k f pf hk hf h1
    obtain ⟨f, rfl⟩ : ∃ f', f = f' + 1 := ⟨f - 1, by omega⟩
    show ∃ pc' sf' af' ord' pf' io', Fi_update_b24 F (nI N) od ln lt (nI P) is pn pl (nI S) sg (Fi_update_l24 F (nI N) od ln lt (nI P) is pn pl (nI S) sg f) (nI k) (nI P) (nI (bo (sungB T Ts S) k)) af ord pf io = _ ∧ _
    unfold Fi_update_b24 Na_size Fi_update_b56
    rw [cb1_s, if_neg (show ¬ nI N ≤ nI k by rw [leN (by omega) (by omega)]; omega), So_isTrueOf_ok hO hN hS hS6 hF (by omega), cb1_s, sh1 k (by omega)]
    have step : ∀ sf, sf = nI (bo (sungB T Ts S) (k + 1)) → ∃ pc' sf' af' ord' pf' io', Fi_update_l59 F (nI N) od ln lt (nI P) is pn pl (nI S) sg (Fi_update_l24 F (nI N) od ln lt (nI P) is pn pl (nI S) sg f) F (nI k) 0 (nI P) sf af ord pf io = some (pc', sf', af', ord', pf', io') ∧ FtOK T Tp Ts N P S pc' sf' af' ord' pf' io' := by
      intro sf hsf
      obtain ⟨pf', e1, e2⟩ := Fi_up_in hO hN hP hP6 hF (nI S) sg (Fi_update_l24 F (nI N) od ln lt (nI P) is pn pl (nI S) sg f) (show k < N by omega) sf af ord io P 0 F pf (by omega) (by omega) (fun q' h => absurd h (Nat.not_lt_zero q')) (fun q' _ h => h1 q' h)
      rw [n0, e1, hsf]
      exact ih (k + 1) f pf' (by omega) (by omega) e2
    cases hs : sungB T Ts S k with
    | false =>
      rw [if_pos (show bI false = 0 from rfl)]
      exact step _ (by rw [bo_no hs])
    | true =>
      rw [if_neg (show ¬ bI true = 0 by decide)]
      exact step _ (bo_orI hs)
theorem Fi_update_ok {T Tp Ts : Nat → Nat} {N P S : Nat} {od ln lt is pn pl sg : Nat → Int32} (hO : NmOK T N od ln lt) (hN : N ≤ 10) (hP : PcOK Tp P is pn pl) (hP6 : P ≤ 6) (hS : SgOK Ts S sg) (hS6 : S ≤ 6) {F : Nat} (hF : 100 ≤ F) (pc sf af ord : Int32) (pf io : Nat → Int32) : ∃ pc' sf' af' ord' pf' io', Fi_update F (nI N) od ln lt (nI P) is pn pl (nI S) sg pc sf af ord pf io = some (pc', sf', af', ord', pf', io') ∧ FtOK T Tp Ts N P S pc' sf' af' ord' pf' io' := by
  unfold Fi_update Pi_size
  obtain ⟨w, e1, e2⟩ := fill0 (F := F) (cap := 6) (by omega) (by omega) pf
  rw [e1, cb1_s, cb1_s]
  exact Fi_up_loop hO hN hP hP6 hS hS6 hF af ord io N 0 F w (by omega) (by omega) (fun q h => e2 q (by omega))
