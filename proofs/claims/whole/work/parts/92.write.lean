/-! write agrees -/
theorem write_loop_0 {T : Nat → Nat} {N M : Nat} (hN : N ≤ 10) (F : Nat) (t0s : Int32) (t0b : (Nat → Int32)) (t1s : Int32) (t1b : (Nat → Int32)) (t2s : Int32) (t2b : (Nat → Int32)) (h0f h0s h1f h1s h2f h2s h3f h3s : Int32) (x1 st fd : Int32) (nz : Int32) (nf : Int32) (nod : (Nat → Int32)) (nln : (Nat → Int32)) (nlt : (Nat → Int32)) (nal : (Nat → Int32)) (nto : (Nat → Int32)) (pz : Int32) (pf : Int32) (pis : (Nat → Int32)) (pln : (Nat → Int32)) (plt : (Nat → Int32)) (sz : Int32) (sf : Int32) (slt : (Nat → Int32)) (fpc fsf faf : Int32) (fpf : Nat → Int32) {ford : Int32} {fio : Nat → Int32} (hR : RowOK (Od T) N M ford fio) {c2 : Int32} {row : Nat → Int32} (hR2 : RowOK (Od T) N M c2 row) {forms sizes bytes typed : Nat → Int32} (lt2 ra rn rp rs : Int32) (rch rlo rle ris rpl rpt rso : Nat → Int32) {a m C : Nat} (ha : a ≤ 2) (hm : m ≤ 60) (hf : h0f = nI a) (hs : h0s = nI m) (hf2 : forms 0 = nI a) (hs2 : sizes 0 = nI m) (hC : C ≤ m) (hC2 : C ≤ cnt M N) : ∀ (d j f1 f2 : Nat) (h0i h1i h2i h3i : Nat → Int32) (items : Nat → Int32), j + d = C → d < f1 → d < f2 → (∀ q, q < m → h0i q = items (60 * 0 + q)) →
    ∃ h0i' items', ND_write_l54v3 F t0s t0b t1s t1b t2s t2b h0f h0s h1f h1s h2f h2s h3f h3s x1 f1 (nI C) (nI j) st fd nz nf nod nln nlt nal nto pz pf pis pln plt sz sf slt fpc fsf faf ford fpf fio h0i h1i h2i h3i = some (nI C, st, fd, nz, nf, nod, nln, nlt, nal, nto, pz, pf, pis, pln, plt, sz, sf, slt, fpc, fsf, faf, ford, fpf, fio, h0i', h1i, h2i, h3i) ∧ Mo_write_l58 F forms sizes bytes typed (nI 0) f2 (nI C) (nI j) lt2 ra rn rp rs items rch rlo rle ris rpl rpt rso row = some (nI C, lt2, ra, rn, rp, rs, items', rch, rlo, rle, ris, rpl, rpt, rso, row) ∧ (∀ q, q < m → h0i' q = items' (60 * 0 + q)) ∧ (∀ q, (q < 60 * 0 ∨ 60 * 0 + 60 ≤ q) → items' q = items q) := by
  obtain ⟨a1, a2⟩ := hR
  obtain ⟨b1, b2⟩ := hR2
  have hcl := cnt_le M N
  intro d
  induction d with
  | zero =>
    intro j f1 f2 h0i h1i h2i h3i items hj hf1 hf2' hi
    obtain ⟨f1, rfl⟩ : ∃ f', f1 = f' + 1 := ⟨f1 - 1, by omega⟩
    obtain ⟨f2, rfl⟩ : ∃ f', f2 = f' + 1 := ⟨f2 - 1, by omega⟩
    refine ⟨h0i, items, ?_, ?_, hi, fun _ _ => rfl⟩
    · show ND_write_b54v3 F t0s t0b t1s t1b t2s t2b h0f h0s h1f h1s h2f h2s h3f h3s x1 _ (nI C) (nI j) st fd nz nf nod nln nlt nal nto pz pf pis pln plt sz sf slt fpc fsf faf ford fpf fio h0i h1i h2i h3i = _
      unfold ND_write_b54v3
      rw [if_pos (show nI C ≤ nI j by rw [leN (by omega) (by omega)]; omega)]
    · show Mo_write_b58 F forms sizes bytes typed (nI 0) _ (nI C) (nI j) lt2 ra rn rp rs items rch rlo rle ris rpl rpt rso row = _
      unfold Mo_write_b58
      rw [if_pos (show nI C ≤ nI j by rw [leN (by omega) (by omega)]; omega)]
  | succ d ih =>
    intro j f1 f2 h0i h1i h2i h3i items hj hf1 hf2' hi
    obtain ⟨f1, rfl⟩ : ∃ f', f1 = f' + 1 := ⟨f1 - 1, by omega⟩
    obtain ⟨f2, rfl⟩ : ∃ f', f2 = f' + 1 := ⟨f2 - 1, by omega⟩
    obtain ⟨v, w1, w2⟩ := Sh_put_ok hm (show j < m by omega) h0i h0f (nI (sel (Od T) (remM (Od T) N M j) N))
    have e1 : ND_write_l54v3 F t0s t0b t1s t1b t2s t2b h0f h0s h1f h1s h2f h2s h3f h3s x1 (f1 + 1) (nI C) (nI j) st fd nz nf nod nln nlt nal nto pz pf pis pln plt sz sf slt fpc fsf faf ford fpf fio h0i h1i h2i h3i = ND_write_l54v3 F t0s t0b t1s t1b t2s t2b h0f h0s h1f h1s h2f h2s h3f h3s x1 f1 (nI C) (nI (j + 1)) st fd nz nf nod nln nlt nal nto pz pf pis pln plt sz sf slt fpc fsf faf ford fpf fio (upd h0i j v) h1i h2i h3i := by
      show ND_write_b54v3 F t0s t0b t1s t1b t2s t2b h0f h0s h1f h1s h2f h2s h3f h3s x1 (ND_write_l54v3 F t0s t0b t1s t1b t2s t2b h0f h0s h1f h1s h2f h2s h3f h3s x1 f1) (nI C) (nI j) st fd nz nf nod nln nlt nal nto pz pf pis pln plt sz sf slt fpc fsf faf ford fpf fio h0i h1i h2i h3i = _
      unfold ND_write_b54v3 Fi_inRow
      rw [if_neg (show ¬ nI C ≤ nI j by rw [leN (by omega) (by omega)]; omega), if_neg (nI_pos (by omega)), if_neg (show ¬ ford ≤ nI j by rw [a1, leN (by omega) (by omega)]; omega), rdN (by omega) (by omega), a2 j (by omega), cb1_s, hs, w1, cb1_s, show nI j + 1 = nI (j + 1) from nI_1 _]
    have e2 : Mo_write_l58 F forms sizes bytes typed (nI 0) (f2 + 1) (nI C) (nI j) lt2 ra rn rp rs items rch rlo rle ris rpl rpt rso row = Mo_write_l58 F forms sizes bytes typed (nI 0) f2 (nI C) (nI (j + 1)) lt2 ra rn rp rs (upd items (60 * 0 + j) v) rch rlo rle ris rpl rpt rso row := by
      show Mo_write_b58 F forms sizes bytes typed (nI 0) (Mo_write_l58 F forms sizes bytes typed (nI 0) f2) (nI C) (nI j) lt2 ra rn rp rs items rch rlo rle ris rpl rpt rso row = _
      unfold Mo_write_b58
      rw [if_neg (show ¬ nI C ≤ nI j by rw [leN (by omega) (by omega)]; omega), rdN (by omega) (by omega), hf2, ← hf, rdN (by omega) (by omega), b2 j (by omega), w2, cb1_s, show (60 : Int32) = nI 60 from rfl, mulN, nI_add, wrN (by omega) (by omega), show nI j + 1 = nI (j + 1) from nI_1 _]
    obtain ⟨hi', it', c1, c2', c3, c4⟩ := ih (j + 1) f1 f2 (upd h0i j v) h1i h2i h3i (upd items (60 * 0 + j) v) (by omega) (by omega) (by omega) (fun q hq => by
      by_cases e : q = j
      · subst e; rw [upd_s, upd_s]
      · rw [upd_n e, upd_n (by omega)]; exact hi q hq)
    rw [e1, e2, c1, c2']
    exact ⟨hi', it', rfl, rfl, c3, fun q hq => by rw [c4 q hq, upd_n (by omega)]⟩
theorem write_loop_1 {T : Nat → Nat} {N M : Nat} (hN : N ≤ 10) (F : Nat) (t0s : Int32) (t0b : (Nat → Int32)) (t1s : Int32) (t1b : (Nat → Int32)) (t2s : Int32) (t2b : (Nat → Int32)) (h0f h0s h1f h1s h2f h2s h3f h3s : Int32) (x1 st fd : Int32) (nz : Int32) (nf : Int32) (nod : (Nat → Int32)) (nln : (Nat → Int32)) (nlt : (Nat → Int32)) (nal : (Nat → Int32)) (nto : (Nat → Int32)) (pz : Int32) (pf : Int32) (pis : (Nat → Int32)) (pln : (Nat → Int32)) (plt : (Nat → Int32)) (sz : Int32) (sf : Int32) (slt : (Nat → Int32)) (fpc fsf faf : Int32) (fpf : Nat → Int32) {ford : Int32} {fio : Nat → Int32} (hR : RowOK (Od T) N M ford fio) {c2 : Int32} {row : Nat → Int32} (hR2 : RowOK (Od T) N M c2 row) {forms sizes bytes typed : Nat → Int32} (lt2 ra rn rp rs : Int32) (rch rlo rle ris rpl rpt rso : Nat → Int32) {a m C : Nat} (ha : a ≤ 2) (hm : m ≤ 60) (hf : h1f = nI a) (hs : h1s = nI m) (hf2 : forms 1 = nI a) (hs2 : sizes 1 = nI m) (hC : C ≤ m) (hC2 : C ≤ cnt M N) : ∀ (d j f1 f2 : Nat) (h0i h1i h2i h3i : Nat → Int32) (items : Nat → Int32), j + d = C → d < f1 → d < f2 → (∀ q, q < m → h1i q = items (60 * 1 + q)) →
    ∃ h1i' items', ND_write_l54v2 F t0s t0b t1s t1b t2s t2b h0f h0s h1f h1s h2f h2s h3f h3s x1 f1 (nI C) (nI j) st fd nz nf nod nln nlt nal nto pz pf pis pln plt sz sf slt fpc fsf faf ford fpf fio h0i h1i h2i h3i = some (nI C, st, fd, nz, nf, nod, nln, nlt, nal, nto, pz, pf, pis, pln, plt, sz, sf, slt, fpc, fsf, faf, ford, fpf, fio, h0i, h1i', h2i, h3i) ∧ Mo_write_l58 F forms sizes bytes typed (nI 1) f2 (nI C) (nI j) lt2 ra rn rp rs items rch rlo rle ris rpl rpt rso row = some (nI C, lt2, ra, rn, rp, rs, items', rch, rlo, rle, ris, rpl, rpt, rso, row) ∧ (∀ q, q < m → h1i' q = items' (60 * 1 + q)) ∧ (∀ q, (q < 60 * 1 ∨ 60 * 1 + 60 ≤ q) → items' q = items q) := by
  obtain ⟨a1, a2⟩ := hR
  obtain ⟨b1, b2⟩ := hR2
  have hcl := cnt_le M N
  intro d
  induction d with
  | zero =>
    intro j f1 f2 h0i h1i h2i h3i items hj hf1 hf2' hi
    obtain ⟨f1, rfl⟩ : ∃ f', f1 = f' + 1 := ⟨f1 - 1, by omega⟩
    obtain ⟨f2, rfl⟩ : ∃ f', f2 = f' + 1 := ⟨f2 - 1, by omega⟩
    refine ⟨h1i, items, ?_, ?_, hi, fun _ _ => rfl⟩
    · show ND_write_b54v2 F t0s t0b t1s t1b t2s t2b h0f h0s h1f h1s h2f h2s h3f h3s x1 _ (nI C) (nI j) st fd nz nf nod nln nlt nal nto pz pf pis pln plt sz sf slt fpc fsf faf ford fpf fio h0i h1i h2i h3i = _
      unfold ND_write_b54v2
      rw [if_pos (show nI C ≤ nI j by rw [leN (by omega) (by omega)]; omega)]
    · show Mo_write_b58 F forms sizes bytes typed (nI 1) _ (nI C) (nI j) lt2 ra rn rp rs items rch rlo rle ris rpl rpt rso row = _
      unfold Mo_write_b58
      rw [if_pos (show nI C ≤ nI j by rw [leN (by omega) (by omega)]; omega)]
  | succ d ih =>
    intro j f1 f2 h0i h1i h2i h3i items hj hf1 hf2' hi
    obtain ⟨f1, rfl⟩ : ∃ f', f1 = f' + 1 := ⟨f1 - 1, by omega⟩
    obtain ⟨f2, rfl⟩ : ∃ f', f2 = f' + 1 := ⟨f2 - 1, by omega⟩
    obtain ⟨v, w1, w2⟩ := Sh_put_ok hm (show j < m by omega) h1i h1f (nI (sel (Od T) (remM (Od T) N M j) N))
    have e1 : ND_write_l54v2 F t0s t0b t1s t1b t2s t2b h0f h0s h1f h1s h2f h2s h3f h3s x1 (f1 + 1) (nI C) (nI j) st fd nz nf nod nln nlt nal nto pz pf pis pln plt sz sf slt fpc fsf faf ford fpf fio h0i h1i h2i h3i = ND_write_l54v2 F t0s t0b t1s t1b t2s t2b h0f h0s h1f h1s h2f h2s h3f h3s x1 f1 (nI C) (nI (j + 1)) st fd nz nf nod nln nlt nal nto pz pf pis pln plt sz sf slt fpc fsf faf ford fpf fio h0i (upd h1i j v) h2i h3i := by
      show ND_write_b54v2 F t0s t0b t1s t1b t2s t2b h0f h0s h1f h1s h2f h2s h3f h3s x1 (ND_write_l54v2 F t0s t0b t1s t1b t2s t2b h0f h0s h1f h1s h2f h2s h3f h3s x1 f1) (nI C) (nI j) st fd nz nf nod nln nlt nal nto pz pf pis pln plt sz sf slt fpc fsf faf ford fpf fio h0i h1i h2i h3i = _
      unfold ND_write_b54v2 Fi_inRow
      rw [if_neg (show ¬ nI C ≤ nI j by rw [leN (by omega) (by omega)]; omega), if_neg (nI_pos (by omega)), if_neg (show ¬ ford ≤ nI j by rw [a1, leN (by omega) (by omega)]; omega), rdN (by omega) (by omega), a2 j (by omega), cb1_s, hs, w1, cb1_s, show nI j + 1 = nI (j + 1) from nI_1 _]
    have e2 : Mo_write_l58 F forms sizes bytes typed (nI 1) (f2 + 1) (nI C) (nI j) lt2 ra rn rp rs items rch rlo rle ris rpl rpt rso row = Mo_write_l58 F forms sizes bytes typed (nI 1) f2 (nI C) (nI (j + 1)) lt2 ra rn rp rs (upd items (60 * 1 + j) v) rch rlo rle ris rpl rpt rso row := by
      show Mo_write_b58 F forms sizes bytes typed (nI 1) (Mo_write_l58 F forms sizes bytes typed (nI 1) f2) (nI C) (nI j) lt2 ra rn rp rs items rch rlo rle ris rpl rpt rso row = _
      unfold Mo_write_b58
      rw [if_neg (show ¬ nI C ≤ nI j by rw [leN (by omega) (by omega)]; omega), rdN (by omega) (by omega), hf2, ← hf, rdN (by omega) (by omega), b2 j (by omega), w2, cb1_s, show (60 : Int32) = nI 60 from rfl, mulN, nI_add, wrN (by omega) (by omega), show nI j + 1 = nI (j + 1) from nI_1 _]
    obtain ⟨hi', it', c1, c2', c3, c4⟩ := ih (j + 1) f1 f2 h0i (upd h1i j v) h2i h3i (upd items (60 * 1 + j) v) (by omega) (by omega) (by omega) (fun q hq => by
      by_cases e : q = j
      · subst e; rw [upd_s, upd_s]
      · rw [upd_n e, upd_n (by omega)]; exact hi q hq)
    rw [e1, e2, c1, c2']
    exact ⟨hi', it', rfl, rfl, c3, fun q hq => by rw [c4 q hq, upd_n (by omega)]⟩
theorem write_loop_2 {T : Nat → Nat} {N M : Nat} (hN : N ≤ 10) (F : Nat) (t0s : Int32) (t0b : (Nat → Int32)) (t1s : Int32) (t1b : (Nat → Int32)) (t2s : Int32) (t2b : (Nat → Int32)) (h0f h0s h1f h1s h2f h2s h3f h3s : Int32) (x1 st fd : Int32) (nz : Int32) (nf : Int32) (nod : (Nat → Int32)) (nln : (Nat → Int32)) (nlt : (Nat → Int32)) (nal : (Nat → Int32)) (nto : (Nat → Int32)) (pz : Int32) (pf : Int32) (pis : (Nat → Int32)) (pln : (Nat → Int32)) (plt : (Nat → Int32)) (sz : Int32) (sf : Int32) (slt : (Nat → Int32)) (fpc fsf faf : Int32) (fpf : Nat → Int32) {ford : Int32} {fio : Nat → Int32} (hR : RowOK (Od T) N M ford fio) {c2 : Int32} {row : Nat → Int32} (hR2 : RowOK (Od T) N M c2 row) {forms sizes bytes typed : Nat → Int32} (lt2 ra rn rp rs : Int32) (rch rlo rle ris rpl rpt rso : Nat → Int32) {a m C : Nat} (ha : a ≤ 2) (hm : m ≤ 60) (hf : h2f = nI a) (hs : h2s = nI m) (hf2 : forms 2 = nI a) (hs2 : sizes 2 = nI m) (hC : C ≤ m) (hC2 : C ≤ cnt M N) : ∀ (d j f1 f2 : Nat) (h0i h1i h2i h3i : Nat → Int32) (items : Nat → Int32), j + d = C → d < f1 → d < f2 → (∀ q, q < m → h2i q = items (60 * 2 + q)) →
    ∃ h2i' items', ND_write_l54v1 F t0s t0b t1s t1b t2s t2b h0f h0s h1f h1s h2f h2s h3f h3s x1 f1 (nI C) (nI j) st fd nz nf nod nln nlt nal nto pz pf pis pln plt sz sf slt fpc fsf faf ford fpf fio h0i h1i h2i h3i = some (nI C, st, fd, nz, nf, nod, nln, nlt, nal, nto, pz, pf, pis, pln, plt, sz, sf, slt, fpc, fsf, faf, ford, fpf, fio, h0i, h1i, h2i', h3i) ∧ Mo_write_l58 F forms sizes bytes typed (nI 2) f2 (nI C) (nI j) lt2 ra rn rp rs items rch rlo rle ris rpl rpt rso row = some (nI C, lt2, ra, rn, rp, rs, items', rch, rlo, rle, ris, rpl, rpt, rso, row) ∧ (∀ q, q < m → h2i' q = items' (60 * 2 + q)) ∧ (∀ q, (q < 60 * 2 ∨ 60 * 2 + 60 ≤ q) → items' q = items q) := by
  obtain ⟨a1, a2⟩ := hR
  obtain ⟨b1, b2⟩ := hR2
  have hcl := cnt_le M N
  intro d
  induction d with
  | zero =>
    intro j f1 f2 h0i h1i h2i h3i items hj hf1 hf2' hi
    obtain ⟨f1, rfl⟩ : ∃ f', f1 = f' + 1 := ⟨f1 - 1, by omega⟩
    obtain ⟨f2, rfl⟩ : ∃ f', f2 = f' + 1 := ⟨f2 - 1, by omega⟩
    refine ⟨h2i, items, ?_, ?_, hi, fun _ _ => rfl⟩
    · show ND_write_b54v1 F t0s t0b t1s t1b t2s t2b h0f h0s h1f h1s h2f h2s h3f h3s x1 _ (nI C) (nI j) st fd nz nf nod nln nlt nal nto pz pf pis pln plt sz sf slt fpc fsf faf ford fpf fio h0i h1i h2i h3i = _
      unfold ND_write_b54v1
      rw [if_pos (show nI C ≤ nI j by rw [leN (by omega) (by omega)]; omega)]
    · show Mo_write_b58 F forms sizes bytes typed (nI 2) _ (nI C) (nI j) lt2 ra rn rp rs items rch rlo rle ris rpl rpt rso row = _
      unfold Mo_write_b58
      rw [if_pos (show nI C ≤ nI j by rw [leN (by omega) (by omega)]; omega)]
  | succ d ih =>
    intro j f1 f2 h0i h1i h2i h3i items hj hf1 hf2' hi
    obtain ⟨f1, rfl⟩ : ∃ f', f1 = f' + 1 := ⟨f1 - 1, by omega⟩
    obtain ⟨f2, rfl⟩ : ∃ f', f2 = f' + 1 := ⟨f2 - 1, by omega⟩
    obtain ⟨v, w1, w2⟩ := Sh_put_ok hm (show j < m by omega) h2i h2f (nI (sel (Od T) (remM (Od T) N M j) N))
    have e1 : ND_write_l54v1 F t0s t0b t1s t1b t2s t2b h0f h0s h1f h1s h2f h2s h3f h3s x1 (f1 + 1) (nI C) (nI j) st fd nz nf nod nln nlt nal nto pz pf pis pln plt sz sf slt fpc fsf faf ford fpf fio h0i h1i h2i h3i = ND_write_l54v1 F t0s t0b t1s t1b t2s t2b h0f h0s h1f h1s h2f h2s h3f h3s x1 f1 (nI C) (nI (j + 1)) st fd nz nf nod nln nlt nal nto pz pf pis pln plt sz sf slt fpc fsf faf ford fpf fio h0i h1i (upd h2i j v) h3i := by
      show ND_write_b54v1 F t0s t0b t1s t1b t2s t2b h0f h0s h1f h1s h2f h2s h3f h3s x1 (ND_write_l54v1 F t0s t0b t1s t1b t2s t2b h0f h0s h1f h1s h2f h2s h3f h3s x1 f1) (nI C) (nI j) st fd nz nf nod nln nlt nal nto pz pf pis pln plt sz sf slt fpc fsf faf ford fpf fio h0i h1i h2i h3i = _
      unfold ND_write_b54v1 Fi_inRow
      rw [if_neg (show ¬ nI C ≤ nI j by rw [leN (by omega) (by omega)]; omega), if_neg (nI_pos (by omega)), if_neg (show ¬ ford ≤ nI j by rw [a1, leN (by omega) (by omega)]; omega), rdN (by omega) (by omega), a2 j (by omega), cb1_s, hs, w1, cb1_s, show nI j + 1 = nI (j + 1) from nI_1 _]
    have e2 : Mo_write_l58 F forms sizes bytes typed (nI 2) (f2 + 1) (nI C) (nI j) lt2 ra rn rp rs items rch rlo rle ris rpl rpt rso row = Mo_write_l58 F forms sizes bytes typed (nI 2) f2 (nI C) (nI (j + 1)) lt2 ra rn rp rs (upd items (60 * 2 + j) v) rch rlo rle ris rpl rpt rso row := by
      show Mo_write_b58 F forms sizes bytes typed (nI 2) (Mo_write_l58 F forms sizes bytes typed (nI 2) f2) (nI C) (nI j) lt2 ra rn rp rs items rch rlo rle ris rpl rpt rso row = _
      unfold Mo_write_b58
      rw [if_neg (show ¬ nI C ≤ nI j by rw [leN (by omega) (by omega)]; omega), rdN (by omega) (by omega), hf2, ← hf, rdN (by omega) (by omega), b2 j (by omega), w2, cb1_s, show (60 : Int32) = nI 60 from rfl, mulN, nI_add, wrN (by omega) (by omega), show nI j + 1 = nI (j + 1) from nI_1 _]
    obtain ⟨hi', it', c1, c2', c3, c4⟩ := ih (j + 1) f1 f2 h0i h1i (upd h2i j v) h3i (upd items (60 * 2 + j) v) (by omega) (by omega) (by omega) (fun q hq => by
      by_cases e : q = j
      · subst e; rw [upd_s, upd_s]
      · rw [upd_n e, upd_n (by omega)]; exact hi q hq)
    rw [e1, e2, c1, c2']
    exact ⟨hi', it', rfl, rfl, c3, fun q hq => by rw [c4 q hq, upd_n (by omega)]⟩
theorem write_loop_3 {T : Nat → Nat} {N M : Nat} (hN : N ≤ 10) (F : Nat) (t0s : Int32) (t0b : (Nat → Int32)) (t1s : Int32) (t1b : (Nat → Int32)) (t2s : Int32) (t2b : (Nat → Int32)) (h0f h0s h1f h1s h2f h2s h3f h3s : Int32) (x1 st fd : Int32) (nz : Int32) (nf : Int32) (nod : (Nat → Int32)) (nln : (Nat → Int32)) (nlt : (Nat → Int32)) (nal : (Nat → Int32)) (nto : (Nat → Int32)) (pz : Int32) (pf : Int32) (pis : (Nat → Int32)) (pln : (Nat → Int32)) (plt : (Nat → Int32)) (sz : Int32) (sf : Int32) (slt : (Nat → Int32)) (fpc fsf faf : Int32) (fpf : Nat → Int32) {ford : Int32} {fio : Nat → Int32} (hR : RowOK (Od T) N M ford fio) {c2 : Int32} {row : Nat → Int32} (hR2 : RowOK (Od T) N M c2 row) {forms sizes bytes typed : Nat → Int32} (lt2 ra rn rp rs : Int32) (rch rlo rle ris rpl rpt rso : Nat → Int32) {a m C : Nat} (ha : a ≤ 2) (hm : m ≤ 60) (hf : h3f = nI a) (hs : h3s = nI m) (hf2 : forms 3 = nI a) (hs2 : sizes 3 = nI m) (hC : C ≤ m) (hC2 : C ≤ cnt M N) : ∀ (d j f1 f2 : Nat) (h0i h1i h2i h3i : Nat → Int32) (items : Nat → Int32), j + d = C → d < f1 → d < f2 → (∀ q, q < m → h3i q = items (60 * 3 + q)) →
    ∃ h3i' items', ND_write_l54v0 F t0s t0b t1s t1b t2s t2b h0f h0s h1f h1s h2f h2s h3f h3s x1 f1 (nI C) (nI j) st fd nz nf nod nln nlt nal nto pz pf pis pln plt sz sf slt fpc fsf faf ford fpf fio h0i h1i h2i h3i = some (nI C, st, fd, nz, nf, nod, nln, nlt, nal, nto, pz, pf, pis, pln, plt, sz, sf, slt, fpc, fsf, faf, ford, fpf, fio, h0i, h1i, h2i, h3i') ∧ Mo_write_l58 F forms sizes bytes typed (nI 3) f2 (nI C) (nI j) lt2 ra rn rp rs items rch rlo rle ris rpl rpt rso row = some (nI C, lt2, ra, rn, rp, rs, items', rch, rlo, rle, ris, rpl, rpt, rso, row) ∧ (∀ q, q < m → h3i' q = items' (60 * 3 + q)) ∧ (∀ q, (q < 60 * 3 ∨ 60 * 3 + 60 ≤ q) → items' q = items q) := by
  obtain ⟨a1, a2⟩ := hR
  obtain ⟨b1, b2⟩ := hR2
  have hcl := cnt_le M N
  intro d
  induction d with
  | zero =>
    intro j f1 f2 h0i h1i h2i h3i items hj hf1 hf2' hi
    obtain ⟨f1, rfl⟩ : ∃ f', f1 = f' + 1 := ⟨f1 - 1, by omega⟩
    obtain ⟨f2, rfl⟩ : ∃ f', f2 = f' + 1 := ⟨f2 - 1, by omega⟩
    refine ⟨h3i, items, ?_, ?_, hi, fun _ _ => rfl⟩
    · show ND_write_b54v0 F t0s t0b t1s t1b t2s t2b h0f h0s h1f h1s h2f h2s h3f h3s x1 _ (nI C) (nI j) st fd nz nf nod nln nlt nal nto pz pf pis pln plt sz sf slt fpc fsf faf ford fpf fio h0i h1i h2i h3i = _
      unfold ND_write_b54v0
      rw [if_pos (show nI C ≤ nI j by rw [leN (by omega) (by omega)]; omega)]
    · show Mo_write_b58 F forms sizes bytes typed (nI 3) _ (nI C) (nI j) lt2 ra rn rp rs items rch rlo rle ris rpl rpt rso row = _
      unfold Mo_write_b58
      rw [if_pos (show nI C ≤ nI j by rw [leN (by omega) (by omega)]; omega)]
  | succ d ih =>
    intro j f1 f2 h0i h1i h2i h3i items hj hf1 hf2' hi
    obtain ⟨f1, rfl⟩ : ∃ f', f1 = f' + 1 := ⟨f1 - 1, by omega⟩
    obtain ⟨f2, rfl⟩ : ∃ f', f2 = f' + 1 := ⟨f2 - 1, by omega⟩
    obtain ⟨v, w1, w2⟩ := Sh_put_ok hm (show j < m by omega) h3i h3f (nI (sel (Od T) (remM (Od T) N M j) N))
    have e1 : ND_write_l54v0 F t0s t0b t1s t1b t2s t2b h0f h0s h1f h1s h2f h2s h3f h3s x1 (f1 + 1) (nI C) (nI j) st fd nz nf nod nln nlt nal nto pz pf pis pln plt sz sf slt fpc fsf faf ford fpf fio h0i h1i h2i h3i = ND_write_l54v0 F t0s t0b t1s t1b t2s t2b h0f h0s h1f h1s h2f h2s h3f h3s x1 f1 (nI C) (nI (j + 1)) st fd nz nf nod nln nlt nal nto pz pf pis pln plt sz sf slt fpc fsf faf ford fpf fio h0i h1i h2i (upd h3i j v) := by
      show ND_write_b54v0 F t0s t0b t1s t1b t2s t2b h0f h0s h1f h1s h2f h2s h3f h3s x1 (ND_write_l54v0 F t0s t0b t1s t1b t2s t2b h0f h0s h1f h1s h2f h2s h3f h3s x1 f1) (nI C) (nI j) st fd nz nf nod nln nlt nal nto pz pf pis pln plt sz sf slt fpc fsf faf ford fpf fio h0i h1i h2i h3i = _
      unfold ND_write_b54v0 Fi_inRow
      rw [if_neg (show ¬ nI C ≤ nI j by rw [leN (by omega) (by omega)]; omega), if_neg (nI_pos (by omega)), if_neg (show ¬ ford ≤ nI j by rw [a1, leN (by omega) (by omega)]; omega), rdN (by omega) (by omega), a2 j (by omega), cb1_s, hs, w1, cb1_s, show nI j + 1 = nI (j + 1) from nI_1 _]
    have e2 : Mo_write_l58 F forms sizes bytes typed (nI 3) (f2 + 1) (nI C) (nI j) lt2 ra rn rp rs items rch rlo rle ris rpl rpt rso row = Mo_write_l58 F forms sizes bytes typed (nI 3) f2 (nI C) (nI (j + 1)) lt2 ra rn rp rs (upd items (60 * 3 + j) v) rch rlo rle ris rpl rpt rso row := by
      show Mo_write_b58 F forms sizes bytes typed (nI 3) (Mo_write_l58 F forms sizes bytes typed (nI 3) f2) (nI C) (nI j) lt2 ra rn rp rs items rch rlo rle ris rpl rpt rso row = _
      unfold Mo_write_b58
      rw [if_neg (show ¬ nI C ≤ nI j by rw [leN (by omega) (by omega)]; omega), rdN (by omega) (by omega), hf2, ← hf, rdN (by omega) (by omega), b2 j (by omega), w2, cb1_s, show (60 : Int32) = nI 60 from rfl, mulN, nI_add, wrN (by omega) (by omega), show nI j + 1 = nI (j + 1) from nI_1 _]
    obtain ⟨hi', it', c1, c2', c3, c4⟩ := ih (j + 1) f1 f2 h0i h1i h2i (upd h3i j v) (upd items (60 * 3 + j) v) (by omega) (by omega) (by omega) (fun q hq => by
      by_cases e : q = j
      · subst e; rw [upd_s, upd_s]
      · rw [upd_n e, upd_n (by omega)]; exact hi q hq)
    rw [e1, e2, c1, c2']
    exact ⟨hi', it', rfl, rfl, c3, fun q hq => by rw [c4 q hq, upd_n (by omega)]⟩
theorem write_ok {T : Nat → Nat → Nat} {n : Nat → Nat} {t0s : Int32} {t0b : (Nat → Int32)} {t1s : Int32} {t1b : (Nat → Int32)} {t2s : Int32} {t2b : (Nat → Int32)} {st : Int32} {nz : Int32} {nf : Int32} {nod : (Nat → Int32)} {nln : (Nat → Int32)} {nlt : (Nat → Int32)} {nal : (Nat → Int32)} {nto : (Nat → Int32)} {pz : Int32} {pf : Int32} {pis : (Nat → Int32)} {pln : (Nat → Int32)} {plt : (Nat → Int32)} {sz : Int32} {sf : Int32} {slt : (Nat → Int32)} {fpc : Int32} {fsf : Int32} {faf : Int32} {ford : Int32} {fpf : (Nat → Int32)} {fio : (Nat → Int32)} (hT : TxC T n t0s t0b t1s t1b t2s t2b) (hD : DrC T n st nz nf nod nln nlt nal nto pz pf pis pln plt sz sf slt fpc fsf faf ford fpf fio) {F : Nat} (hF : 2000 ≤ F) {bytes typed : Nat → Int32} (hM : TxR T n bytes typed) {h0f : Int32} {h0s : Int32} {h0i : (Nat → Int32)} {h1f : Int32} {h1s : Int32} {h1i : (Nat → Int32)} {h2f : Int32} {h2s : Int32} {h2i : (Nat → Int32)} {h3f : Int32} {h3s : Int32} {h3i : (Nat → Int32)} {forms sizes items : Nat → Int32} (h : ShP h0f h0s h0i h1f h1s h1i h2f h2s h2i h3f h3s h3i forms sizes items) (ra : Int32) (rn : Int32) (rp : Int32) (rs : Int32) (rch : (Nat → Int32)) (rlo : (Nat → Int32)) (rle : (Nat → Int32)) (ris : (Nat → Int32)) (rpl : (Nat → Int32)) (rpt : (Nat → Int32)) (rso : (Nat → Int32)) (row : Nat → Int32) (fd x1 : Int32) : ∃ r st' nz' nf' nod' nln' nlt' nal' nto' pz' pf' pis' pln' plt' sz' sf' slt' fpc' fsf' faf' ford' fpf' fio' fd' h0i' h1i' h2i' h3i' ra' rn' rp' rs' rch' rlo' rle' ris' rpl' rpt' rso' items' row', ND_write F t0s t0b t1s t1b t2s t2b h0f h0s h1f h1s h2f h2s h3f h3s st fd nz nf nod nln nlt nal nto pz pf pis pln plt sz sf slt fpc fsf faf ford fpf fio h0i h1i h2i h3i x1 = some (r, st', fd', nz', nf', nod', nln', nlt', nal', nto', pz', pf', pis', pln', plt', sz', sf', slt', fpc', fsf', faf', ford', fpf', fio', h0i', h1i', h2i', h3i') ∧ Mo_write F forms sizes bytes typed fd ra rn rp rs items rch rlo rle ris rpl rpt rso row x1 = some (r, fd', ra', rn', rp', rs', items', rch', rlo', rle', ris', rpl', rpt', rso', row') ∧ DrC T n st' nz' nf' nod' nln' nlt' nal' nto' pz' pf' pis' pln' plt' sz' sf' slt' fpc' fsf' faf' ford' fpf' fio' ∧ ShP h0f h0s h0i' h1f h1s h1i' h2f h2s h2i' h3f h3s h3i' forms sizes items' := by
  obtain ⟨p0, p1, p2, p3⟩ := h
  obtain ⟨nz', nf', nod', nln', nlt', nal', nto', pz', pf', pis', pln', plt', sz', sf', slt', fpc', fsf', faf', ford', fpf', fio', e, g⟩ := ND_refresh_ok hT hD hF
  have g' := DrC_0 g
  obtain ⟨ra', rn', rp', rs', rch', rlo', rle', ris', rpl', rpt', rso', f, hR⟩ := Mo_reads_ok hT hM hF ra rn rp rs rch rlo rle ris rpl rpt rso
  have hRw : RowOK (Od (T 0)) (nN T n) (FM T n 63) ford' fio' := g.2.2.2.2.2.2.1
  have hN10 : nN T n ≤ 10 := pN_le
  have hcl := cnt_le (FM T n 63) (nN T n)
  obtain ⟨q1, q2, q3, q4, q5, q6⟩ := hR
  obtain ⟨c2, row', w1, w2⟩ := Mo_findRow_ok q4 pN_le q5 pP_le q6 (pS_le (n2_le hT)) (show 100 ≤ F by omega) row
  have w2' : RowOK (Od (T 0)) (nN T n) (FM T n 63) c2 row' := w2
  unfold ND_write Mo_write
  rcases sheet_cases x1 with ⟨k, hk, rfl⟩ | ⟨e1, e2⟩
  · rw [(isSheet_k k hk).1, (isSheet_k k hk).2, cb1_s, cb1_s, if_neg (show ¬ (1 : Int32) = 0 by decide), if_neg (show ¬ (1 : Int32) = 0 by decide), rdN hk (by omega)]
    rcases (show k = 0 ∨ k = 1 ∨ k = 2 ∨ k = 3 by omega) with rfl | rfl | rfl | rfl
    · rw [if_pos (show nI 0 = 0 from rfl)]
      rcases p0 with ⟨z1, z2⟩ | ⟨a, m, z1, z2, z3, z4, z5, z6, z7⟩
      · rw [z1, z2, Sh_isLost_m1, cb1_s, if_neg (show ¬ (1 : Int32) = 0 by decide), if_neg (show ¬ (0 : Int32) ≤ -1 by decide)]
        refine ⟨_, st, nz, nf, nod, nln, nlt, nal, nto, pz, pf, pis, pln, plt, sz, sf, slt, fpc, fsf, faf, ford, fpf, fio, _, h0i, h1i, h2i, h3i, ra, rn, rp, rs, rch, rlo, rle, ris, rpl, rpt, rso, items, row, rfl, rfl, hD, Or.inl ⟨rfl, z2⟩, p1, p2, p3⟩
      · rw [show Sh_isLost h0s = some 0 by rw [z4]; exact Sh_isLost_n z2, z5, cb1_s, if_pos rfl, if_pos (show (0 : Int32) ≤ nI a from nI_pos' (by omega)), e, cb22_s]
        unfold Sh_size Fi_rowSize Mo_write_b54
        obtain ⟨h0i', items', c1, c2', c3, c4⟩ := write_loop_0 hN10 F t0s t0b t1s t1b t2s t2b h0f h0s h1f h1s h2f h2s h3f h3s (nI 0) 0 fd nz' nf' nod' nln' nlt' nal' nto' pz' pf' pis' pln' plt' sz' sf' slt' fpc' fsf' faf' fpf' hRw w2' (forms := forms) (sizes := sizes) (bytes := bytes) (typed := typed) fd ra' (nI (nN T n)) (nI (nP T n)) (nI (nS T n)) rch' rlo' rle' ris' rpl' rpt' rso' (C := min m (cnt (FM T n 63) (nN T n))) z1 z2 z3 z4 z5 z6 (Nat.min_le_left _ _) (Nat.min_le_right _ _) (min m (cnt (FM T n 63) (nN T n))) 0 F F h0i h1i h2i h3i items (by omega) (by omega) (by omega) z7
        rw [cb1_s, cb1_s, f, cb11_s, q1, q2, q3, w1, cb2_s, rdN (by omega) (by omega), rdN (by omega) (by omega), z6, show mnI h0s ford' = nI (min m (cnt (FM T n 63) (nN T n))) by rw [z4, hRw.1, mnI_ok (by omega) (by omega)]]
        have c1' : ND_write_l54v3 F t0s t0b t1s t1b t2s t2b h0f h0s h1f h1s h2f h2s h3f h3s (nI 0) F (nI (min m (cnt (FM T n 63) (nN T n)))) 0 0 fd nz' nf' nod' nln' nlt' nal' nto' pz' pf' pis' pln' plt' sz' sf' slt' fpc' fsf' faf' ford' fpf' fio' h0i h1i h2i h3i = _ := c1
        rw [c1']
        have c5 : (if c2 ≤ nI m then Mo_write_l58 F forms sizes bytes typed (nI 0) F c2 0 fd ra' (nI (nN T n)) (nI (nP T n)) (nI (nS T n)) items rch' rlo' rle' ris' rpl' rpt' rso' row' else Mo_write_l58 F forms sizes bytes typed (nI 0) F (nI m) 0 fd ra' (nI (nN T n)) (nI (nP T n)) (nI (nS T n)) items rch' rlo' rle' ris' rpl' rpt' rso' row') = Mo_write_l58 F forms sizes bytes typed (nI 0) F (nI (min m (cnt (FM T n 63) (nN T n)))) (nI 0) fd ra' (nI (nN T n)) (nI (nP T n)) (nI (nS T n)) items rch' rlo' rle' ris' rpl' rpt' rso' row' := by
          rw [w2'.1]
          by_cases hc : cnt (FM T n 63) (nN T n) ≤ m
          · rw [if_pos (show nI (cnt (FM T n 63) (nN T n)) ≤ nI m by rw [leN (by omega) (by omega)]; exact hc), Nat.min_eq_right hc]; rfl
          · rw [if_neg (show ¬ nI (cnt (FM T n 63) (nN T n)) ≤ nI m by rw [leN (by omega) (by omega)]; exact hc), Nat.min_eq_left (by omega)]; rfl
        rw [c5, c2']
        exact ⟨_, _, _, _, _, _, _, _, _, _, _, _, _, _, _, _, _, _, _, _, _, _, _, _, _, _, _, _, _, _, _, _, _, _, _, _, _, _, _, _, _, rfl, rfl, g', Or.inr ⟨a, m, z1, z2, z3, z4, z5, z6, c3⟩, SP_ext p1 rfl rfl (fun j hj => c4 _ (by omega)), SP_ext p2 rfl rfl (fun j hj => c4 _ (by omega)), SP_ext p3 rfl rfl (fun j hj => c4 _ (by omega))⟩
    · rw [if_neg (show ¬ nI 1 = 0 by decide), if_pos (show nI 1 = 1 from rfl)]
      rcases p1 with ⟨z1, z2⟩ | ⟨a, m, z1, z2, z3, z4, z5, z6, z7⟩
      · rw [z1, z2, Sh_isLost_m1, cb1_s, if_neg (show ¬ (1 : Int32) = 0 by decide), if_neg (show ¬ (0 : Int32) ≤ -1 by decide)]
        refine ⟨_, st, nz, nf, nod, nln, nlt, nal, nto, pz, pf, pis, pln, plt, sz, sf, slt, fpc, fsf, faf, ford, fpf, fio, _, h0i, h1i, h2i, h3i, ra, rn, rp, rs, rch, rlo, rle, ris, rpl, rpt, rso, items, row, rfl, rfl, hD, p0, Or.inl ⟨rfl, z2⟩, p2, p3⟩
      · rw [show Sh_isLost h1s = some 0 by rw [z4]; exact Sh_isLost_n z2, z5, cb1_s, if_pos rfl, if_pos (show (0 : Int32) ≤ nI a from nI_pos' (by omega)), e, cb22_s]
        unfold Sh_size Fi_rowSize Mo_write_b54
        obtain ⟨h1i', items', c1, c2', c3, c4⟩ := write_loop_1 hN10 F t0s t0b t1s t1b t2s t2b h0f h0s h1f h1s h2f h2s h3f h3s (nI 1) 0 fd nz' nf' nod' nln' nlt' nal' nto' pz' pf' pis' pln' plt' sz' sf' slt' fpc' fsf' faf' fpf' hRw w2' (forms := forms) (sizes := sizes) (bytes := bytes) (typed := typed) fd ra' (nI (nN T n)) (nI (nP T n)) (nI (nS T n)) rch' rlo' rle' ris' rpl' rpt' rso' (C := min m (cnt (FM T n 63) (nN T n))) z1 z2 z3 z4 z5 z6 (Nat.min_le_left _ _) (Nat.min_le_right _ _) (min m (cnt (FM T n 63) (nN T n))) 0 F F h0i h1i h2i h3i items (by omega) (by omega) (by omega) z7
        rw [cb1_s, cb1_s, f, cb11_s, q1, q2, q3, w1, cb2_s, rdN (by omega) (by omega), rdN (by omega) (by omega), z6, show mnI h1s ford' = nI (min m (cnt (FM T n 63) (nN T n))) by rw [z4, hRw.1, mnI_ok (by omega) (by omega)]]
        have c1' : ND_write_l54v2 F t0s t0b t1s t1b t2s t2b h0f h0s h1f h1s h2f h2s h3f h3s (nI 1) F (nI (min m (cnt (FM T n 63) (nN T n)))) 0 0 fd nz' nf' nod' nln' nlt' nal' nto' pz' pf' pis' pln' plt' sz' sf' slt' fpc' fsf' faf' ford' fpf' fio' h0i h1i h2i h3i = _ := c1
        rw [c1']
        have c5 : (if c2 ≤ nI m then Mo_write_l58 F forms sizes bytes typed (nI 1) F c2 0 fd ra' (nI (nN T n)) (nI (nP T n)) (nI (nS T n)) items rch' rlo' rle' ris' rpl' rpt' rso' row' else Mo_write_l58 F forms sizes bytes typed (nI 1) F (nI m) 0 fd ra' (nI (nN T n)) (nI (nP T n)) (nI (nS T n)) items rch' rlo' rle' ris' rpl' rpt' rso' row') = Mo_write_l58 F forms sizes bytes typed (nI 1) F (nI (min m (cnt (FM T n 63) (nN T n)))) (nI 0) fd ra' (nI (nN T n)) (nI (nP T n)) (nI (nS T n)) items rch' rlo' rle' ris' rpl' rpt' rso' row' := by
          rw [w2'.1]
          by_cases hc : cnt (FM T n 63) (nN T n) ≤ m
          · rw [if_pos (show nI (cnt (FM T n 63) (nN T n)) ≤ nI m by rw [leN (by omega) (by omega)]; exact hc), Nat.min_eq_right hc]; rfl
          · rw [if_neg (show ¬ nI (cnt (FM T n 63) (nN T n)) ≤ nI m by rw [leN (by omega) (by omega)]; exact hc), Nat.min_eq_left (by omega)]; rfl
        rw [c5, c2']
        exact ⟨_, _, _, _, _, _, _, _, _, _, _, _, _, _, _, _, _, _, _, _, _, _, _, _, _, _, _, _, _, _, _, _, _, _, _, _, _, _, _, _, _, rfl, rfl, g', SP_ext p0 rfl rfl (fun j hj => c4 _ (by omega)), Or.inr ⟨a, m, z1, z2, z3, z4, z5, z6, c3⟩, SP_ext p2 rfl rfl (fun j hj => c4 _ (by omega)), SP_ext p3 rfl rfl (fun j hj => c4 _ (by omega))⟩
    · rw [if_neg (show ¬ nI 2 = 0 by decide), if_neg (show ¬ nI 2 = 1 by decide), if_pos (show nI 2 = 2 from rfl)]
      rcases p2 with ⟨z1, z2⟩ | ⟨a, m, z1, z2, z3, z4, z5, z6, z7⟩
      · rw [z1, z2, Sh_isLost_m1, cb1_s, if_neg (show ¬ (1 : Int32) = 0 by decide), if_neg (show ¬ (0 : Int32) ≤ -1 by decide)]
        refine ⟨_, st, nz, nf, nod, nln, nlt, nal, nto, pz, pf, pis, pln, plt, sz, sf, slt, fpc, fsf, faf, ford, fpf, fio, _, h0i, h1i, h2i, h3i, ra, rn, rp, rs, rch, rlo, rle, ris, rpl, rpt, rso, items, row, rfl, rfl, hD, p0, p1, Or.inl ⟨rfl, z2⟩, p3⟩
      · rw [show Sh_isLost h2s = some 0 by rw [z4]; exact Sh_isLost_n z2, z5, cb1_s, if_pos rfl, if_pos (show (0 : Int32) ≤ nI a from nI_pos' (by omega)), e, cb22_s]
        unfold Sh_size Fi_rowSize Mo_write_b54
        obtain ⟨h2i', items', c1, c2', c3, c4⟩ := write_loop_2 hN10 F t0s t0b t1s t1b t2s t2b h0f h0s h1f h1s h2f h2s h3f h3s (nI 2) 0 fd nz' nf' nod' nln' nlt' nal' nto' pz' pf' pis' pln' plt' sz' sf' slt' fpc' fsf' faf' fpf' hRw w2' (forms := forms) (sizes := sizes) (bytes := bytes) (typed := typed) fd ra' (nI (nN T n)) (nI (nP T n)) (nI (nS T n)) rch' rlo' rle' ris' rpl' rpt' rso' (C := min m (cnt (FM T n 63) (nN T n))) z1 z2 z3 z4 z5 z6 (Nat.min_le_left _ _) (Nat.min_le_right _ _) (min m (cnt (FM T n 63) (nN T n))) 0 F F h0i h1i h2i h3i items (by omega) (by omega) (by omega) z7
        rw [cb1_s, cb1_s, f, cb11_s, q1, q2, q3, w1, cb2_s, rdN (by omega) (by omega), rdN (by omega) (by omega), z6, show mnI h2s ford' = nI (min m (cnt (FM T n 63) (nN T n))) by rw [z4, hRw.1, mnI_ok (by omega) (by omega)]]
        have c1' : ND_write_l54v1 F t0s t0b t1s t1b t2s t2b h0f h0s h1f h1s h2f h2s h3f h3s (nI 2) F (nI (min m (cnt (FM T n 63) (nN T n)))) 0 0 fd nz' nf' nod' nln' nlt' nal' nto' pz' pf' pis' pln' plt' sz' sf' slt' fpc' fsf' faf' ford' fpf' fio' h0i h1i h2i h3i = _ := c1
        rw [c1']
        have c5 : (if c2 ≤ nI m then Mo_write_l58 F forms sizes bytes typed (nI 2) F c2 0 fd ra' (nI (nN T n)) (nI (nP T n)) (nI (nS T n)) items rch' rlo' rle' ris' rpl' rpt' rso' row' else Mo_write_l58 F forms sizes bytes typed (nI 2) F (nI m) 0 fd ra' (nI (nN T n)) (nI (nP T n)) (nI (nS T n)) items rch' rlo' rle' ris' rpl' rpt' rso' row') = Mo_write_l58 F forms sizes bytes typed (nI 2) F (nI (min m (cnt (FM T n 63) (nN T n)))) (nI 0) fd ra' (nI (nN T n)) (nI (nP T n)) (nI (nS T n)) items rch' rlo' rle' ris' rpl' rpt' rso' row' := by
          rw [w2'.1]
          by_cases hc : cnt (FM T n 63) (nN T n) ≤ m
          · rw [if_pos (show nI (cnt (FM T n 63) (nN T n)) ≤ nI m by rw [leN (by omega) (by omega)]; exact hc), Nat.min_eq_right hc]; rfl
          · rw [if_neg (show ¬ nI (cnt (FM T n 63) (nN T n)) ≤ nI m by rw [leN (by omega) (by omega)]; exact hc), Nat.min_eq_left (by omega)]; rfl
        rw [c5, c2']
        exact ⟨_, _, _, _, _, _, _, _, _, _, _, _, _, _, _, _, _, _, _, _, _, _, _, _, _, _, _, _, _, _, _, _, _, _, _, _, _, _, _, _, _, rfl, rfl, g', SP_ext p0 rfl rfl (fun j hj => c4 _ (by omega)), SP_ext p1 rfl rfl (fun j hj => c4 _ (by omega)), Or.inr ⟨a, m, z1, z2, z3, z4, z5, z6, c3⟩, SP_ext p3 rfl rfl (fun j hj => c4 _ (by omega))⟩
    · rw [if_neg (show ¬ nI 3 = 0 by decide), if_neg (show ¬ nI 3 = 1 by decide), if_neg (show ¬ nI 3 = 2 by decide), if_pos (show nI 3 = 3 from rfl)]
      rcases p3 with ⟨z1, z2⟩ | ⟨a, m, z1, z2, z3, z4, z5, z6, z7⟩
      · rw [z1, z2, Sh_isLost_m1, cb1_s, if_neg (show ¬ (1 : Int32) = 0 by decide), if_neg (show ¬ (0 : Int32) ≤ -1 by decide)]
        refine ⟨_, st, nz, nf, nod, nln, nlt, nal, nto, pz, pf, pis, pln, plt, sz, sf, slt, fpc, fsf, faf, ford, fpf, fio, _, h0i, h1i, h2i, h3i, ra, rn, rp, rs, rch, rlo, rle, ris, rpl, rpt, rso, items, row, rfl, rfl, hD, p0, p1, p2, Or.inl ⟨rfl, z2⟩⟩
      · rw [show Sh_isLost h3s = some 0 by rw [z4]; exact Sh_isLost_n z2, z5, cb1_s, if_pos rfl, if_pos (show (0 : Int32) ≤ nI a from nI_pos' (by omega)), e, cb22_s]
        unfold Sh_size Fi_rowSize Mo_write_b54
        obtain ⟨h3i', items', c1, c2', c3, c4⟩ := write_loop_3 hN10 F t0s t0b t1s t1b t2s t2b h0f h0s h1f h1s h2f h2s h3f h3s (nI 3) 0 fd nz' nf' nod' nln' nlt' nal' nto' pz' pf' pis' pln' plt' sz' sf' slt' fpc' fsf' faf' fpf' hRw w2' (forms := forms) (sizes := sizes) (bytes := bytes) (typed := typed) fd ra' (nI (nN T n)) (nI (nP T n)) (nI (nS T n)) rch' rlo' rle' ris' rpl' rpt' rso' (C := min m (cnt (FM T n 63) (nN T n))) z1 z2 z3 z4 z5 z6 (Nat.min_le_left _ _) (Nat.min_le_right _ _) (min m (cnt (FM T n 63) (nN T n))) 0 F F h0i h1i h2i h3i items (by omega) (by omega) (by omega) z7
        rw [cb1_s, cb1_s, f, cb11_s, q1, q2, q3, w1, cb2_s, rdN (by omega) (by omega), rdN (by omega) (by omega), z6, show mnI h3s ford' = nI (min m (cnt (FM T n 63) (nN T n))) by rw [z4, hRw.1, mnI_ok (by omega) (by omega)]]
        have c1' : ND_write_l54v0 F t0s t0b t1s t1b t2s t2b h0f h0s h1f h1s h2f h2s h3f h3s (nI 3) F (nI (min m (cnt (FM T n 63) (nN T n)))) 0 0 fd nz' nf' nod' nln' nlt' nal' nto' pz' pf' pis' pln' plt' sz' sf' slt' fpc' fsf' faf' ford' fpf' fio' h0i h1i h2i h3i = _ := c1
        rw [c1']
        have c5 : (if c2 ≤ nI m then Mo_write_l58 F forms sizes bytes typed (nI 3) F c2 0 fd ra' (nI (nN T n)) (nI (nP T n)) (nI (nS T n)) items rch' rlo' rle' ris' rpl' rpt' rso' row' else Mo_write_l58 F forms sizes bytes typed (nI 3) F (nI m) 0 fd ra' (nI (nN T n)) (nI (nP T n)) (nI (nS T n)) items rch' rlo' rle' ris' rpl' rpt' rso' row') = Mo_write_l58 F forms sizes bytes typed (nI 3) F (nI (min m (cnt (FM T n 63) (nN T n)))) (nI 0) fd ra' (nI (nN T n)) (nI (nP T n)) (nI (nS T n)) items rch' rlo' rle' ris' rpl' rpt' rso' row' := by
          rw [w2'.1]
          by_cases hc : cnt (FM T n 63) (nN T n) ≤ m
          · rw [if_pos (show nI (cnt (FM T n 63) (nN T n)) ≤ nI m by rw [leN (by omega) (by omega)]; exact hc), Nat.min_eq_right hc]; rfl
          · rw [if_neg (show ¬ nI (cnt (FM T n 63) (nN T n)) ≤ nI m by rw [leN (by omega) (by omega)]; exact hc), Nat.min_eq_left (by omega)]; rfl
        rw [c5, c2']
        exact ⟨_, _, _, _, _, _, _, _, _, _, _, _, _, _, _, _, _, _, _, _, _, _, _, _, _, _, _, _, _, _, _, _, _, _, _, _, _, _, _, _, _, rfl, rfl, g', SP_ext p0 rfl rfl (fun j hj => c4 _ (by omega)), SP_ext p1 rfl rfl (fun j hj => c4 _ (by omega)), SP_ext p2 rfl rfl (fun j hj => c4 _ (by omega)), Or.inr ⟨a, m, z1, z2, z3, z4, z5, z6, c3⟩⟩
  · rw [e1, e2, cb1_s, cb1_s, if_pos rfl, if_pos rfl]
    refine ⟨_, st, nz, nf, nod, nln, nlt, nal, nto, pz, pf, pis, pln, plt, sz, sf, slt, fpc, fsf, faf, ford, fpf, fio, _, h0i, h1i, h2i, h3i, ra, rn, rp, rs, rch, rlo, rle, ris, rpl, rpt, rso, items, row, rfl, rfl, hD, p0, p1, p2, p3⟩
