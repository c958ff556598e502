/-! wisest and spun agree -/
def WiC (T : Nat → Nat → Nat) (n : Nat → Nat) (tm : Nat → Nat) (ws : Int32) (wl : Nat → Int32) : Prop := ws = 0 → LsOK (T 0) (nN T n) tm wl
theorem tells_v {T : Nat → Nat} {N : Nat} {od ln lt od2 ln2 lt2 : Nat → Int32} (hO : NmOK T N od ln lt) (hN : N ≤ 10) {tm : Nat → Nat} (hT : TmOK tm) {F : Nat} (hF : 2000 ≤ F) {n m c : Nat} (hn : n ≤ tm 2) (hm : m < 2 ^ N) : ∃ r, (∀ {od2 ln2 lt2 : Nat → Int32} (least : Nat → Int64), NmOK T N od2 ln2 lt2 → least (1024 * n + m) = lI (VV T N tm (tm 2 - n) m) → Mo_tellsWisest F (nI N) (actN T N tm n m) od2 least (nI n) (nI m) (nI c) = some r) ∧ (nI c = 2 → r = Int32.toInt64 (actN T N tm n m)) ∧ (¬ nI c = 2 → m = 0 → r = Int32.toInt64 (nI c)) ∧ (¬ nI c = 2 → m ≠ 0 → ∃ q, ND_lowestTerm F (nI (VV T N tm (tm 2 - n) m)) (nI (ww T m)) (nI c) = some q ∧ r = Int32.toInt64 q) := by
  have h10 := p2_10 hN
  have hb := TmB hT
  by_cases h1 : nI c = 2
  · refine ⟨_, fun least _ _ => ?_, fun _ => rfl, fun h => absurd h1 h, fun h => absurd h1 h⟩
    unfold Mo_tellsWisest
    rw [if_pos h1]
  · by_cases h0 : m = 0
    · refine ⟨_, fun least _ _ => ?_, fun h => absurd h h1, fun _ _ => rfl, fun _ h => absurd h0 h⟩
      unfold Mo_tellsWisest
      rw [if_neg h1, if_pos (show nI m = 0 from congrArg nI h0)]
    · have hv := VV_U (T := T) tm hN (tm 2 - n) m hm
      have hu := UU_bd hO hN hT hm
      obtain ⟨w1, w2⟩ := wt_pos hO hN hm h0
      obtain ⟨q, hq, t1, t2⟩ := term_ok hF (show VV T N tm (tm 2 - n) m < 2147483648 by omega) (show wt (Od T) m 10 < 100 by omega) w1 (nI c)
      refine ⟨_, fun least hO2 hL => ?_, fun h => absurd h h1, fun _ h => absurd h h0, fun _ _ => ⟨nI q, t1, rfl⟩⟩
      unfold Mo_tellsWisest
      rw [if_neg h1, if_neg (show ¬ nI m = 0 from fun hq => h0 ((nI_eq (b := 0) (by omega) (by omega)).mp hq)), show (1024 : Int32) = nI 1024 from rfl, mulN, nI_add, rdN (by omega) (by omega), hL, Mo_weight_ok hO2 hN (by omega) hm, cb1_s, tL (show wt (Od T) m 10 < 2147483648 by omega), t2, cb1_s, tL hq]
theorem wisest_v {T : Nat → Nat → Nat} {n : Nat → Nat} {t0s : Int32} {t0b : (Nat → Int32)} {t1s : Int32} {t1b : (Nat → Int32)} {t2s : Int32} {t2b : (Nat → Int32)} {st : Int32} {nz : Int32} {nf : Int32} {nod : (Nat → Int32)} {nln : (Nat → Int32)} {nlt : (Nat → Int32)} {nal : (Nat → Int32)} {nto : (Nat → Int32)} {pz : Int32} {pf : Int32} {pis : (Nat → Int32)} {pln : (Nat → Int32)} {plt : (Nat → Int32)} {sz : Int32} {sf : Int32} {slt : (Nat → Int32)} {fpc : Int32} {fsf : Int32} {faf : Int32} {ford : Int32} {fpf : (Nat → Int32)} {fio : (Nat → Int32)} (hT : TxC T n t0s t0b t1s t1b t2s t2b) (hD : DrC T n st nz nf nod nln nlt nal nto pz pf pis pln plt sz sf slt fpc fsf faf ford fpf fio) {F : Nat} (hF : 2000 ≤ F) (hF2 : 13000 ≤ F) {tm : Nat → Nat} {dt : Nat → Int32} (hC : TmC tm dt) (hTm : TmOK tm) {ws : Int32} {wl : Nat → Int32} (hW : WiC T n tm ws wl) {n1 B c : Nat} (hn : n1 ≤ tm 2) (hB : B ≤ 1023) (hc : c ≤ 2) : ∃ r nz' nf' nod' nln' nlt' nal' nto' pz' pf' pis' pln' plt' sz' sf' slt' fpc' fsf' faf' ford' fpf' fio' ws' wl', ND_wisest F t0s t0b t1s t1b t2s t2b dt st nz nf nod nln nlt nal nto pz pf pis pln plt sz sf slt fpc fsf faf ford fpf fio ws wl (nI n1) (nI B) (nI c) = some (r, 0, nz', nf', nod', nln', nlt', nal', nto', pz', pf', pis', pln', plt', sz', sf', slt', fpc', fsf', faf', ford', fpf', fio', ws', wl') ∧ DrC T n 0 nz' nf' nod' nln' nlt' nal' nto' pz' pf' pis' pln' plt' sz' sf' slt' fpc' fsf' faf' ford' fpf' fio' ∧ WiC T n tm ws' wl' ∧ (∀ {od2 ln2 lt2 : Nat → Int32} (least : Nat → Int64), NmOK (T 0) (nN T n) od2 ln2 lt2 → least (1024 * n1 + (B &&& (2 ^ (nN T n) - 1))) = lI (VV (T 0) (nN T n) tm (tm 2 - n1) (B &&& (2 ^ (nN T n) - 1))) → Mo_tellsWisest F (nI (nN T n)) (actN (T 0) (nN T n) tm n1 (B &&& (2 ^ (nN T n) - 1))) od2 least (nI n1) (nI (B &&& (2 ^ (nN T n) - 1))) (nI c) = some r) := by
  obtain ⟨nz', nf', nod', nln', nlt', nal', nto', pz', pf', pis', pln', plt', sz', sf', slt', fpc', fsf', faf', ford', fpf', fio', e, g⟩ := ND_refresh_ok hT hD hF
  have g' := DrC_0 g
  have hO : NmOK (T 0) (nN T n) nod' nln' nlt' := g.1.2.2.1
  have hz : nz' = nI (nN T n) := g.1.1
  have hG : GrOK (T 0) (nN T n) 6 nal' := g.1.2.2.2.1
  have hOt : OtOK (T 0) (2 ^ (nN T n)) nto' := g.1.2.2.2.2
  have hN10 : nN T n ≤ 10 := pN_le
  have hb := TmB hTm
  have h210 := p2_10 hN10
  have hm : B &&& (2 ^ (nN T n) - 1) < 2 ^ (nN T n) := by rw [Nat.and_two_pow_sub_one_eq_mod]; exact Nat.mod_lt _ (Nat.two_pow_pos _)
  have eb : ND_isNameBits (nI B) = some 1 := by
    unfold ND_isNameBits
    rw [if_neg (nI_pos (by omega)), if_neg (show ¬ (1023 : Int32) < nI B by rw [show (1023 : Int32) = nI 1023 from rfl, ltN (by omega) (by omega)]; omega)]
  obtain ⟨tb, t1, t2⟩ := Wi_ready_ok hN10 hC hTm hF2 ws wl hW
  obtain ⟨r, k1, k2, k3, k4⟩ := tells_v (od2 := nod') (ln2 := nln') (lt2 := nlt') hO hN10 hTm hF (n := n1) (c := c) hn hm
  unfold ND_wisest De_nights Na_all
  rw [if_neg (nI_pos (by omega)), r2, hC 2 (by omega), cb1_s, if_neg (show ¬ nI (tm 2) < nI n1 by rw [ltN (by omega) (by omega)]; omega), eb, cb1_s, if_neg (show ¬ (1 : Int32) = 0 by decide), if_neg (nI_pos (by omega)), if_pos (show nI c ≤ 2 by rw [n2, leN (by omega) (by omega)]; omega), e, cb22_s, hz, t1, cb2_s, cb1_s, allI hN10, bAnd]
  rw [hz] at g'
  by_cases h2 : nI c = 2
  · obtain ⟨tb2, f1, f2⟩ := Wi_first_ok hO hG hOt hN10 hC hTm (show 100 ≤ F by omega) hn hm t2
    rw [if_pos h2, f1, cb2_s, ← k2 h2]
    exact ⟨r, _, _, _, _, _, _, _, _, _, _, _, _, _, _, _, _, _, _, _, _, _, _, _, rfl, g', fun _ => f2, k1⟩
  · rw [if_neg h2]
    by_cases h0 : B &&& (2 ^ (nN T n) - 1) = 0
    · rw [if_pos (show nI (B &&& (2 ^ (nN T n) - 1)) = 0 from congrArg nI h0), ← k3 h2 h0]
      exact ⟨r, _, _, _, _, _, _, _, _, _, _, _, _, _, _, _, _, _, _, _, _, _, _, _, rfl, g', fun _ => t2, k1⟩
    · obtain ⟨q, q1, q2⟩ := k4 h2 h0
      obtain ⟨tb2, f1, f2⟩ := Wi_least_ok hO hG hOt hN10 hC hTm (show 100 ≤ F by omega) 14 n1 hn (by omega) tb _ t2 hm
      rw [if_neg (show ¬ nI (B &&& (2 ^ (nN T n) - 1)) = 0 from fun hq => h0 ((nI_eq (b := 0) (by omega) (by omega)).mp hq)), f1, cb2_s, Na_oddsOfAll_ok hOt hN10 hm, cb1_s]
      unfold ww at q1
      rw [q1, cb1_s, ← q2]
      exact ⟨r, _, _, _, _, _, _, _, _, _, _, _, _, _, _, _, _, _, _, _, _, _, _, _, rfl, g', fun _ => f2, k1⟩
theorem Mo_wisestOf_v {T : Nat → Nat} {N : Nat} {od ln lt : Nat → Int32} (hO : NmOK T N od ln lt) (hN : N ≤ 10) {tm : Nat → Nat} {se : Nat → Int32} (hC : TmC tm se) (hT : TmOK tm) {F : Nat} (hF : 2000 ≤ F) {n1 B c : Nat} (hn : n1 ≤ tm 2) (hB : B ≤ 1023) {r : Int64} (hr : ∀ {od2 ln2 lt2 : Nat → Int32} (least : Nat → Int64), NmOK T N od2 ln2 lt2 → least (1024 * n1 + (B &&& (2 ^ N - 1))) = lI (VV T N tm (tm 2 - n1) (B &&& (2 ^ N - 1))) → Mo_tellsWisest F (nI N) (actN T N tm n1 (B &&& (2 ^ N - 1))) od2 least (nI n1) (nI (B &&& (2 ^ N - 1))) (nI c) = some r) (todo : Int32) (least : Nat → Int64) : ∃ todo' least', Mo_wisestOf F (nI N) od ln lt se todo least (nI n1) (nI B) (nI c) = some (r, todo', least') := by
  have hm : B &&& (2 ^ N - 1) < 2 ^ N := by rw [Nat.and_two_pow_sub_one_eq_mod]; exact Nat.mod_lt _ (Nat.two_pow_pos _)
  obtain ⟨least', f1, f2⟩ := Mo_findWisest_ok hO hN hC hT hF hn hm todo least
  unfold Mo_wisestOf
  rw [allI hN, bAnd, f1, cb2_s, hr least' hO f2, cb1_s]
  exact ⟨_, _, rfl⟩
theorem wisest_ok {T : Nat → Nat → Nat} {n : Nat → Nat} {t0s : Int32} {t0b : (Nat → Int32)} {t1s : Int32} {t1b : (Nat → Int32)} {t2s : Int32} {t2b : (Nat → Int32)} {st : Int32} {nz : Int32} {nf : Int32} {nod : (Nat → Int32)} {nln : (Nat → Int32)} {nlt : (Nat → Int32)} {nal : (Nat → Int32)} {nto : (Nat → Int32)} {pz : Int32} {pf : Int32} {pis : (Nat → Int32)} {pln : (Nat → Int32)} {plt : (Nat → Int32)} {sz : Int32} {sf : Int32} {slt : (Nat → Int32)} {fpc : Int32} {fsf : Int32} {faf : Int32} {ford : Int32} {fpf : (Nat → Int32)} {fio : (Nat → Int32)} (hT : TxC T n t0s t0b t1s t1b t2s t2b) (hD : DrC T n st nz nf nod nln nlt nal nto pz pf pis pln plt sz sf slt fpc fsf faf ford fpf fio) {F : Nat} (hF : 2000 ≤ F) (hF2 : 13000 ≤ F) {bytes typed : Nat → Int32} (hM : TxR T n bytes typed) {tm : Nat → Nat} {dt se : Nat → Int32} (hC : TmC tm dt) (hS : TmC tm se) (hTm : TmOK tm) {ws : Int32} {wl : Nat → Int32} (hW : WiC T n tm ws wl) (ra rn rp rs todo : Int32) (rch rlo rle ris rpl rpt rso : Nat → Int32) (least : Nat → Int64) (x1 x2 x3 : Int32) : ∃ r st' nz' nf' nod' nln' nlt' nal' nto' pz' pf' pis' pln' plt' sz' sf' slt' fpc' fsf' faf' ford' fpf' fio' ws' wl' ra' rn' rp' rs' todo' rch' rlo' rle' ris' rpl' rpt' rso' least', ND_wisest F t0s t0b t1s t1b t2s t2b dt st nz nf nod nln nlt nal nto pz pf pis pln plt sz sf slt fpc fsf faf ford fpf fio ws wl x1 x2 x3 = some (r, st', nz', nf', nod', nln', nlt', nal', nto', pz', pf', pis', pln', plt', sz', sf', slt', fpc', fsf', faf', ford', fpf', fio', ws', wl') ∧ Mo_wisest F bytes typed se ra rn rp rs todo rch rlo rle ris rpl rpt rso least x1 x2 x3 = some (r, ra', rn', rp', rs', todo', rch', rlo', rle', ris', rpl', rpt', rso', least') ∧ DrC T n st' nz' nf' nod' nln' nlt' nal' nto' pz' pf' pis' pln' plt' sz' sf' slt' fpc' fsf' faf' ford' fpf' fio' ∧ WiC T n tm ws' wl' ∧ RdOK T n rn' rp' rs' rch' rlo' rle' ris' rpl' rpt' rso' := by
  obtain ⟨ra', rn', rp', rs', rch', rlo', rle', ris', rpl', rpt', rso', f, hR⟩ := Mo_reads_ok hT hM hF ra rn rp rs rch rlo rle ris rpl rpt rso
  have hb := TmB hTm
  have q1 := hR.1
  have q4 := hR.2.2.2.1
  have bad : (∃ r, ND_wisest_b31 F t0s t0b t1s t1b t2s t2b dt x1 x2 x3 st nz nf nod nln nlt nal nto pz pf pis pln plt sz sf slt fpc fsf faf ford fpf fio ws wl = some (r, st, nz, nf, nod, nln, nlt, nal, nto, pz, pf, pis, pln, plt, sz, sf, slt, fpc, fsf, faf, ford, fpf, fio, ws, wl) ∧ r = -9223372036854775808 - Int32.toInt64 (-2)) := ⟨_, rfl, rfl⟩
  obtain ⟨rb, bad1, bad2⟩ := bad
  unfold Mo_wisest Mo_wisest_b54 Mo_no
  rw [f, cb11_s, r2, hS 2 (by omega)]
  rcases in_cases x1 0 (tm 2) (by omega) (by omega) with ⟨n1, _, hn, rfl, e1⟩ | ⟨h1, e1⟩
  · rcases nbits_cases x2 with ⟨B, hB, rfl, e2, e2'⟩ | ⟨e2, e2'⟩
    · rcases in_cases x3 0 2 (by omega) (by omega) with ⟨c, _, hc, rfl, e3⟩ | ⟨h3, e3⟩
      · obtain ⟨r, nz', nf', nod', nln', nlt', nal', nto', pz', pf', pis', pln', plt', sz', sf', slt', fpc', fsf', faf', ford', fpf', fio', ws', wl', v, g, w, k⟩ := wisest_v hT hD hF hF2 hC hTm hW hn hB hc
        obtain ⟨todo', least', m1⟩ := Mo_wisestOf_v q4 pN_le hS hTm hF hn hB k todo least
        rw [v, show Mo_in (Int32.toInt64 (nI n1)) 0 (Int32.toInt64 (nI (tm 2))) = some 1 from e1, cb1_s, if_neg (show ¬ (1 : Int32) = 0 by decide), e2', cb1_s, if_neg (show ¬ (1 : Int32) = 0 by decide), show Mo_in (Int32.toInt64 (nI c)) 0 2 = some 1 from e3, cb1_s, if_neg (show ¬ (1 : Int32) = 0 by decide), q1, m1, cb3_s]
        rw [q1] at hR
        exact ⟨r, _, _, _, _, _, _, _, _, _, _, _, _, _, _, _, _, _, _, _, _, _, _, _, _, _, _, _, _, _, _, _, _, _, _, _, _, _, rfl, rfl, g, w, hR⟩
      · rw [show Mo_in (Int32.toInt64 (nI n1)) 0 (Int32.toInt64 (nI (tm 2))) = some 1 from e1, cb1_s, if_neg (show ¬ (1 : Int32) = 0 by decide), e2', cb1_s, if_neg (show ¬ (1 : Int32) = 0 by decide), show Mo_in (Int32.toInt64 x3) 0 2 = some 0 from e3, cb1_s, if_pos rfl, cb1_s, ← bad2]
        refine ⟨rb, st, nz, nf, nod, nln, nlt, nal, nto, pz, pf, pis, pln, plt, sz, sf, slt, fpc, fsf, faf, ford, fpf, fio, ws, wl, _, _, _, _, _, _, _, _, _, _, _, _, _, ?_, rfl, hD, hW, hR⟩
        unfold ND_wisest De_nights
        rw [if_neg (nI_pos (by omega)), r2, hC 2 (by omega), cb1_s, if_neg (show ¬ nI (tm 2) < nI n1 by rw [ltN (by omega) (by omega)]; omega), e2, cb1_s, if_neg (show ¬ (1 : Int32) = 0 by decide)]
        by_cases h : x3 < 0
        · rw [if_pos h]; exact bad1
        · have h4 : ¬ x3 ≤ 2 := Int32.not_le.mpr (h3.resolve_left h)
          rw [if_neg h, if_neg h4]; exact bad1
    · rw [show Mo_in (Int32.toInt64 (nI n1)) 0 (Int32.toInt64 (nI (tm 2))) = some 1 from e1, cb1_s, if_neg (show ¬ (1 : Int32) = 0 by decide), e2', cb1_s, if_pos rfl, cb1_s, ← bad2]
      refine ⟨rb, st, nz, nf, nod, nln, nlt, nal, nto, pz, pf, pis, pln, plt, sz, sf, slt, fpc, fsf, faf, ford, fpf, fio, ws, wl, _, _, _, _, _, _, _, _, _, _, _, _, _, ?_, rfl, hD, hW, hR⟩
      unfold ND_wisest De_nights
      rw [if_neg (nI_pos (by omega)), r2, hC 2 (by omega), cb1_s, if_neg (show ¬ nI (tm 2) < nI n1 by rw [ltN (by omega) (by omega)]; omega), e2, cb1_s, if_pos rfl]; exact bad1
  · rw [show Mo_in (Int32.toInt64 x1) 0 (Int32.toInt64 (nI (tm 2))) = some 0 from e1, cb1_s, if_pos rfl, cb1_s, ← bad2]
    refine ⟨rb, st, nz, nf, nod, nln, nlt, nal, nto, pz, pf, pis, pln, plt, sz, sf, slt, fpc, fsf, faf, ford, fpf, fio, ws, wl, _, _, _, _, _, _, _, _, _, _, _, _, _, ?_, rfl, hD, hW, hR⟩
    unfold ND_wisest De_nights
    by_cases h : x1 < 0
    · rw [if_pos h]; exact bad1
    · rw [if_neg h, r2, hC 2 (by omega), cb1_s, if_pos (h1.resolve_left h)]; exact bad1
theorem lI_lt {a b : Nat} (ha : a < 2 ^ 63) (hb : b < 2 ^ 63) : (lg_cmp (lI a) (lI b) < 0) ↔ a < b := by
  rw [lg_cmp_lt, Int64.lt_iff_toInt_lt, lI_toInt ha, lI_toInt hb]; omega
theorem Mo_spunBy_v {T : Nat → Nat} {N : Nat} {od ln lt : Nat → Int32} (hO : NmOK T N od ln lt) (hN : N ≤ 10) {tm : Nat → Nat} (hT : TmOK tm) {F : Nat} (hF : 2000 ≤ F) {x m : Nat} (hx : x ≤ 99999) (hm : m < 2 ^ N) {least : Nat → Int64} (hL : least (1024 * 0 + m) = lI (VV T N tm (tm 2 - 0) m)) : Mo_spunBy F (nI N) od least (nI x) (nI m) = some (if m = 0 then -3 else if x * ww T m < VV T N tm (tm 2) m then 0 else 1) := by
  have h10 := p2_10 hN
  unfold Mo_spunBy
  by_cases h0 : m = 0
  · rw [if_pos (show nI m = 0 from congrArg nI h0), if_pos h0]
  · have hv := VV_U (T := T) tm hN (tm 2) m hm
    have hu := UU_bd hO hN hT hm
    have hmul := Nat.mul_le_mul hx hu.1
    unfold ww at *
    rw [if_neg (show ¬ nI m = 0 from fun hq => h0 ((nI_eq (b := 0) (by omega) (by omega)).mp hq)), if_neg h0, Mo_weight_ok hO hN (by omega) hm, cb1_s, rdN (by omega) (by omega), show least m = lI (VV T N tm (tm 2) m) by have := hL; rwa [Nat.mul_zero, Nat.zero_add, Nat.sub_zero] at this, tL (by omega), tL (by omega), lI_mul]
    by_cases h : x * wt (Od T) m 10 < VV T N tm (tm 2) m
    · rw [if_pos ((lI_lt (by omega) (by omega)).mpr h), if_pos h]
    · rw [if_neg (fun hq => h ((lI_lt (by omega) (by omega)).mp hq)), if_neg h]
theorem spun_v {T : Nat → Nat → Nat} {n : Nat → Nat} {t0s : Int32} {t0b : (Nat → Int32)} {t1s : Int32} {t1b : (Nat → Int32)} {t2s : Int32} {t2b : (Nat → Int32)} {st : Int32} {nz : Int32} {nf : Int32} {nod : (Nat → Int32)} {nln : (Nat → Int32)} {nlt : (Nat → Int32)} {nal : (Nat → Int32)} {nto : (Nat → Int32)} {pz : Int32} {pf : Int32} {pis : (Nat → Int32)} {pln : (Nat → Int32)} {plt : (Nat → Int32)} {sz : Int32} {sf : Int32} {slt : (Nat → Int32)} {fpc : Int32} {fsf : Int32} {faf : Int32} {ford : Int32} {fpf : (Nat → Int32)} {fio : (Nat → Int32)} (hT : TxC T n t0s t0b t1s t1b t2s t2b) (hD : DrC T n st nz nf nod nln nlt nal nto pz pf pis pln plt sz sf slt fpc fsf faf ford fpf fio) {F : Nat} (hF : 2000 ≤ F) (hF2 : 13000 ≤ F) {tm : Nat → Nat} {dt : Nat → Int32} (hC : TmC tm dt) (hTm : TmOK tm) {ws : Int32} {wl : Nat → Int32} (hW : WiC T n tm ws wl) {x : Nat} (hx : x ≤ 99999) : ∃ nz' nf' nod' nln' nlt' nal' nto' pz' pf' pis' pln' plt' sz' sf' slt' fpc' fsf' faf' ford' fpf' fio' ws' wl', ND_spun F t0s t0b t1s t1b t2s t2b dt st nz nf nod nln nlt nal nto pz pf pis pln plt sz sf slt fpc fsf faf ford fpf fio ws wl (nI x) = some (if FM T n 63 = 0 then -3 else if x * ww (T 0) (FM T n 63) < VV (T 0) (nN T n) tm (tm 2) (FM T n 63) then 0 else 1, 0, nz', nf', nod', nln', nlt', nal', nto', pz', pf', pis', pln', plt', sz', sf', slt', fpc', fsf', faf', ford', fpf', fio', ws', wl') ∧ DrC T n 0 nz' nf' nod' nln' nlt' nal' nto' pz' pf' pis' pln' plt' sz' sf' slt' fpc' fsf' faf' ford' fpf' fio' ∧ WiC T n tm ws' wl' := by
  obtain ⟨nz', nf', nod', nln', nlt', nal', nto', pz', pf', pis', pln', plt', sz', sf', slt', fpc', fsf', faf', ford', fpf', fio', e, g⟩ := ND_refresh_ok hT hD hF
  have g' := DrC_0 g
  have hO : NmOK (T 0) (nN T n) nod' nln' nlt' := g.1.2.2.1
  have hz : nz' = nI (nN T n) := g.1.1
  have hG : GrOK (T 0) (nN T n) 6 nal' := g.1.2.2.2.1
  have hOt : OtOK (T 0) (2 ^ (nN T n)) nto' := g.1.2.2.2.2
  have g8 : faf' = nI (FM T n 63) := g.2.2.2.2.2.1
  have hN10 : nN T n ≤ 10 := pN_le
  have hb := TmB hTm
  have h210 := p2_10 hN10
  have hm : FM T n 63 < 2 ^ (nN T n) := fm_lt _ _ _ _ _ _ _
  unfold ND_spun Fi_byAll
  rw [if_neg (nI_pos (by omega)), if_pos (show nI x ≤ 99999 by rw [show (99999 : Int32) = nI 99999 from rfl, leN (by omega) (by omega)]; omega), e, cb22_s, cb1_s, g8]
  rw [g8] at g'
  by_cases h0 : FM T n 63 = 0
  · rw [if_pos (show nI (FM T n 63) = 0 from congrArg nI h0), if_pos h0]
    exact ⟨_, _, _, _, _, _, _, _, _, _, _, _, _, _, _, _, _, _, _, _, _, _, _, rfl, g', hW⟩
  · obtain ⟨tb, t1, t2⟩ := Wi_ready_ok hN10 hC hTm hF2 ws wl hW
    obtain ⟨tb2, f1, f2⟩ := Wi_least_ok hO hG hOt hN10 hC hTm (show 100 ≤ F by omega) 14 0 (by omega) (by omega) tb _ t2 hm
    have hv := VV_U (T := T 0) tm hN10 (tm 2) _ hm
    have hu := UU_bd hO hN10 hTm hm
    have hmul := Nat.mul_le_mul hx hu.1
    rw [hz] at g'
    unfold ww at *
    rw [if_neg (show ¬ nI (FM T n 63) = 0 from fun hq => h0 ((nI_eq (b := 0) (by omega) (by omega)).mp hq)), if_neg h0, hz, t1, cb2_s, Na_oddsOfAll_ok hOt hN10 hm, cb1_s, show (0 : Int32) = nI 0 from rfl, f1, cb2_s, Nat.sub_zero, tL (by omega), tL (by omega), tL (by omega), lI_mul]
    by_cases h : x * wt (Od (T 0)) (FM T n 63) 10 < VV (T 0) (nN T n) tm (tm 2) (FM T n 63)
    · rw [if_pos (show lg_cmp (lI (x * wt (Od (T 0)) (FM T n 63) 10)) (lI (VV (T 0) (nN T n) tm (tm 2) (FM T n 63))) < nI 0 from (lI_lt (by omega) (by omega)).mpr h), if_pos h]
      exact ⟨_, _, _, _, _, _, _, _, _, _, _, _, _, _, _, _, _, _, _, _, _, _, _, rfl, g', fun _ => f2⟩
    · rw [if_neg (show ¬ lg_cmp (lI (x * wt (Od (T 0)) (FM T n 63) 10)) (lI (VV (T 0) (nN T n) tm (tm 2) (FM T n 63))) < nI 0 from fun hq => h ((lI_lt (by omega) (by omega)).mp hq)), if_neg h]
      exact ⟨_, _, _, _, _, _, _, _, _, _, _, _, _, _, _, _, _, _, _, _, _, _, _, rfl, g', fun _ => f2⟩
theorem spun_ok {T : Nat → Nat → Nat} {n : Nat → Nat} {t0s : Int32} {t0b : (Nat → Int32)} {t1s : Int32} {t1b : (Nat → Int32)} {t2s : Int32} {t2b : (Nat → Int32)} {st : Int32} {nz : Int32} {nf : Int32} {nod : (Nat → Int32)} {nln : (Nat → Int32)} {nlt : (Nat → Int32)} {nal : (Nat → Int32)} {nto : (Nat → Int32)} {pz : Int32} {pf : Int32} {pis : (Nat → Int32)} {pln : (Nat → Int32)} {plt : (Nat → Int32)} {sz : Int32} {sf : Int32} {slt : (Nat → Int32)} {fpc : Int32} {fsf : Int32} {faf : Int32} {ford : Int32} {fpf : (Nat → Int32)} {fio : (Nat → Int32)} (hT : TxC T n t0s t0b t1s t1b t2s t2b) (hD : DrC T n st nz nf nod nln nlt nal nto pz pf pis pln plt sz sf slt fpc fsf faf ford fpf fio) {F : Nat} (hF : 2000 ≤ F) (hF2 : 13000 ≤ F) {bytes typed : Nat → Int32} (hM : TxR T n bytes typed) {tm : Nat → Nat} {dt se : Nat → Int32} (hC : TmC tm dt) (hS : TmC tm se) (hTm : TmOK tm) {ws : Int32} {wl : Nat → Int32} (hW : WiC T n tm ws wl) (ra rn rp rs todo : Int32) (rch rlo rle ris rpl rpt rso : Nat → Int32) (least : Nat → Int64) (x1 : Int32) : ∃ r st' nz' nf' nod' nln' nlt' nal' nto' pz' pf' pis' pln' plt' sz' sf' slt' fpc' fsf' faf' ford' fpf' fio' ws' wl' ra' rn' rp' rs' todo' rch' rlo' rle' ris' rpl' rpt' rso' least', ND_spun F t0s t0b t1s t1b t2s t2b dt st nz nf nod nln nlt nal nto pz pf pis pln plt sz sf slt fpc fsf faf ford fpf fio ws wl x1 = some (r, st', nz', nf', nod', nln', nlt', nal', nto', pz', pf', pis', pln', plt', sz', sf', slt', fpc', fsf', faf', ford', fpf', fio', ws', wl') ∧ Mo_spun F bytes typed se ra rn rp rs todo rch rlo rle ris rpl rpt rso least x1 = some (r, ra', rn', rp', rs', todo', rch', rlo', rle', ris', rpl', rpt', rso', least') ∧ DrC T n st' nz' nf' nod' nln' nlt' nal' nto' pz' pf' pis' pln' plt' sz' sf' slt' fpc' fsf' faf' ford' fpf' fio' ∧ WiC T n tm ws' wl' := by
  obtain ⟨ra', rn', rp', rs', rch', rlo', rle', ris', rpl', rpt', rso', f, hR⟩ := Mo_reads_ok hT hM hF ra rn rp rs rch rlo rle ris rpl rpt rso
  have hb := TmB hTm
  obtain ⟨q1, q2, q3, q4, q5, q6⟩ := hR
  have hm : FM T n 63 < 2 ^ (nN T n) := fm_lt _ _ _ _ _ _ _
  unfold Mo_spun
  rw [f, cb11_s]
  rcases in_cases x1 0 99999 (by omega) (by omega) with ⟨x, _, hx, rfl, e1⟩ | ⟨h1, e1⟩
  · obtain ⟨nz', nf', nod', nln', nlt', nal', nto', pz', pf', pis', pln', plt', sz', sf', slt', fpc', fsf', faf', ford', fpf', fio', ws', wl', v, g, w⟩ := spun_v hT hD hF hF2 hC hTm hW hx
    obtain ⟨least', f1, f2⟩ := Mo_findWisest_ok q4 pN_le hS hTm hF (n1 := 0) (by omega) hm todo least
    unfold Mo_spunOf
    rw [v, show Mo_in (Int32.toInt64 (nI x)) 0 99999 = some 1 from e1, cb1_s, if_neg (show ¬ (1 : Int32) = 0 by decide), q1, q2, q3, Mo_fitsNow_ok q4 pN_le q5 pP_le q6 (pS_le (n2_le hT)) (show 100 ≤ F by omega), cb1_s, show fm (T 0) (T 1) (T 2) (nN T n) (nP T n) (nS T n) 63 = FM T n 63 from rfl, show Mo_findWisest F (nI (nN T n)) rch' rlo' rle' se todo least 0 (nI (FM T n 63)) = _ from f1, cb2_s, Mo_spunBy_v q4 pN_le hTm hF hx hm f2, cb1_s, cb3_s]
    exact ⟨_, _, _, _, _, _, _, _, _, _, _, _, _, _, _, _, _, _, _, _, _, _, _, _, _, _, _, _, _, _, _, _, _, _, _, _, _, _, rfl, rfl, g, w⟩
  · rw [show Mo_in (Int32.toInt64 x1) 0 99999 = some 0 from e1, cb1_s, if_pos rfl]
    refine ⟨-2, st, nz, nf, nod, nln, nlt, nal, nto, pz, pf, pis, pln, plt, sz, sf, slt, fpc, fsf, faf, ford, fpf, fio, ws, wl, _, _, _, _, _, _, _, _, _, _, _, _, _, ?_, rfl, hD, hW⟩
    unfold ND_spun
    by_cases h : x1 < 0
    · rw [if_pos h]
    · have h4 : ¬ x1 ≤ 99999 := Int32.not_le.mpr (h1.resolve_left h)
      rw [if_neg h, if_neg h4]
