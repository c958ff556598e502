/-! THE TABLE OF WISEST IS MADE LATE. The pure functions speak of it as of a row of 12288 that is there from the start; what the heap holds (where, how long, what) goes beside: ghosts, and the cells that were spent. -/
def GH (n : Nat) (fm f : Nat → Int32) (st : Int32) : Prop := (n = 12288 ∧ f = fm) ∨ (n = 0 ∧ fm = (fun _ => 0) ∧ f = (fun _ => 0) ∧ ¬ st = 0)
theorem GH.fresh {n : Nat} {fm f : Nat → Int32} {st : Int32} (h : GH n fm f st) (hs : st = 0) : n = 12288 ∧ f = fm := by
  rcases h with h | h
  · exact h
  · exact absurd hs h.2.2.2
theorem GH.st {n : Nat} {fm f : Nat → Int32} {st st1 : Int32} (h : GH n fm f st) (hs : ¬ st = 0 → ¬ st1 = 0) : GH n fm f st1 := by
  rcases h with h | h
  · exact Or.inl h
  · exact Or.inr ⟨h.1, h.2.1, h.2.2.1, hs h.2.2.2⟩
theorem GH.rd {f : Nat → Int32} {st : Int32} : GH 12288 f f st := Or.inl ⟨rfl, rfl⟩
def BU (k cells slots : Nat) : Prop := cells ≤ k ∧ slots ≤ 12288 * k
theorem BU.ro {k K cells slots : Nat} (h : BU k cells slots) (hk : k ≤ K) : cells ≤ K ∧ slots ≤ 12288 * K := ⟨Nat.le_trans h.1 hk, Nat.le_trans h.2 (Nat.mul_le_mul_left 12288 hk)⟩
theorem BU.mono {k K cells slots : Nat} (h : BU k cells slots) (hk : k ≤ K) : BU K cells slots := h.ro hk
theorem BU.call {k j K cells slots : Nat} (h : BU k cells slots) (hk : k + j ≤ K) : cells + j ≤ K ∧ slots + 12288 * j ≤ 12288 * K := by
  obtain ⟨h1, h2⟩ := h
  refine ⟨by omega, ?_⟩
  have h3 : 12288 * (k + j) ≤ 12288 * K := Nat.mul_le_mul_left 12288 hk
  rw [Nat.mul_add] at h3
  omega
theorem BU.add {k j cells slots cells1 slots1 : Nat} (h : BU k cells slots) (hc : cells1 = cells + j) (hs : slots1 = slots + 12288 * j) : BU (k + j) cells1 slots1 := by
  subst hc; subst hs; exact h.call (Nat.le_refl _)
theorem BU.zero : BU 0 0 0 := ⟨Nat.le_refl _, Nat.zero_le _⟩
theorem bu_guard {k : Nat} {x : Int32} (hk : x = nI k) (hk3 : k ≤ 3) (hc : ¬ (2 : Int32) < x) : k ≤ 2 := by
  subst hk
  rw [Int32.lt_iff_toInt_lt, nI_toInt (by omega), show ((2 : Int32)).toInt = 2 from by decide] at hc
  omega
theorem bu_next {k cells slots : Nat} {x : Int32} (hk : x = nI k) (hk2 : k ≤ 2) (h : BU (k + 1) cells slots) : ∃ j : Nat, x + 1 = nI j ∧ j ≤ 3 ∧ BU j cells slots := by
  subst hk
  exact ⟨k + 1, nI_1 k, by omega, h⟩
def QG (D : va_G) (v : Option Value) (G : Nat → (Nat → Int32) → Prop) (wq : Nat → Nat → (Nat → Int32) → va_W) (A : Nat → Prop) : Array Value → State → Outcome → State → Prop := fun _ st oc t => (∃ (a n : Nat) (fm : Nat → Int32), oc = .returned v ∧ G n fm ∧ va_P D vwCl (wq a n fm) t.heap ∧ va_D A (wq a n fm)) ∧ va_F A st t
theorem kMetG {l : Launch} {y : MethodName} {own : String} {cc : ByteArray} {nL : Nat} {ret : Option FieldType} {rm : Room} {av : List Value} {D : va_G} {ct : Nat → ClassId} {sz mc ms : Nat} {ws : va_W} {G : Nat → (Nat → Int32) → Prop} {wq : Nat → Nat → (Nat → Int32) → va_W} {v : Option Value} {n : Nat} (hy : YN y cc nL ret n) (ho : y.cls = own) (hn : (lg_sl av).length ≤ nL)
    (body : ∀ (p : Program) (e : Env) (s : State) (m : MethodId) (args : Array Value) (below : List Frame) (meth : Method) (c : Code) (A : Nat → Prop), CX p s m args meth c own cc nL ret D ct → (∀ q : Nat, s.heap.size ≤ q → A q) → va_P D vwCl ws s.heap → va_D A ws → ∀ ls : Array Slot, lv_has ls nL (lv_args 0 av) → W p l e rm s m args below meth c s.heap [] 0 0 (MQ below (QG D v G wq A) args s mc ms A) (F0 m 0 ls [])) :
    Met l y (WS y cc nL ret) rm (va_Pc av (PM D ct sz ws)) (QG D v G wq (va_A ws sz)) mc ms (va_A ws sz) := by
  refine Met.ofW (cc := cc) (maxL := nL) (ret := ret) hy.2.2.2 rfl ?_
  intro p e s m args below meth c s₁ B hml hv
  obtain ⟨rfl, hsz, hP, hK, hD⟩ := hv
  subst hsz
  have hts := atoms_spec (ws := WS y cc nL ret) B.pre
  have hl := lv_entry av hn
  rw [lg_entry_eq]
  exact body p e s m _ below meth c (va_A ws s.heap.size) ⟨B.exec, B.bytes, B.returns, hml, by rw [← ho]; exact findClass_of_methodNamed B.named, fun w h => hts w (List.mem_cons_of_mem _ h), B.notSynchronized, hK⟩ (fun q h => Or.inr h) hP hD.self _ hl
theorem va_RA_uniq {U : State} {c1 c2 : ClassId} {ty : FieldType} (h1 : va_RA U c1 ty) (h2 : va_RA U c2 ty) : c1 = c2 := by
  cases ty with
  | object C =>
    obtain ⟨_, _, _, _, _, a⟩ := h1
    obtain ⟨_, _, _, _, _, b⟩ := h2
    exact Option.some.inj (a.symm.trans b)
  | _ => exact Option.some.inj (Eq.trans (Eq.symm h1) h2)
section KNEWA
variable {p : Program} {l : Launch} {e : Env} {R rm : Room} {s : State} {m : MethodId} {args : Array Value} {below : List Frame} {meth : Method} {c : Code} {H : Heap} {locs : List Loc} {cells slots : Nat} {Q : State → Prop} {own : String} {cc : ByteArray} {nL : Nat} {ret : Option FieldType} {D : va_G} {ct : Nat → ClassId} {cl : List vw_C} {tys : List (ClassId × FieldType)} {ws : va_W} {A : Nat → Prop} {H0 : Heap} {pc : Nat} {ls : Array Slot} {st0 st1 rest : List Value}
theorem knewa (hexec : p.tables.exec = Jvm.exec) (hb : c.code = cc) {atype : ArrayType} (harr : (Cond.arrayClass (newarray.typeOf atype)).before args s = true) {ty : FieldType} (hty : newarray.typeOf atype = ty) (hK : va_K D cl tys s) {cT : ClassId} (t0 : Nat) (ht0 : tys[t0]? = some (cT, ty)) (hP : va_P D cl ws H) (hD : va_D A ws) (hS : va_S A H0 H locs) (hA : ∀ q, H0.size ≤ q → A q)
    {n : Int32} {N' : Nat} {a0 : vp_A} (ha : ∀ cA : ClassId, vp_cell cA a0 = arrV cA N' (fun _ => defaultValue ty)) (hn : ¬ n < 0) (hN : n.toNatClampNeg = N') (hbytes : N' * componentBytes ty ≤ 536870912) (hcells : cells + 1 ≤ R.cells) (hslots : slots + N' ≤ R.slots) (hdg : decode cc pc = .ok (.newarray atype, 2))
    (kk : ∀ (q : Nat) (H1 : Heap), va_P D cl (ws ++ [(q, .inl (cT, a0))]) H1 → va_D A (ws ++ [(q, .inl (cT, a0))]) → va_S A H0 H1 locs →
      W p l e R s m args below meth c H1 locs (cells + 1) (slots + N') Q (F0 m (pc + 2) ls (.ref q :: rest))) : W p l e R s m args below meth c H locs cells slots Q (F0 m pc ls (.int n :: rest)) := by
  refine va_newa hexec hb harr hty hK hP hD hS hA ha hn hN hbytes hcells hslots hdg (fun q cA H1 hK1 hP1 hD1 hS1 => ?_)
  have h1 := (hK1.2 tys.length (cA, ty) (by simp)).2
  have e : cA = cT := va_RA_uniq h1 (hK.2 t0 _ ht0).2
  subst e
  exact kk q H1 hP1 hD1 hS1
end KNEWA
section KGH
variable {p : Program} {l : Launch} {e : Env} {rm : Room} {s : State} {m : MethodId} {args : Array Value} {below : List Frame} {meth : Method} {c : Code} {H : Heap} {locs : List Loc} {cells slots : Nat} {Q : State → Prop} {own : String} {cc : ByteArray} {nL : Nat} {ret : Option FieldType} {D : va_G} {ct : Nat → ClassId} {ws : va_W} {A : Nat → Prop} {pc : Nat} {ls : Array Slot} {st0 st1 rest : List Value}
variable {G : Nat → (Nat → Int32) → Prop} {wq : Nat → Nat → (Nat → Int32) → va_W} {mc ms a0 n0 : Nat} {f0 : Nat → Int32}
theorem kretG {v : Int32} (C : CX p s m args meth c own cc nL (some .int) D ct) (hG : G n0 f0) (hP : va_P D vwCl (wq a0 n0 f0) H) (hD : va_D A (wq a0 n0 f0)) (hS : va_S A s.heap H locs) (hc : cells ≤ mc ∧ slots ≤ ms) (hdg : decode cc pc = .ok (.ireturn, 1)) : W p l e rm s m args below meth c H locs cells slots (MQ below (QG D (some (.int v)) G wq A) args s mc ms A) (F0 m pc ls [.int v]) :=
  W.widen hc.1 hc.2 (W.iret C.1 C.2.1 C.2.2.1 (fun t ht _ => ⟨⟨a0, n0, f0, rfl, hG, by rw [ht]; exact hP, hD⟩, hS.F ht⟩) hS.2.2 hdg C.2.2.2.2.2.2.1)
theorem kretGl {v : Int64} (C : CX p s m args meth c own cc nL (some .long) D ct) (hG : G n0 f0) (hP : va_P D vwCl (wq a0 n0 f0) H) (hD : va_D A (wq a0 n0 f0)) (hS : va_S A s.heap H locs) (hc : cells ≤ mc ∧ slots ≤ ms) (hdg : decode cc pc = .ok (.lreturn, 1)) : W p l e rm s m args below meth c H locs cells slots (MQ below (QG D (some (.long v)) G wq A) args s mc ms A) (F0 m pc ls [.long v]) :=
  W.widen hc.1 hc.2 (W.lret C.1 C.2.1 C.2.2.1 (fun t ht _ => ⟨⟨a0, n0, f0, rfl, hG, by rw [ht]; exact hP, hD⟩, hS.F ht⟩) hS.2.2 hdg C.2.2.2.2.2.2.1)
theorem kretGv (C : CX p s m args meth c own cc nL none D ct) (hG : G n0 f0) (hP : va_P D vwCl (wq a0 n0 f0) H) (hD : va_D A (wq a0 n0 f0)) (hS : va_S A s.heap H locs) (hc : cells ≤ mc ∧ slots ≤ ms) (hdg : decode cc pc = .ok (.return_, 1)) : W p l e rm s m args below meth c H locs cells slots (MQ below (QG D none G wq A) args s mc ms A) (F0 m pc ls []) :=
  W.widen hc.1 hc.2 (W.vret C.1 C.2.1 C.2.2.1 (fun t ht _ => ⟨⟨a0, n0, f0, rfl, hG, by rw [ht]; exact hP, hD⟩, hS.F ht⟩) hS.2.2 hdg C.2.2.2.2.2.2.1)
variable {bytes : ByteArray} {maxL index n : Nat} {rt : Option FieldType} {y : MethodName} {rm' : Room} {As : List Value} {b : Nat} {wc wc' wf : va_W} {v : Option Value} {Cn : String}
/-- behind a call that may make the table -/
theorem kafterG {a : Array Value} {wf : Nat → Nat → (Nat → Int32) → va_W} (hr : va_Run p l e rm s m args below meth c H locs cells slots mc ms (F0 m pc ls st0) rest (QG D v G wq (va_A wc H.size) a) (va_A wc H.size)) (hP : va_P D vwCl ws H) (hD : va_D A ws) (hS : va_S A s.heap H locs) (hA : ∀ q : Nat, s.heap.size ≤ q → A q) (isC isR pm : List Nat) (hC : isC.map (fun i => ws[i]?) = wc.map some) (hR : isR.map (fun i => ws[i]?) = (isR.filterMap (fun i => ws[i]?)).map some) (hnd : va_nd isR = true) (hdis : ∀ i ∈ isR, i ∉ isC) (hpn : va_nd pm = true) (hpm : ∀ (a1 n1 : Nat) (f1 : Nat → Int32), pm.map (fun i => (isR.filterMap (fun i => ws[i]?) ++ wq a1 n1 f1)[i]?) = (wf a1 n1 f1).map some) (hpf : ∀ (a1 n1 : Nat) (f1 : Nat → Int32), pm.filterMap (fun i => (isR.filterMap (fun i => ws[i]?) ++ wq a1 n1 f1)[i]?) = wf a1 n1 f1) (h1 : v.toList ++ rest = st1)
    (kk : ∀ (a1 n1 : Nat) (f1 : Nat → Int32), G n1 f1 → ∀ (cells1 slots1 : Nat), cells1 = cells + mc → slots1 = slots + ms → ∀ (H1 : Heap) (locs1 : List Loc), va_P D vwCl (wf a1 n1 f1) H1 → va_D A (wf a1 n1 f1) → va_S A s.heap H1 locs1 → W p l e rm s m args below meth c H1 locs1 cells1 slots1 Q (F0 m (pc + 3) ls st1)) : W p l e rm s m args below meth c H locs cells slots Q (F0 m pc ls st0) := by
  intro T hT X
  obtain ⟨v', st₀, t, T', L, h0, X', hL, e1, e2, ⟨⟨a1, n1, f1, hv, hG, hP1, hD1⟩, hz, hk⟩, st⟩ := hr T hT X
  cases hv
  subst h1
  rw [h0] at hz hk
  rw [← e1] at hP1 hz hk
  have hF := va_free (wc := wc) hD hS hA isC hC
  obtain ⟨hP2, hD2⟩ := va_join (wr := isR.filterMap (fun i => ws[i]?)) hP hD isC isR hC hR hnd hdis hk hF hP1 hD1
  obtain ⟨t2, x1, b1⟩ := kk a1 n1 f1 hG _ _ rfl rfl T'.heap (locs ++ L) (hP2.sub pm (hpf a1 n1 f1)) (hD2.sub pm hpn (hpm a1 n1 f1))
    ⟨Nat.le_trans hS.1 hz, fun q h1 h2 => by rw [hk q (Nat.lt_of_lt_of_le h1 hS.1) (fun z => h2 (hF q z))]; exact hS.2.1 q h1 h2, fun q hq => by
      rcases List.mem_append.mp hq with h | h
      · exact hS.2.2 q h
      · exact hF _ (hL q h)⟩ T' rfl X'
  exact ⟨t2, st t2 x1, b1⟩
theorem kcGV {q0 ci : Nat} {fs : List Value} {q : vw_C} {wf : Nat → Nat → (Nat → Int32) → va_W} (C : CX p s m args meth c own cc nL ret D ct) (hM : Met l y (WS y bytes maxL rt) rm' (va_Pc (.ref b :: As) (PM D ct H.size wc)) (QG D v G wq (va_A wc H.size)) mc ms (va_A wc H.size)) (hc0 : rm'.cells = mc ∧ rm'.slots = ms) (hy : YN y bytes maxL rt n) (hin : Cond.instanceMethod y ∈ TB) (hse : Cond.selects Cn y y ∈ TB) (hl : Cond.methodLink own index y ∈ TB)
    (hR : rm'.frames + 1 ≤ rm.frames ∧ 8 + (maxL + 11) + rm'.locals ≤ rm.locals) (hcs : cells + mc ≤ rm.cells ∧ slots + ms ≤ rm.slots)
    (hP : va_P D vwCl ws H) (hD : va_D A ws) (hS : va_S A s.heap H locs) (hA : ∀ q : Nat, s.heap.size ≤ q → A q) (isC isR pm : List Nat) (hCs : isC.filterMap (fun i => ws[i]?) = wc) (hCn : va_nd isC = true) (hC : isC.map (fun i => ws[i]?) = wc.map some) (hRr : isR.map (fun i => ws[i]?) = (isR.filterMap (fun i => ws[i]?)).map some) (hnd : va_nd isR = true) (hdis : ∀ i ∈ isR, i ∉ isC) (hpn : va_nd pm = true) (hpm : ∀ (a1 n1 : Nat) (f1 : Nat → Int32), pm.map (fun i => (isR.filterMap (fun i => ws[i]?) ++ wq a1 n1 f1)[i]?) = (wf a1 n1 f1).map some) (hpf : ∀ (a1 n1 : Nat) (f1 : Nat → Int32), pm.filterMap (fun i => (isR.filterMap (fun i => ws[i]?) ++ wq a1 n1 f1)[i]?) = wf a1 n1 f1)
    (he : ws[q0]? = some (b, .inr (ci, fs))) (hc : vwCl[ci]? = some q) (hq : q.1 = Cn) (hls : ls.size = nL) (hn : As.length = n) (hst : st0 = As.reverse ++ .ref b :: rest) (hW : (rest.map fun v => v.category).sum ≤ 8) (hdg : decode cc pc = .ok (.invokevirtual index, 3)) (h1 : v.toList ++ rest = st1)
    (kk : ∀ (a1 n1 : Nat) (f1 : Nat → Int32), G n1 f1 → ∀ (cells1 slots1 : Nat), cells1 = cells + mc → slots1 = slots + ms → ∀ (H1 : Heap) (locs1 : List Loc), va_P D vwCl (wf a1 n1 f1) H1 → va_D A (wf a1 n1 f1) → va_S A s.heap H1 locs1 → W p l e rm s m args below meth c H1 locs1 cells1 slots1 Q (F0 m (pc + 3) ls st1)) : W p l e rm s m args below meth c H locs cells slots Q (F0 m pc ls st0) := by
  have cb := kcallB C hy hl hR
  rw [hc0.1, hc0.2] at cb
  refine kafterG (va_runV (As := As) (rest := rest) C.fix hM ⟨cb, C.2.2.2.2.2.1 _ hin, C.2.2.2.2.2.1 _ hse⟩ ⟨blindM, ?_, fun U hU hW => ⟨rfl, by rw [hU], by rw [hU]; exact hP.sub isC hCs, C.2.2.2.2.2.2.2.warm hW, (hD.sub isC hCn hC).weaken (fun _ _ _ _ => trivial)⟩⟩ rfl hn hls hst (lv_room hW) hdg hcs) hP hD hS hA isC isR pm hC hRr hnd hdis hpn hpm hpf h1 kk
  rw [← hq]
  exact va_recv C.2.2.2.2.2.2.2.1 hP hc he
/-- a private instance method of a nest mate -/
theorem kcMVN {host : String} {q0 ci : Nat} {fs : List Value} {q : vw_C} (C : CX p s m args meth c own cc nL ret D ct) (hM : Met l y (WS y bytes maxL rt) rm' (va_Pc (.ref b :: As) (PM D ct H.size wc)) (QM D v wc' (va_A wc H.size)) 0 0 (va_A wc H.size)) (hc0 : rm'.cells = 0 ∧ rm'.slots = 0) (hy : YN y bytes maxL rt n) (hin : Cond.instanceMethod y ∈ TB) (hse : Cond.selects Cn y y ∈ TB) (hl : Cond.methodLinkNest own index y host ∈ tn_l)
    (hR : rm'.frames + 1 ≤ rm.frames ∧ 8 + (maxL + 11) + rm'.locals ≤ rm.locals) (hcs : cells ≤ rm.cells ∧ slots ≤ rm.slots)
    (hP : va_P D vwCl ws H) (hD : va_D A ws) (hS : va_S A s.heap H locs) (hA : ∀ q : Nat, s.heap.size ≤ q → A q) (isC isR pm : List Nat) (hCs : isC.filterMap (fun i => ws[i]?) = wc) (hCn : va_nd isC = true) (hC : isC.map (fun i => ws[i]?) = wc.map some) (hRr : isR.map (fun i => ws[i]?) = (isR.filterMap (fun i => ws[i]?)).map some) (hnd : va_nd isR = true) (hdis : ∀ i ∈ isR, i ∉ isC) (hpn : va_nd pm = true) (hpm : pm.map (fun i => (isR.filterMap (fun i => ws[i]?) ++ wc')[i]?) = wf.map some) (hpf : pm.filterMap (fun i => (isR.filterMap (fun i => ws[i]?) ++ wc')[i]?) = wf)
    (he : ws[q0]? = some (b, .inr (ci, fs))) (hc : vwCl[ci]? = some q) (hq : q.1 = Cn) (hls : ls.size = nL) (hn : As.length = n) (hst : st0 = As.reverse ++ .ref b :: rest) (hW : (rest.map fun v => v.category).sum ≤ 8) (hdg : decode cc pc = .ok (.invokevirtual index, 3)) (h1 : v.toList ++ rest = st1)
    (kk : ∀ (H1 : Heap) (locs1 : List Loc), va_P D vwCl wf H1 → va_D A wf → va_S A s.heap H1 locs1 → W p l e rm s m args below meth c H1 locs1 cells slots Q (F0 m (pc + 3) ls st1)) : W p l e rm s m args below meth c H locs cells slots Q (F0 m pc ls st0) := by
  refine kafterM (va_runVN (As := As) (rest := rest) C.fix hM ⟨va_cnB n C.2.2.2.2.2.1 (ws_good hy) rfl hc0.1 hc0.2 (C.2.2.2.2.2.2.2.2 _ hl) (C.2.2.2.2.2.1 _ hy.2.1) hy.2.2.1 hR, C.2.2.2.2.2.1 _ hin, C.2.2.2.2.2.1 _ hse⟩ ⟨blindM, ?_, fun U hU hW => ⟨rfl, by rw [hU], by rw [hU]; exact hP.sub isC hCs, C.2.2.2.2.2.2.2.warm hW, (hD.sub isC hCn hC).weaken (fun _ _ _ _ => trivial)⟩⟩ rfl hn hls hst (lv_room hW) hdg hcs) hP hD hS hA isC isR pm hC hRr hnd hdis hpn hpm hpf h1 kk
  rw [← hq]
  exact va_recv C.2.2.2.2.2.2.2.1 hP hc he
end KGH
