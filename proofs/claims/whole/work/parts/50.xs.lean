/-! statics that nobody writes; new objects -/
def leF : Nat → Int32 := fun k => match k with
  | 0 => 1
  | 1 => 0
  | 2 => 1
  | 3 => 0
  | _ => 1
def moF : Nat → Int32 := fun k => match k with
  | 0 => 99
  | 1 => 99
  | 2 => 12
  | 3 => 9999
  | _ => 3
def XS (aL aM : Nat) (A : Nat → Prop) (U : State) (H : Heap) : Prop := va_Z "NamedDwarf$Deal" "LEAST" "[I" (.ref aL) A U H ∧ va_T .int aL 5 (fun j => .int (leF j)) A U H ∧ va_Z "NamedDwarf$Deal" "MOST" "[I" (.ref aM) A U H ∧ va_T .int aM 5 (fun j => .int (moF j)) A U H
theorem XS.moved {aL aM : Nat} {A : Nat → Prop} {u U : State} {H : Heap} (hvm : u.vm.Alike U.vm) (h : XS aL aM A u H) : XS aL aM A U H := ⟨va_Z.moved hvm h.1, va_T.moved hvm h.2.1, va_Z.moved hvm h.2.2.1, va_T.moved hvm h.2.2.2⟩
theorem XS.kept {aL aM : Nat} {A : Nat → Prop} {U : State} {H H1 : Heap} (h : XS aL aM A U H) (hq : ∀ a : Nat, a < H.size → ¬ A a → H1[a]? = H[a]?) : XS aL aM A U H1 := ⟨va_Z.kept h.1 hq, va_T.kept h.2.1 hq, va_Z.kept h.2.2.1 hq, va_T.kept h.2.2.2 hq⟩
theorem XS.narrow {aL aM : Nat} {A B : Nat → Prop} {U : State} {H : Heap} (h : XS aL aM A U H) (hAB : ∀ q, B q → A q) : XS aL aM B U H := ⟨va_Z.narrow h.1 hAB, va_T.narrow h.2.1 hAB, va_Z.narrow h.2.2.1 hAB, va_T.narrow h.2.2.2 hAB⟩
def PRX (D : va_G) (ct : Nat → ClassId) (aL aM : Nat) (ws : va_W) : State → Prop := fun U => PR D ct ws U ∧ XS aL aM (fun _ => False) U U.heap
def PMX (D : va_G) (ct : Nat → ClassId) (aL aM : Nat) (sz : Nat) (ws : va_W) : State → Prop := fun U => PM D ct sz ws U ∧ XS aL aM (fun _ => False) U U.heap
theorem blindRX {av : List Value} {D : va_G} {ct : Nat → ClassId} {aL aM : Nat} {ws : va_W} : FrameBlind (va_Pc av (PRX D ct aL aM ws)) := fun a U g mk q => by
  obtain ⟨q0, q1, qX⟩ := q
  exact ⟨q0, (blindR a U g mk ⟨q0, q1⟩).2, qX.moved (u := U) (U := U.calling g mk a) (Vm.Alike.refl U.vm)⟩
theorem blindMX {av : List Value} {D : va_G} {ct : Nat → ClassId} {aL aM : Nat} {sz : Nat} {ws : va_W} : FrameBlind (va_Pc av (PMX D ct aL aM sz ws)) := fun a U g mk q => by
  obtain ⟨q0, q1, qX⟩ := q
  exact ⟨q0, (blindM a U g mk ⟨q0, q1⟩).2, qX.moved (u := U) (U := U.calling g mk a) (Vm.Alike.refl U.vm)⟩
theorem kMetRX {l : Launch} {y : MethodName} {own : String} {cc : ByteArray} {nL : Nat} {ret : Option FieldType} {rm : Room} {av : List Value} {D : va_G} {ct : Nat → ClassId} {aL aM : Nat} {ws : va_W} {v : Option Value} {n : Nat} (hy : YN y cc nL ret n) (ho : y.cls = own) (hn : (lg_sl av).length ≤ nL)
    (body : ∀ (p : Program) (e : Env) (s : State) (m : MethodId) (args : Array Value) (below : List Frame) (meth : Method) (c : Code), CX p s m args meth c own cc nL ret D ct → XS aL aM (fun _ => False) s s.heap → va_P D vwCl ws s.heap → ∀ ls : Array Slot, lv_has ls nL (lv_args 0 av) → W p l e rm s m args below meth c s.heap [] 0 0 (MQ below (QR v) args s 0 0 (fun _ => False)) (F0 m 0 ls [])) :
    Met l y (WS y cc nL ret) rm (va_Pc av (PRX D ct aL aM ws)) (QR v) 0 0 (fun _ => False) := by
  refine Met.ofW (cc := cc) (maxL := nL) (ret := ret) hy.2.2.2 rfl ?_
  intro p e s m args below meth c s₁ B hml hv
  obtain ⟨rfl, ⟨hP, hK⟩, hX⟩ := hv
  have hts := atoms_spec (ws := WS y cc nL ret) B.pre
  have hl := lv_entry av hn
  rw [lg_entry_eq]
  exact body p e s m _ below meth c ⟨B.exec, B.bytes, B.returns, hml, by rw [← ho]; exact findClass_of_methodNamed B.named, fun w h => hts w (List.mem_cons_of_mem _ h), B.notSynchronized, hK⟩ hX hP _ hl
theorem kMetMX {l : Launch} {y : MethodName} {own : String} {cc : ByteArray} {nL : Nat} {ret : Option FieldType} {rm : Room} {av : List Value} {D : va_G} {ct : Nat → ClassId} {aL aM : Nat} {sz : Nat} {ws ws' : va_W} {v : Option Value} {n : Nat} (hy : YN y cc nL ret n) (ho : y.cls = own) (hn : (lg_sl av).length ≤ nL)
    (body : ∀ (p : Program) (e : Env) (s : State) (m : MethodId) (args : Array Value) (below : List Frame) (meth : Method) (c : Code) (A : Nat → Prop), CX p s m args meth c own cc nL ret D ct → XS aL aM (fun _ => False) s s.heap → (∀ q : Nat, s.heap.size ≤ q → A q) → va_P D vwCl ws s.heap → va_D A ws → ∀ ls : Array Slot, lv_has ls nL (lv_args 0 av) → W p l e rm s m args below meth c s.heap [] 0 0 (MQ below (QM D v ws' A) args s 0 0 A) (F0 m 0 ls [])) :
    Met l y (WS y cc nL ret) rm (va_Pc av (PMX D ct aL aM sz ws)) (QM D v ws' (va_A ws sz)) 0 0 (va_A ws sz) := by
  refine Met.ofW (cc := cc) (maxL := nL) (ret := ret) hy.2.2.2 rfl ?_
  intro p e s m args below meth c s₁ B hml hv
  obtain ⟨rfl, ⟨hsz, hP, hK, hD⟩, hX⟩ := hv
  subst hsz
  have hts := atoms_spec (ws := WS y cc nL ret) B.pre
  have hl := lv_entry av hn
  rw [lg_entry_eq]
  exact body p e s m _ below meth c (va_A ws s.heap.size) ⟨B.exec, B.bytes, B.returns, hml, by rw [← ho]; exact findClass_of_methodNamed B.named, fun w h => hts w (List.mem_cons_of_mem _ h), B.notSynchronized, hK⟩ hX (fun q h => Or.inr h) hP hD.self _ hl
/-- what a constructor leaves -/
def QN (D : va_G) (wf : (Nat → Nat) → va_W) (A : Nat → Prop) : Array Value → State → Outcome → State → Prop := fun _ st oc t => (∃ q : Nat → Nat, oc = .returned none ∧ va_P D vwCl (wf q) t.heap ∧ va_D A (wf q)) ∧ va_F A st t
theorem kMetN {l : Launch} {y : MethodName} {own : String} {cc : ByteArray} {nL : Nat} {rm : Room} {av : List Value} {D : va_G} {ct : Nat → ClassId} {sz mc ms : Nat} {ws : va_W} {wf : (Nat → Nat) → va_W} {n : Nat} (hy : YN y cc nL none n) (ho : y.cls = own) (hi : y.name = "<init>") (hn : (lg_sl av).length ≤ nL)
    (body : ∀ (p : Program) (e : Env) (s : State) (m : MethodId) (args : Array Value) (below : List Frame) (meth : Method) (c : Code) (A : Nat → Prop), CX p s m args meth c own cc nL none D ct → meth.name = "<init>" → (∀ q : Nat, s.heap.size ≤ q → A q) → va_P D vwCl ws s.heap → va_D A ws → ∀ ls : Array Slot, lv_has ls nL (lv_args 0 av) → W p l e rm s m args below meth c s.heap [] 0 0 (MQ below (QN D wf A) args s mc ms A) (F0 m 0 ls [])) :
    Met l y (WS y cc nL none) rm (va_Pc av (PM D ct sz ws)) (QN D wf (va_A ws sz)) mc ms (va_A ws sz) := by
  refine Met.ofW (cc := cc) (maxL := nL) (ret := none) hy.2.2.2 rfl ?_
  intro p e s m args below meth c s₁ B hml hv
  obtain ⟨rfl, hsz, hP, hK, hD⟩ := hv
  subst hsz
  have hts := atoms_spec (ws := WS y cc nL none) B.pre
  have hl := lv_entry av hn
  rw [lg_entry_eq]
  exact body p e s m _ below meth c (va_A ws s.heap.size) ⟨B.exec, B.bytes, B.returns, hml, by rw [← ho]; exact findClass_of_methodNamed B.named, fun w h => hts w (List.mem_cons_of_mem _ h), B.notSynchronized, hK⟩ (by rw [← hi]; exact (name_of_methodNamed B.named B.method).1) (fun q h => Or.inr h) hP hD.self _ hl
section KNEW
variable {p : Program} {l : Launch} {e : Env} {R rm : Room} {s : State} {m : MethodId} {args : Array Value} {below : List Frame} {meth : Method} {c : Code} {H : Heap} {locs : List Loc} {cells slots : Nat} {Q : State → Prop} {own : String} {cc : ByteArray} {nL : Nat} {ret : Option FieldType} {D : va_G} {ct : Nat → ClassId} {cl : List vw_C} {tys : List (ClassId × FieldType)} {ws : va_W} {A : Nat → Prop} {H0 : Heap} {pc : Nat} {ls : Array Slot} {st0 st1 rest : List Value}
theorem knewq (hexec : p.tables.exec = Jvm.exec) (hb : c.code = cc) {C : String} {index : Nat} (hown : s.vm.findClass own = some m.cls) (hclink : (Cond.classLink own index C).before args s = true) (hover : va_AO C s) (hK : va_K D cl tys s) {cT : ClassId} (t0 : Nat) (ht0 : tys[t0]? = some (cT, .object C)) (hP : va_P D cl ws H) (hD : va_D A ws) (hS : va_S A H0 H locs) (hA : ∀ q, H0.size ≤ q → A q)
    {n : Int32} {N' : Nat} (hn : ¬ n < 0) (hN : n.toNatClampNeg = N') (hbytes : N' * 4 ≤ 536870912) (hcells : cells + 1 ≤ R.cells) (hslots : slots + N' ≤ R.slots) (hdg : decode cc pc = .ok (.anewarray index, 3))
    (kk : ∀ (q : Nat) (H1 : Heap), va_P D cl (ws ++ [(q, .inl (cT, N', .inr (.inr (.inr (.inr (fun _ => none))))))]) H1 → va_D A (ws ++ [(q, .inl (cT, N', .inr (.inr (.inr (.inr (fun _ => none))))))]) → va_S A H0 H1 locs →
      W p l e R s m args below meth c H1 locs (cells + 1) (slots + N') Q (F0 m (pc + 3) ls (.ref q :: rest))) : W p l e R s m args below meth c H locs cells slots Q (F0 m pc ls (.int n :: rest)) := by
  refine va_newq hexec hb hown hclink hover hK hP hD hS hA hn hN hbytes hcells hslots hdg (fun q cA H1 hK1 hP1 hD1 hS1 => ?_)
  have h1 := (hK1.2 tys.length (cA, .object C) (by simp)).2
  have e : cA = cT := va_RA_uniq h1 (hK.2 t0 _ ht0).2
  subst e
  exact kk q H1 hP1 hD1 hS1
theorem kretN {wf : (Nat → Nat) → va_W} (C : CX p s m args meth c own cc nL none D ct) (q : Nat → Nat) (hP : va_P D vwCl (wf q) H) (hD : va_D A (wf q)) (hS : va_S A s.heap H locs) (hdg : decode cc pc = .ok (.return_, 1)) : W p l e rm s m args below meth c H locs cells slots (MQ below (QN D wf A) args s cells slots A) (F0 m pc ls []) :=
  W.vret C.1 C.2.1 C.2.2.1 (fun t ht _ => ⟨⟨q, rfl, by rw [ht]; exact hP, hD⟩, hS.F ht⟩) hS.2.2 hdg C.2.2.2.2.2.2.1
variable {bytes : ByteArray} {maxL index n mc ms : Nat} {rt : Option FieldType} {y : MethodName} {rm' : Room} {As : List Value} {b : Nat} {wc wc' wf : va_W} {wq : (Nat → Nat) → va_W} {v : Option Value} {Cn : String} {aL aM : Nat}
theorem kafterN {a : Array Value} (hr : va_Run p l e rm s m args below meth c H locs cells slots mc ms (F0 m pc ls st0) rest (QN D wq (va_A wc H.size) a) (va_A wc H.size)) (hP : va_P D vwCl ws H) (hD : va_D A ws) (hS : va_S A s.heap H locs) (hA : ∀ q : Nat, s.heap.size ≤ q → A q) (isC isR : List Nat) (hC : isC.map (fun i => ws[i]?) = wc.map some) (hR : isR.map (fun i => ws[i]?) = (isR.filterMap (fun i => ws[i]?)).map some) (hnd : va_nd isR = true) (hdis : ∀ i ∈ isR, i ∉ isC)
    (kk : ∀ (q : Nat → Nat) (H1 : Heap) (locs1 : List Loc), va_P D vwCl (isR.filterMap (fun i => ws[i]?) ++ wq q) H1 → va_D A (isR.filterMap (fun i => ws[i]?) ++ wq q) → va_S A s.heap H1 locs1 → W p l e rm s m args below meth c H1 locs1 (cells + mc) (slots + ms) Q (F0 m (pc + 3) ls rest)) : W p l e rm s m args below meth c H locs cells slots Q (F0 m pc ls st0) := by
  intro T hT X
  obtain ⟨v', st₀, t, T', L, h0, X', hL, e1, e2, ⟨⟨q, hv, hP1, hD1⟩, hz, hk⟩, st⟩ := hr T hT X
  cases hv
  rw [h0] at hz hk
  rw [← e1] at hP1 hz hk
  have hF := va_free (wc := wc) hD hS hA isC hC
  obtain ⟨hP2, hD2⟩ := va_join (wr := isR.filterMap (fun i => ws[i]?)) hP hD isC isR hC hR hnd hdis hk hF hP1 hD1
  obtain ⟨t2, a1, b1⟩ := kk q T'.heap (locs ++ L) hP2 hD2
    ⟨Nat.le_trans hS.1 hz, fun q h1 h2 => by rw [hk q (Nat.lt_of_lt_of_le h1 hS.1) (fun z => h2 (hF q z))]; exact hS.2.1 q h1 h2, fun q hq => by
      rcases List.mem_append.mp hq with h | h
      · exact hS.2.2 q h
      · exact hF _ (hL q h)⟩ T' rfl X'
  exact ⟨t2, st t2 a1, b1⟩
theorem kcNI (C : CX p s m args meth c own cc nL ret D ct) (hM : Met l y (WS y bytes maxL none) rm' (va_Pc (.ref b :: As) (PM D ct H.size wc)) (QN D wq (va_A wc H.size)) mc ms (va_A wc H.size)) (hc0 : rm'.cells = mc ∧ rm'.slots = ms) (hy : YN y bytes maxL none n) (hi : y.name = "<init>") (hin : Cond.instanceMethod y ∈ TB) (hl : Cond.methodLink own index y ∈ TB)
    (hR : rm'.frames + 1 ≤ rm.frames ∧ 8 + (maxL + 11) + rm'.locals ≤ rm.locals) (hcs : cells + mc ≤ rm.cells ∧ slots + ms ≤ rm.slots)
    (hP : va_P D vwCl ws H) (hD : va_D A ws) (hS : va_S A s.heap H locs) (hA : ∀ q : Nat, s.heap.size ≤ q → A q) (isC isR : List Nat) (hCs : isC.filterMap (fun i => ws[i]?) = wc) (hCn : va_nd isC = true) (hC : isC.map (fun i => ws[i]?) = wc.map some) (hRr : isR.map (fun i => ws[i]?) = (isR.filterMap (fun i => ws[i]?)).map some) (hnd : va_nd isR = true) (hdis : ∀ i ∈ isR, i ∉ isC)
    (hls : ls.size = nL) (hn : As.length = n) (hst : st0 = As.reverse ++ .ref b :: rest) (hW : (rest.map fun v => v.category).sum ≤ 8) (hdg : decode cc pc = .ok (.invokespecial index, 3))
    (kk : ∀ (q : Nat → Nat) (H1 : Heap) (locs1 : List Loc), va_P D vwCl (isR.filterMap (fun i => ws[i]?) ++ wq q) H1 → va_D A (isR.filterMap (fun i => ws[i]?) ++ wq q) → va_S A s.heap H1 locs1 → W p l e rm s m args below meth c H1 locs1 (cells + mc) (slots + ms) Q (F0 m (pc + 3) ls rest)) : W p l e rm s m args below meth c H locs cells slots Q (F0 m pc ls st0) := by
  have cb := kcallB C hy hl hR
  rw [hc0.1, hc0.2] at cb
  exact kafterN (va_runI (As := As) (rest := rest) C.fix hM ⟨cb, hi, C.2.2.2.2.2.1 _ hin⟩ ⟨blindM, fun U hU hW => ⟨rfl, by rw [hU], by rw [hU]; exact hP.sub isC hCs, C.2.2.2.2.2.2.2.warm hW, (hD.sub isC hCn hC).weaken (fun _ _ _ _ => trivial)⟩⟩ rfl hn hls hst (lv_room hW) hdg hcs) hP hD hS hA isC isR hC hRr hnd hdis kk
theorem kcNN {host : String} (C : CX p s m args meth c own cc nL ret D ct) (hM : Met l y (WS y bytes maxL none) rm' (va_Pc (.ref b :: As) (PM D ct H.size wc)) (QN D wq (va_A wc H.size)) mc ms (va_A wc H.size)) (hc0 : rm'.cells = mc ∧ rm'.slots = ms) (hy : YN y bytes maxL none n) (hi : y.name = "<init>") (hin : Cond.instanceMethod y ∈ TB) (hl : Cond.methodLinkNest own index y host ∈ tn_l)
    (hR : rm'.frames + 1 ≤ rm.frames ∧ 8 + (maxL + 11) + rm'.locals ≤ rm.locals) (hcs : cells + mc ≤ rm.cells ∧ slots + ms ≤ rm.slots)
    (hP : va_P D vwCl ws H) (hD : va_D A ws) (hS : va_S A s.heap H locs) (hA : ∀ q : Nat, s.heap.size ≤ q → A q) (isC isR : List Nat) (hCs : isC.filterMap (fun i => ws[i]?) = wc) (hCn : va_nd isC = true) (hC : isC.map (fun i => ws[i]?) = wc.map some) (hRr : isR.map (fun i => ws[i]?) = (isR.filterMap (fun i => ws[i]?)).map some) (hnd : va_nd isR = true) (hdis : ∀ i ∈ isR, i ∉ isC)
    (hls : ls.size = nL) (hn : As.length = n) (hst : st0 = As.reverse ++ .ref b :: rest) (hW : (rest.map fun v => v.category).sum ≤ 8) (hdg : decode cc pc = .ok (.invokespecial index, 3))
    (kk : ∀ (q : Nat → Nat) (H1 : Heap) (locs1 : List Loc), va_P D vwCl (isR.filterMap (fun i => ws[i]?) ++ wq q) H1 → va_D A (isR.filterMap (fun i => ws[i]?) ++ wq q) → va_S A s.heap H1 locs1 → W p l e rm s m args below meth c H1 locs1 (cells + mc) (slots + ms) Q (F0 m (pc + 3) ls rest)) : W p l e rm s m args below meth c H locs cells slots Q (F0 m pc ls st0) :=
  kafterN (va_runIN (As := As) (rest := rest) C.fix hM ⟨va_cnB n C.2.2.2.2.2.1 (ws_good hy) rfl hc0.1 hc0.2 (C.2.2.2.2.2.2.2.2 _ hl) (C.2.2.2.2.2.1 _ hy.2.1) hy.2.2.1 hR, hi, C.2.2.2.2.2.1 _ hin⟩ ⟨blindM, fun U hU hW => ⟨rfl, by rw [hU], by rw [hU]; exact hP.sub isC hCs, C.2.2.2.2.2.2.2.warm hW, (hD.sub isC hCn hC).weaken (fun _ _ _ _ => trivial)⟩⟩ rfl hn hls hst (lv_room hW) hdg hcs) hP hD hS hA isC isR hC hRr hnd hdis kk
/-- calls that read the statics -/
theorem kcRVX {q0 ci : Nat} {fs : List Value} {q : vw_C} (C : CX p s m args meth c own cc nL ret D ct) (hX : XS aL aM (fun _ => False) s H) (hM : Met l y (WS y bytes maxL rt) rm' (va_Pc (.ref b :: As) (PRX D ct aL aM wc)) (QR v) 0 0 (fun _ => False)) (hc0 : rm'.cells = 0 ∧ rm'.slots = 0) (hy : YN y bytes maxL rt n) (hin : Cond.instanceMethod y ∈ TB) (hse : Cond.selects Cn y y ∈ TB) (hl : Cond.methodLink own index y ∈ TB)
    (hR : rm'.frames + 1 ≤ rm.frames ∧ 8 + (maxL + 11) + rm'.locals ≤ rm.locals) (hcs : cells ≤ rm.cells ∧ slots ≤ rm.slots)
    (hP : va_P D vwCl ws H) (is : List Nat) (hs : is.filterMap (fun i => ws[i]?) = wc) (he : ws[q0]? = some (b, .inr (ci, fs))) (hc : vwCl[ci]? = some q) (hq : q.1 = Cn) (hls : ls.size = nL) (hn : As.length = n) (hst : st0 = As.reverse ++ .ref b :: rest) (hW : (rest.map fun v => v.category).sum ≤ 8) (hdg : decode cc pc = .ok (.invokevirtual index, 3)) (h1 : v.toList ++ rest = st1)
    (kk : W p l e rm s m args below meth c H locs cells slots Q (F0 m (pc + 3) ls st1)) : W p l e rm s m args below meth c H locs cells slots Q (F0 m pc ls st0) := by
  have cb := kcallB C hy hl hR
  rw [hc0.1, hc0.2] at cb
  refine kafterR (mc := 0) (ms := 0) (va_runV (As := As) (rest := rest) C.fix hM ⟨cb, C.2.2.2.2.2.1 _ hin, C.2.2.2.2.2.1 _ hse⟩ ⟨blindRX, ?_, fun U hU hW => ⟨rfl, ⟨by rw [hU]; exact hP.sub is hs, C.2.2.2.2.2.2.2.warm hW⟩, by rw [hU]; exact hX.moved hW.alike⟩⟩ rfl hn hls hst (lv_room hW) hdg hcs) h1 kk
  rw [← hq]
  exact va_recv C.2.2.2.2.2.2.2.1 hP hc he
theorem kcMVX {q0 ci : Nat} {fs : List Value} {q : vw_C} (C : CX p s m args meth c own cc nL ret D ct) (hX : XS aL aM (fun _ => False) s H) (hM : Met l y (WS y bytes maxL rt) rm' (va_Pc (.ref b :: As) (PMX D ct aL aM H.size wc)) (QM D v wc' (va_A wc H.size)) 0 0 (va_A wc H.size)) (hc0 : rm'.cells = 0 ∧ rm'.slots = 0) (hy : YN y bytes maxL rt n) (hin : Cond.instanceMethod y ∈ TB) (hse : Cond.selects Cn y y ∈ TB) (hl : Cond.methodLink own index y ∈ TB)
    (hR : rm'.frames + 1 ≤ rm.frames ∧ 8 + (maxL + 11) + rm'.locals ≤ rm.locals) (hcs : cells ≤ rm.cells ∧ slots ≤ rm.slots)
    (hP : va_P D vwCl ws H) (hD : va_D A ws) (hS : va_S A s.heap H locs) (hA : ∀ q : Nat, s.heap.size ≤ q → A q) (isC isR pm : List Nat) (hCs : isC.filterMap (fun i => ws[i]?) = wc) (hCn : va_nd isC = true) (hC : isC.map (fun i => ws[i]?) = wc.map some) (hRr : isR.map (fun i => ws[i]?) = (isR.filterMap (fun i => ws[i]?)).map some) (hnd : va_nd isR = true) (hdis : ∀ i ∈ isR, i ∉ isC) (hpn : va_nd pm = true) (hpm : pm.map (fun i => (isR.filterMap (fun i => ws[i]?) ++ wc')[i]?) = wf.map some) (hpf : pm.filterMap (fun i => (isR.filterMap (fun i => ws[i]?) ++ wc')[i]?) = wf)
    (he : ws[q0]? = some (b, .inr (ci, fs))) (hc : vwCl[ci]? = some q) (hq : q.1 = Cn) (hls : ls.size = nL) (hn : As.length = n) (hst : st0 = As.reverse ++ .ref b :: rest) (hW : (rest.map fun v => v.category).sum ≤ 8) (hdg : decode cc pc = .ok (.invokevirtual index, 3)) (h1 : v.toList ++ rest = st1)
    (kk : ∀ (H1 : Heap) (locs1 : List Loc), va_P D vwCl wf H1 → va_D A wf → va_S A s.heap H1 locs1 → W p l e rm s m args below meth c H1 locs1 cells slots Q (F0 m (pc + 3) ls st1)) : W p l e rm s m args below meth c H locs cells slots Q (F0 m pc ls st0) := by
  have cb := kcallB C hy hl hR
  rw [hc0.1, hc0.2] at cb
  refine kafterM (va_runV (As := As) (rest := rest) C.fix hM ⟨cb, C.2.2.2.2.2.1 _ hin, C.2.2.2.2.2.1 _ hse⟩ ⟨blindMX, ?_, fun U hU hW => ⟨rfl, ⟨by rw [hU], by rw [hU]; exact hP.sub isC hCs, C.2.2.2.2.2.2.2.warm hW, (hD.sub isC hCn hC).weaken (fun _ _ _ _ => trivial)⟩, by rw [hU]; exact hX.moved hW.alike⟩⟩ rfl hn hls hst (lv_room hW) hdg hcs) hP hD hS hA isC isR pm hC hRr hnd hdis hpn hpm hpf h1 kk
  rw [← hq]
  exact va_recv C.2.2.2.2.2.2.2.1 hP hc he
end KNEW
