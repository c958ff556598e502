/-! the row lemmas of this proof: one word list for all methods, contracts as 'a pure function answers r' -/
theorem kpos {c : Prop} {i : Decidable c} {α : Type} {a b r : α} (hc : c) (h : @ite α c i a b = r) : a = r := (if_pos hc).symm.trans h
theorem kneg {c : Prop} {i : Decidable c} {α : Type} {a b r : α} (hc : ¬ c) (h : @ite α c i a b = r) : b = r := (if_neg hc).symm.trans h
def gd {β : Type} (c : Prop) [Decidable c] (k : Option β) : Option β := if c then k else none
theorem gd_some {β : Type} {c : Prop} {i : Decidable c} {k : Option β} {r : β} (h : @gd β c i k = some r) : c ∧ k = some r := by
  unfold gd at h
  by_cases hc : c
  · exact ⟨hc, by rw [if_pos hc] at h; exact h⟩
  · rw [if_neg hc] at h; cases h
def rd {α β : Type} (n : Nat) (f : Nat → α) (i : Int32) (k : α → Option β) : Option β := if i < 0 ∨ n ≤ i.toNatClampNeg then none else k (f i.toNatClampNeg)
theorem rd_some {α β : Type} {n : Nat} {f : Nat → α} {i : Int32} {k : α → Option β} {r : β} (h : rd n f i k = some r) : vp_in i n ∧ k (f i.toNatClampNeg) = some r := by
  unfold rd at h
  by_cases hc : i < 0 ∨ n ≤ i.toNatClampNeg
  · rw [if_pos hc] at h; cases h
  · exact ⟨hc, by rw [if_neg hc] at h; exact h⟩
def wr {β : Type} (n : Nat) (f : Nat → Int32) (i : Int32) (x : Int32) (k : (Nat → Int32) → Option β) : Option β := if i < 0 ∨ n ≤ i.toNatClampNeg then none else k (upd f i.toNatClampNeg x)
theorem wr_some {β : Type} {n : Nat} {f : Nat → Int32} {i x : Int32} {k : (Nat → Int32) → Option β} {r : β} (h : wr n f i x k = some r) : vp_in i n ∧ k (upd f i.toNatClampNeg x) = some r := by
  unfold wr at h
  by_cases hc : i < 0 ∨ n ≤ i.toNatClampNeg
  · rw [if_pos hc] at h; cases h
  · exact ⟨hc, by rw [if_neg hc] at h; exact h⟩
def wrL {β : Type} (n : Nat) (f : Nat → Int64) (i : Int32) (x : Int64) (k : (Nat → Int64) → Option β) : Option β := if i < 0 ∨ n ≤ i.toNatClampNeg then none else k (vp_updL f i.toNatClampNeg x)
theorem wrL_some {β : Type} {n : Nat} {f : Nat → Int64} {i : Int32} {x : Int64} {k : (Nat → Int64) → Option β} {r : β} (h : wrL n f i x k = some r) : vp_in i n ∧ k (vp_updL f i.toNatClampNeg x) = some r := by
  unfold wrL at h
  by_cases hc : i < 0 ∨ n ≤ i.toNatClampNeg
  · rw [if_pos hc] at h; cases h
  · exact ⟨hc, by rw [if_neg hc] at h; exact h⟩
def wrZ {β : Type} (n : Nat) (f : Nat → Int32) (i : Int32) (x : Int32) (k : (Nat → Int32) → Option β) : Option β := if i < 0 ∨ n ≤ i.toNatClampNeg then none else k (upd f i.toNatClampNeg (vp_nar .boolean x))
theorem wrZ_some {β : Type} {n : Nat} {f : Nat → Int32} {i x : Int32} {k : (Nat → Int32) → Option β} {r : β} (h : wrZ n f i x k = some r) : vp_in i n ∧ k (upd f i.toNatClampNeg (vp_nar .boolean x)) = some r := by
  unfold wrZ at h
  by_cases hc : i < 0 ∨ n ≤ i.toNatClampNeg
  · rw [if_pos hc] at h; cases h
  · exact ⟨hc, by rw [if_neg hc] at h; exact h⟩
theorem kzr {v : Int32} (h : v = 0 ∨ v = 1) : narrow .boolean (.int v) = .int v := by rcases h with rfl | rfl <;> rfl
def cb1 {A1 β : Type} (o : Option A1) (k : A1 → Option β) : Option β := match o with
  | none => none
  | some a => k a
theorem cb1_some {A1 β : Type} {o : Option A1} {k : A1 → Option β} {r : β} (h : cb1 o k = some r) : ∃ a, o = some a ∧ k a = some r := by
  cases o with
  | none => cases h
  | some a => exact ⟨a, rfl, h⟩
theorem sw_out {n : Nat} {x : Int32} (hn : n < 2 ^ 31) (h : ∀ k, k < n → x ≠ nI k) : x.toInt < 0 ∨ (n : Int) - 1 < x.toInt := by
  by_cases h0 : x.toInt < 0
  · exact Or.inl h0
  · refine Or.inr ?_
    by_cases h1 : (n : Int) - 1 < x.toInt
    · exact h1
    · exfalso
      obtain ⟨j, hj, e⟩ := vp_in_of (vp_in_iff.mpr ⟨by omega, by omega⟩ : vp_in x n) hn
      exact h j hj e
theorem wr_ex {β : Type} {n : Nat} {f : Nat → Int32} {i x : Int32} {k : (Nat → Int32) → Option β} {r : β} (h : wr n f i x k = some r) : vp_in i n ∧ ∃ g, upd f i.toNatClampNeg x = g ∧ k g = some r := ⟨(wr_some h).1, _, rfl, (wr_some h).2⟩
theorem wrL_ex {β : Type} {n : Nat} {f : Nat → Int64} {i : Int32} {x : Int64} {k : (Nat → Int64) → Option β} {r : β} (h : wrL n f i x k = some r) : vp_in i n ∧ ∃ g, vp_updL f i.toNatClampNeg x = g ∧ k g = some r := ⟨(wrL_some h).1, _, rfl, (wrL_some h).2⟩
theorem wrZ_ex {β : Type} {n : Nat} {f : Nat → Int32} {i x : Int32} {k : (Nat → Int32) → Option β} {r : β} (h : wrZ n f i x k = some r) : vp_in i n ∧ ∃ g, upd f i.toNatClampNeg (vp_nar .boolean x) = g ∧ k g = some r := ⟨(wrZ_some h).1, _, rfl, (wrZ_some h).2⟩
def mnI (x y : Int32) : Int32 := if y < x then y else x
def mxI (x y : Int32) : Int32 := if x < y then y else x
def ushr (x y : Int32) : Int32 := (x.toUInt32 >>> (y.toUInt32 &&& Int32.toUInt32 31)).toInt32
def lshl (x : Int64) (y : Int32) : Int64 := x <<< (y.toInt64 &&& 63)
def rfs (l : List Nat) : Nat → Option Nat := fun k => l[k]?
def acp {β : Type} (n0 n1 : Nat) (f g : Nat → Int32) (sp dp n : Int32) (k : (Nat → Int32) → Option β) : Option β := gd (¬ sp < 0 ∧ ¬ dp < 0 ∧ ¬ n < 0 ∧ sp.toNatClampNeg + n.toNatClampNeg ≤ n0 ∧ dp.toNatClampNeg + n.toNatClampNeg ≤ n1) (k (va_cpy f g sp.toNatClampNeg dp.toNatClampNeg n.toNatClampNeg))
theorem acp_ex {β : Type} {n0 n1 : Nat} {f g : Nat → Int32} {sp dp n : Int32} {k : (Nat → Int32) → Option β} {r : β} (h : acp n0 n1 f g sp dp n k = some r) : (¬ sp < 0 ∧ ¬ dp < 0 ∧ ¬ n < 0 ∧ sp.toNatClampNeg + n.toNatClampNeg ≤ n0 ∧ dp.toNatClampNeg + n.toNatClampNeg ≤ n1) ∧ ∃ z, va_cpy f g sp.toNatClampNeg dp.toNatClampNeg n.toNatClampNeg = z ∧ k z = some r := ⟨(gd_some h).1, _, rfl, (gd_some h).2⟩
/-! the tables' words -/
def WS (y : MethodName) (cc : ByteArray) (nL : Nat) (ret : Option FieldType) : List Cond := Cond.code y cc nL ret :: TB
def YN (y : MethodName) (cc : ByteArray) (nL : Nat) (ret : Option FieldType) (n : Nat) : Prop := Cond.code y cc nL ret ∈ TB ∧ Cond.initialized y.cls ∈ TB ∧ (y.cls ≠ "java/lang/invoke/MethodHandle" ∧ y.cls ≠ "java/lang/invoke/VarHandle" ∧ (parseMethodDescriptor y.desc).map (fun d => d.parameters.length) = some n) ∧ plainName y.cls = true
theorem ws_good {y : MethodName} {cc : ByteArray} {nL : Nat} {ret : Option FieldType} {n : Nat} (h : YN y cc nL ret n) : GoodIn TB (WS y cc nL ret) := by
  intro w hw
  rcases List.mem_cons.mp hw with rfl | hw
  · exact ⟨h.1, good_of_word (tb_good h.1)⟩
  · exact ⟨hw, good_of_word (tb_good hw)⟩
def nestOK (U : State) : Prop := ∀ w ∈ tn_l, va_Nw w U
theorem nestOK.warm {s U : State} (hW : s.WarmedH U.vm) (h : nestOK s) : nestOK U := by
  intro w hw
  have h1 := h w hw
  simp only [tn_l, List.mem_cons, List.not_mem_nil, or_false] at hw
  rcases hw with rfl | rfl | rfl | rfl | rfl | rfl | rfl | rfl | rfl | rfl | rfl <;> exact va_Nw.warmM hW h1
theorem nestOK.same {u U : State} (hv : u.vm = U.vm) (h : nestOK u) : nestOK U := by
  intro w hw
  have h1 := h w hw
  refine va_Nw.same ?_ hv h1
  simp only [tn_l, List.mem_cons, List.not_mem_nil, or_false] at hw
  rcases hw with rfl | rfl | rfl | rfl | rfl | rfl | rfl | rfl | rfl | rfl | rfl <;> rfl
abbrev TYs (ct : Nat → ClassId) : List (ClassId × FieldType) := [(ct 0, .int), (ct 1, .boolean), (ct 2, .long), (ct 3, .object "NamedDwarf$Text"), (ct 4, .object "NamedDwarf$Sheet")]
def KK (D : va_G) (ct : Nat → ClassId) (U : State) : Prop := va_K D vwCl (TYs ct) U ∧ nestOK U
theorem KK.warm {D : va_G} {ct : Nat → ClassId} {s U : State} (hW : s.WarmedH U.vm) (h : KK D ct s) : KK D ct U := ⟨va_K.moved hW.alike h.1, h.2.warm hW⟩
def PR (D : va_G) (ct : Nat → ClassId) (ws : va_W) : State → Prop := fun U => va_P D vwCl ws U.heap ∧ KK D ct U
def PM (D : va_G) (ct : Nat → ClassId) (sz : Nat) (ws : va_W) : State → Prop := fun U => U.heap.size = sz ∧ va_P D vwCl ws U.heap ∧ KK D ct U ∧ va_D (fun _ => True) ws
def QR (v : Option Value) : Array Value → State → Outcome → State → Prop := fun _ st oc t => oc = .returned v ∧ t.heap = st.heap
def QM (D : va_G) (v : Option Value) (ws : va_W) (A : Nat → Prop) : Array Value → State → Outcome → State → Prop := fun _ st oc t => (oc = .returned v ∧ va_P D vwCl ws t.heap ∧ va_D A ws) ∧ va_F A st t
theorem blindR {av : List Value} {D : va_G} {ct : Nat → ClassId} {ws : va_W} : FrameBlind (va_Pc av (PR D ct ws)) := fun a U g mk q => by
  obtain ⟨q0, qP, qK, qN⟩ := q
  exact ⟨q0, qP, va_K.moved (u := U) (U := U.calling g mk a) (Vm.Alike.refl U.vm) qK, qN.same (u := U) (U := U.calling g mk a) rfl⟩
theorem blindM {av : List Value} {D : va_G} {ct : Nat → ClassId} {sz : Nat} {ws : va_W} : FrameBlind (va_Pc av (PM D ct sz ws)) := fun a U g mk q => by
  obtain ⟨q0, q1, qP, ⟨qK, qN⟩, qD⟩ := q
  exact ⟨q0, q1, qP, ⟨va_K.moved (u := U) (U := U.calling g mk a) (Vm.Alike.refl U.vm) qK, qN.same (u := U) (U := U.calling g mk a) rfl⟩, qD⟩
def CX (p : Program) (s : State) (m : MethodId) (args : Array Value) (meth : Method) (c : Code) (own : String) (cc : ByteArray) (nL : Nat) (ret : Option FieldType) (D : va_G) (ct : Nat → ClassId) : Prop :=
  p.tables.exec = Jvm.exec ∧ c.code = cc ∧ meth.sig.returnType = ret ∧ c.maxLocals = nL ∧ s.vm.findClass own = some m.cls ∧ (∀ w ∈ TB, w.before args s = true) ∧ meth.locks = false ∧ KK D ct s
theorem CX.fix {p : Program} {s : State} {m : MethodId} {args : Array Value} {meth : Method} {c : Code} {own : String} {cc : ByteArray} {nL : Nat} {ret : Option FieldType} {D : va_G} {ct : Nat → ClassId} (h : CX p s m args meth c own cc nL ret D ct) : CallFix p m c cc nL s args TB own := ⟨h.1, h.2.1, h.2.2.2.1, h.2.2.2.2.1, h.2.2.2.2.2.1⟩
theorem kMetR {l : Launch} {y : MethodName} {own : String} {cc : ByteArray} {nL : Nat} {ret : Option FieldType} {rm : Room} {av : List Value} {D : va_G} {ct : Nat → ClassId} {ws : va_W} {v : Option Value} {n : Nat} (hy : YN y cc nL ret n) (ho : y.cls = own) (hn : (lg_sl av).length ≤ nL)
    (body : ∀ (p : Program) (e : Env) (s : State) (m : MethodId) (args : Array Value) (below : List Frame) (meth : Method) (c : Code), CX p s m args meth c own cc nL ret D ct → va_P D vwCl ws s.heap → ∀ ls : Array Slot, lv_has ls nL (lv_args 0 av) → W p l e rm s m args below meth c s.heap [] 0 0 (MQ below (QR v) args s 0 0 (fun _ => False)) (F0 m 0 ls [])) :
    Met l y (WS y cc nL ret) rm (va_Pc av (PR D ct ws)) (QR v) 0 0 (fun _ => False) := by
  refine Met.ofW (cc := cc) (maxL := nL) (ret := ret) hy.2.2.2 rfl ?_
  intro p e s m args below meth c s₁ B hml hv
  obtain ⟨rfl, hP, hK⟩ := hv
  have hts := atoms_spec (ws := WS y cc nL ret) B.pre
  have hl := lv_entry av hn
  rw [lg_entry_eq]
  exact body p e s m _ below meth c ⟨B.exec, B.bytes, B.returns, hml, by rw [← ho]; exact findClass_of_methodNamed B.named, fun w h => hts w (List.mem_cons_of_mem _ h), B.notSynchronized, hK⟩ hP _ hl
theorem kMetM {l : Launch} {y : MethodName} {own : String} {cc : ByteArray} {nL : Nat} {ret : Option FieldType} {rm : Room} {av : List Value} {D : va_G} {ct : Nat → ClassId} {sz : Nat} {ws ws' : va_W} {v : Option Value} {n : Nat} (hy : YN y cc nL ret n) (ho : y.cls = own) (hn : (lg_sl av).length ≤ nL)
    (body : ∀ (p : Program) (e : Env) (s : State) (m : MethodId) (args : Array Value) (below : List Frame) (meth : Method) (c : Code) (A : Nat → Prop), CX p s m args meth c own cc nL ret D ct → (∀ q : Nat, s.heap.size ≤ q → A q) → va_P D vwCl ws s.heap → va_D A ws → ∀ ls : Array Slot, lv_has ls nL (lv_args 0 av) → W p l e rm s m args below meth c s.heap [] 0 0 (MQ below (QM D v ws' A) args s 0 0 A) (F0 m 0 ls [])) :
    Met l y (WS y cc nL ret) rm (va_Pc av (PM D ct sz ws)) (QM D v ws' (va_A ws sz)) 0 0 (va_A ws sz) := by
  refine Met.ofW (cc := cc) (maxL := nL) (ret := ret) hy.2.2.2 rfl ?_
  intro p e s m args below meth c s₁ B hml hv
  obtain ⟨rfl, hsz, hP, hK, hD⟩ := hv
  subst hsz
  have hts := atoms_spec (ws := WS y cc nL ret) B.pre
  have hl := lv_entry av hn
  rw [lg_entry_eq]
  exact body p e s m _ below meth c (va_A ws s.heap.size) ⟨B.exec, B.bytes, B.returns, hml, by rw [← ho]; exact findClass_of_methodNamed B.named, fun w h => hts w (List.mem_cons_of_mem _ h), B.notSynchronized, hK⟩ (fun q h => Or.inr h) hP hD.self _ hl
section KMEM
variable {p : Program} {l : Launch} {e : Env} {R : Room} {s : State} {m : MethodId} {args : Array Value} {below : List Frame} {meth : Method} {c : Code} {H : Heap} {locs : List Loc} {cells slots : Nat} {Q : State → Prop} {cc : ByteArray} {D : va_G} {cl : List vw_C} {tys : List (ClassId × FieldType)} {ws : va_W} {A : Nat → Prop} {H0 : Heap} {a pc : Nat} {ls : Array Slot} {rest : List Value}
theorem kiald (hexec : p.tables.exec = Jvm.exec) (hb : c.code = cc) (hK : va_K D cl tys s) (hP : va_P D cl ws H) (q0 t0 : Nat) {cA : ClassId} {n : Nat} {f : Nat → Int32} (ha : ws[q0]? = some (a, .inl (cA, n, .inl f))) (ht : tys[t0]? = some (cA, .int)) {i v : Int32} (hin : vp_in i n) (hv : f i.toNatClampNeg = v) (hdg : decode cc pc = .ok (.iaload, 1))
    (kk : W p l e R s m args below meth c H locs cells slots Q (F0 m (pc + 1) ls (.int v :: rest))) : W p l e R s m args below meth c H locs cells slots Q (F0 m pc ls (.int i :: .ref a :: rest)) := by
  subst hv; exact va_iald hexec hb hK hP q0 t0 ha ht hin hdg kk
theorem kzald (hexec : p.tables.exec = Jvm.exec) (hb : c.code = cc) (hK : va_K D cl tys s) (hP : va_P D cl ws H) (q0 t0 : Nat) {cA : ClassId} {n : Nat} {f : Nat → Int32} (ha : ws[q0]? = some (a, .inl (cA, n, .inl f))) (ht : tys[t0]? = some (cA, .boolean)) {i v : Int32} (hin : vp_in i n) (hv : f i.toNatClampNeg = v) (hdg : decode cc pc = .ok (.baload, 1))
    (kk : W p l e R s m args below meth c H locs cells slots Q (F0 m (pc + 1) ls (.int v :: rest))) : W p l e R s m args below meth c H locs cells slots Q (F0 m pc ls (.int i :: .ref a :: rest)) := by
  subst hv; exact va_zald hexec hb hK hP q0 t0 ha ht hin hdg kk
theorem klald (hexec : p.tables.exec = Jvm.exec) (hb : c.code = cc) (hK : va_K D cl tys s) (hP : va_P D cl ws H) (q0 t0 : Nat) {cA : ClassId} {n : Nat} {f : Nat → Int64} (ha : ws[q0]? = some (a, .inl (cA, n, .inr (.inl f)))) (ht : tys[t0]? = some (cA, .long)) {i : Int32} {v : Int64} (hin : vp_in i n) (hv : f i.toNatClampNeg = v) (hdg : decode cc pc = .ok (.laload, 1))
    (kk : W p l e R s m args below meth c H locs cells slots Q (F0 m (pc + 1) ls (.long v :: rest))) : W p l e R s m args below meth c H locs cells slots Q (F0 m pc ls (.int i :: .ref a :: rest)) := by
  subst hv; exact va_lald hexec hb hK hP q0 t0 ha ht hin hdg kk
theorem kiast (hexec : p.tables.exec = Jvm.exec) (hb : c.code = cc) (hK : va_K D cl tys s) (hP : va_P D cl ws H) (hD : va_D A ws) (hS : va_S A H0 H locs) (q0 t0 : Nat) {cA : ClassId} {n : Nat} {f g : Nat → Int32} (ha : ws[q0]? = some (a, .inl (cA, n, .inl f))) (ht : tys[t0]? = some (cA, .int)) {i : Int32} {x : Int32} (hin : vp_in i n) (hv : upd f i.toNatClampNeg x = g) (hdg : decode cc pc = .ok (.iastore, 1))
    (kk : ∀ (H1 : Heap) (locs1 : List Loc), va_P D cl (ws.set q0 (a, .inl (cA, n, .inl g))) H1 → va_D A (ws.set q0 (a, .inl (cA, n, .inl g))) → va_S A H0 H1 locs1 → W p l e R s m args below meth c H1 locs1 cells slots Q (F0 m (pc + 1) ls rest)) : W p l e R s m args below meth c H locs cells slots Q (F0 m pc ls (.int x :: .int i :: .ref a :: rest)) := by
  subst hv; exact va_iast hexec hb hK hP hD hS q0 t0 ha ht hin hdg kk
theorem kzast (hexec : p.tables.exec = Jvm.exec) (hb : c.code = cc) (hK : va_K D cl tys s) (hP : va_P D cl ws H) (hD : va_D A ws) (hS : va_S A H0 H locs) (q0 t0 : Nat) {cA : ClassId} {n : Nat} {f g : Nat → Int32} (ha : ws[q0]? = some (a, .inl (cA, n, .inl f))) (ht : tys[t0]? = some (cA, .boolean)) {i : Int32} {x : Int32} (hin : vp_in i n) (hv : upd f i.toNatClampNeg (vp_nar .boolean x) = g) (hdg : decode cc pc = .ok (.bastore, 1))
    (kk : ∀ (H1 : Heap) (locs1 : List Loc), va_P D cl (ws.set q0 (a, .inl (cA, n, .inl g))) H1 → va_D A (ws.set q0 (a, .inl (cA, n, .inl g))) → va_S A H0 H1 locs1 → W p l e R s m args below meth c H1 locs1 cells slots Q (F0 m (pc + 1) ls rest)) : W p l e R s m args below meth c H locs cells slots Q (F0 m pc ls (.int x :: .int i :: .ref a :: rest)) := by
  subst hv; exact va_zast hexec hb hK hP hD hS q0 t0 ha ht hin hdg kk
theorem klast (hexec : p.tables.exec = Jvm.exec) (hb : c.code = cc) (hK : va_K D cl tys s) (hP : va_P D cl ws H) (hD : va_D A ws) (hS : va_S A H0 H locs) (q0 t0 : Nat) {cA : ClassId} {n : Nat} {f g : Nat → Int64} (ha : ws[q0]? = some (a, .inl (cA, n, .inr (.inl f)))) (ht : tys[t0]? = some (cA, .long)) {i : Int32} {x : Int64} (hin : vp_in i n) (hv : vp_updL f i.toNatClampNeg x = g) (hdg : decode cc pc = .ok (.lastore, 1))
    (kk : ∀ (H1 : Heap) (locs1 : List Loc), va_P D cl (ws.set q0 (a, .inl (cA, n, .inr (.inl g)))) H1 → va_D A (ws.set q0 (a, .inl (cA, n, .inr (.inl g)))) → va_S A H0 H1 locs1 → W p l e R s m args below meth c H1 locs1 cells slots Q (F0 m (pc + 1) ls rest)) : W p l e R s m args below meth c H locs cells slots Q (F0 m pc ls (.long x :: .int i :: .ref a :: rest)) := by
  subst hv; exact va_last hexec hb hK hP hD hS q0 t0 ha ht hin hdg kk
theorem kaald (hexec : p.tables.exec = Jvm.exec) (hb : c.code = cc) (hK : va_K D cl tys s) (hP : va_P D cl ws H) (q0 t0 : Nat) {cA : ClassId} {C : String} {n : Nat} {f : Nat → Option Nat} (ha : ws[q0]? = some (a, .inl (cA, n, .inr (.inr (.inr (.inr f)))))) (ht : tys[t0]? = some (cA, .object C)) {i : Int32} {k v : Nat} (hi : i = nI k) (hv : f k = some v) (hk : k < n ∧ n < 2 ^ 31) (hdg : decode cc pc = .ok (.aaload, 1))
    (kk : W p l e R s m args below meth c H locs cells slots Q (F0 m (pc + 1) ls (.ref v :: rest))) : W p l e R s m args below meth c H locs cells slots Q (F0 m pc ls (.int i :: .ref a :: rest)) := by
  subst hi
  refine va_aldq hexec hb hK hP q0 t0 ha ht (vp_in_nI hk.1 hk.2) hdg ?_
  rw [nI_clamp (Nat.lt_trans hk.1 hk.2), hv]
  exact kk
theorem kmmin (hexec : p.tables.exec = Jvm.exec) (hb : c.code = cc) (hml : c.maxLocals = ls.size) {own : String} {index : Nat} (hown : s.vm.findClass own = some m.cls) (hlink : (Cond.methodLink own index Lib.Math.min.name).before args s = true) (hstat : (Cond.static Lib.Math.min.name).before args s = true) (hini : (Cond.initialized "java/lang/Math").before args s = true) (hcode : (Cond.code Lib.Math.min.name Lib.Math.min.code 2 (some .int)).before args s = true)
    (hframes : 1 ≤ R.frames) (hlocals : (rest.map fun v => v.category).sum + 13 ≤ R.locals) (hc : cells ≤ R.cells) (hs : slots ≤ R.slots) {x y : Int32} (hdg : decode cc pc = .ok (.invokestatic index, 3))
    (kk : W p l e R s m args below meth c H locs cells slots Q (F0 m (pc + 3) ls (.int (mnI x y) :: rest))) : W p l e R s m args below meth c H locs cells slots Q (F0 m pc ls (.int y :: .int x :: rest)) := va_mmin hexec hb hml hown hlink hstat hini hcode hframes hlocals hc hs hdg kk
theorem kmmax (hexec : p.tables.exec = Jvm.exec) (hb : c.code = cc) (hml : c.maxLocals = ls.size) {own : String} {index : Nat} (hown : s.vm.findClass own = some m.cls) (hlink : (Cond.methodLink own index Lib.Math.max.name).before args s = true) (hstat : (Cond.static Lib.Math.max.name).before args s = true) (hini : (Cond.initialized "java/lang/Math").before args s = true) (hcode : (Cond.code Lib.Math.max.name Lib.Math.max.code 2 (some .int)).before args s = true)
    (hframes : 1 ≤ R.frames) (hlocals : (rest.map fun v => v.category).sum + 13 ≤ R.locals) (hc : cells ≤ R.cells) (hs : slots ≤ R.slots) {x y : Int32} (hdg : decode cc pc = .ok (.invokestatic index, 3))
    (kk : W p l e R s m args below meth c H locs cells slots Q (F0 m (pc + 3) ls (.int (mxI x y) :: rest))) : W p l e R s m args below meth c H locs cells slots Q (F0 m pc ls (.int y :: .int x :: rest)) := va_mmax hexec hb hml hown hlink hstat hini hcode hframes hlocals hc hs hdg kk
theorem kacp (hexec : p.tables.exec = Jvm.exec) (hb : c.code = cc) (hml : c.maxLocals = ls.size) {own : String} {index : Nat} (hown : s.vm.findClass own = some m.cls) (hlink : (Cond.methodLink own index arraycopyName).before args s = true) (hnat : (Cond.native arraycopyName).before args s = true) (hstat : (Cond.static arraycopyName).before args s = true) (hini : (Cond.initialized "java/lang/System").before args s = true)
    (hK : va_K D cl tys s) (hP : va_P D cl ws H) (hD : va_D A ws) (hS : va_S A H0 H locs) (q0 q1 t0 t1 : Nat) {a0 : Nat} {c0 c1 : ClassId} {n0 n1 : Nat} {f g z : Nat → Int32} (ha0 : ws[q0]? = some (a0, .inl (c0, n0, .inl f))) (ha1 : ws[q1]? = some (a, .inl (c1, n1, .inl g))) (ht0 : tys[t0]? = some (c0, .int)) (ht1 : tys[t1]? = some (c1, .int))
    {sp dp n : Int32} (h1 : ¬ sp < 0) (h2 : ¬ dp < 0) (h3 : ¬ n < 0) (h4 : sp.toNatClampNeg + n.toNatClampNeg ≤ n0) (h5 : dp.toNatClampNeg + n.toNatClampNeg ≤ n1) (hz : va_cpy f g sp.toNatClampNeg dp.toNatClampNeg n.toNatClampNeg = z)
    (hframes : 1 ≤ R.frames) (hlocals : (rest.map fun v => v.category).sum + (nativeFrameWords "java/lang/System" "arraycopy" 5 + 11) ≤ R.locals) (hdg : decode cc pc = .ok (.invokestatic index, 3))
    (kk : ∀ (H1 : Heap) (locs1 : List Loc), va_P D cl (ws.set q1 (a, .inl (c1, n1, .inl z))) H1 → va_D A (ws.set q1 (a, .inl (c1, n1, .inl z))) → va_S A H0 H1 locs1 → W p l e R s m args below meth c H1 locs1 cells slots Q (F0 m (pc + 3) ls rest)) : W p l e R s m args below meth c H locs cells slots Q (F0 m pc ls (.int n :: .int dp :: .ref a :: .int sp :: .ref a0 :: rest)) := by
  subst hz
  exact va_copyi hexec hb hml hown hlink hnat hstat hini hK hP hD hS q0 q1 t0 t1 ha0 ha1 ht0 ht1 rfl h1 h2 h3 h4 h5 (fun _ _ => rfl) hframes hlocals hdg kk
end KMEM
section KROWS
variable {p : Program} {l : Launch} {e : Env} {rm : Room} {s : State} {m : MethodId} {args : Array Value} {below : List Frame} {meth : Method} {c : Code} {H : Heap} {locs : List Loc} {cells slots : Nat} {Q : State → Prop} {own : String} {cc : ByteArray} {nL : Nat} {ret : Option FieldType} {D : va_G} {ct : Nat → ClassId} {ws : va_W} {A : Nat → Prop} {pc : Nat} {ls : Array Slot} {st0 st1 rest : List Value}
theorem kretR {v : Int32} (C : CX p s m args meth c own cc nL (some .int) D ct) (hdg : decode cc pc = .ok (.ireturn, 1)) : W p l e rm s m args below meth c s.heap [] 0 0 (MQ below (QR (some (.int v))) args s 0 0 (fun _ => False)) (F0 m pc ls [.int v]) :=
  W.iret C.1 C.2.1 C.2.2.1 (fun t ht _ => ⟨rfl, ht⟩) (fun _ h => by cases h) hdg C.2.2.2.2.2.2.1
theorem kretRz {v : Int32} (C : CX p s m args meth c own cc nL (some .boolean) D ct) (hz : v = 0 ∨ v = 1) (hdg : decode cc pc = .ok (.ireturn, 1)) : W p l e rm s m args below meth c s.heap [] 0 0 (MQ below (QR (some (.int v))) args s 0 0 (fun _ => False)) (F0 m pc ls [.int v]) :=
  W.zret C.1 C.2.1 C.2.2.1 (kzr hz) (fun t ht _ => ⟨rfl, ht⟩) (fun _ h => by cases h) hdg C.2.2.2.2.2.2.1
theorem kretRl {v : Int64} (C : CX p s m args meth c own cc nL (some .long) D ct) (hdg : decode cc pc = .ok (.lreturn, 1)) : W p l e rm s m args below meth c s.heap [] 0 0 (MQ below (QR (some (.long v))) args s 0 0 (fun _ => False)) (F0 m pc ls [.long v]) :=
  W.lret C.1 C.2.1 C.2.2.1 (fun t ht _ => ⟨rfl, ht⟩) (fun _ h => by cases h) hdg C.2.2.2.2.2.2.1
theorem kretM {v : Int32} (C : CX p s m args meth c own cc nL (some .int) D ct) (hP : va_P D vwCl ws H) (hD : va_D A ws) (hS : va_S A s.heap H locs) (hdg : decode cc pc = .ok (.ireturn, 1)) : W p l e rm s m args below meth c H locs cells slots (MQ below (QM D (some (.int v)) ws A) args s cells slots A) (F0 m pc ls [.int v]) :=
  W.iret C.1 C.2.1 C.2.2.1 (fun t ht _ => ⟨⟨rfl, by rw [ht]; exact hP, hD⟩, hS.F ht⟩) hS.2.2 hdg C.2.2.2.2.2.2.1
theorem kretMz {v : Int32} (C : CX p s m args meth c own cc nL (some .boolean) D ct) (hz : v = 0 ∨ v = 1) (hP : va_P D vwCl ws H) (hD : va_D A ws) (hS : va_S A s.heap H locs) (hdg : decode cc pc = .ok (.ireturn, 1)) : W p l e rm s m args below meth c H locs cells slots (MQ below (QM D (some (.int v)) ws A) args s cells slots A) (F0 m pc ls [.int v]) :=
  W.zret C.1 C.2.1 C.2.2.1 (kzr hz) (fun t ht _ => ⟨⟨rfl, by rw [ht]; exact hP, hD⟩, hS.F ht⟩) hS.2.2 hdg C.2.2.2.2.2.2.1
theorem kretMl {v : Int64} (C : CX p s m args meth c own cc nL (some .long) D ct) (hP : va_P D vwCl ws H) (hD : va_D A ws) (hS : va_S A s.heap H locs) (hdg : decode cc pc = .ok (.lreturn, 1)) : W p l e rm s m args below meth c H locs cells slots (MQ below (QM D (some (.long v)) ws A) args s cells slots A) (F0 m pc ls [.long v]) :=
  W.lret C.1 C.2.1 C.2.2.1 (fun t ht _ => ⟨⟨rfl, by rw [ht]; exact hP, hD⟩, hS.F ht⟩) hS.2.2 hdg C.2.2.2.2.2.2.1
theorem kretMv (C : CX p s m args meth c own cc nL none D ct) (hP : va_P D vwCl ws H) (hD : va_D A ws) (hS : va_S A s.heap H locs) (hdg : decode cc pc = .ok (.return_, 1)) : W p l e rm s m args below meth c H locs cells slots (MQ below (QM D none ws A) args s cells slots A) (F0 m pc ls []) :=
  W.vret C.1 C.2.1 C.2.2.1 (fun t ht _ => ⟨⟨rfl, by rw [ht]; exact hP, hD⟩, hS.F ht⟩) hS.2.2 hdg C.2.2.2.2.2.2.1
/-- behind a call that changes nothing -/
theorem kafterR {v : Option Value} {mc ms : Nat} {a : Array Value} (hr : va_Run p l e rm s m args below meth c H locs cells slots 0 0 (F0 m pc ls st0) rest (QR v a) (fun _ => False)) (h1 : v.toList ++ rest = st1) (kk : W p l e rm s m args below meth c H locs cells slots Q (F0 m (pc + 3) ls st1)) : W p l e rm s m args below meth c H locs cells slots Q (F0 m pc ls st0) := by
  intro T hT X
  obtain ⟨v', st₀, t, T', L, h0, X', hL, e1, e2, ⟨hv, hh⟩, st⟩ := hr T hT X
  cases hv
  subst h1
  have hLn : L = [] := by
    cases L with
    | nil => rfl
    | cons a _ => exact (hL a List.mem_cons_self).elim
  subst hLn
  obtain ⟨t2, a1, b1⟩ := kk T' (by rw [e1, hh, h0]) (by simpa using X')
  exact ⟨t2, st t2 a1, b1⟩
variable {bytes : ByteArray} {maxL index n : Nat} {rt : Option FieldType} {y : MethodName} {rm' : Room} {As : List Value} {b : Nat} {wc wc' wf : va_W} {v : Option Value} {Cn : String}
theorem kcallB (C : CX p s m args meth c own cc nL ret D ct) (hy : YN y bytes maxL rt n) (hl : Cond.methodLink own index y ∈ TB) (hR : rm'.frames + 1 ≤ rm.frames ∧ 8 + (maxL + 11) + rm'.locals ≤ rm.locals) : CallB rm s args own index y bytes maxL rt (WS y bytes maxL rt) rm' rm'.cells rm'.slots n :=
  callB_of n C.2.2.2.2.2.1 (ws_good hy) rfl rfl rfl (C.2.2.2.2.2.1 _ hy.2.1) (C.2.2.2.2.2.1 _ hl) hy.2.2.1 hR
/-- an instance method's call that changes nothing -/
theorem kcRV {q0 ci : Nat} {fs : List Value} {q : vw_C} (C : CX p s m args meth c own cc nL ret D ct) (hM : Met l y (WS y bytes maxL rt) rm' (va_Pc (.ref b :: As) (PR D ct wc)) (QR v) 0 0 (fun _ => False)) (hc0 : rm'.cells = 0 ∧ rm'.slots = 0) (hy : YN y bytes maxL rt n) (hin : Cond.instanceMethod y ∈ TB) (hse : Cond.selects Cn y y ∈ TB) (hl : Cond.methodLink own index y ∈ TB)
    (hR : rm'.frames + 1 ≤ rm.frames ∧ 8 + (maxL + 11) + rm'.locals ≤ rm.locals) (hcs : cells ≤ rm.cells ∧ slots ≤ rm.slots)
    (hP : va_P D vwCl ws H) (is : List Nat) (hs : is.filterMap (fun i => ws[i]?) = wc) (he : ws[q0]? = some (b, .inr (ci, fs))) (hc : vwCl[ci]? = some q) (hq : q.1 = Cn) (hls : ls.size = nL) (hn : As.length = n) (hst : st0 = As.reverse ++ .ref b :: rest) (hW : (rest.map fun v => v.category).sum ≤ 8) (hdg : decode cc pc = .ok (.invokevirtual index, 3)) (h1 : v.toList ++ rest = st1)
    (kk : W p l e rm s m args below meth c H locs cells slots Q (F0 m (pc + 3) ls st1)) : W p l e rm s m args below meth c H locs cells slots Q (F0 m pc ls st0) := by
  have cb := kcallB C hy hl hR
  rw [hc0.1, hc0.2] at cb
  refine kafterR (mc := 0) (ms := 0) (va_runV (As := As) (rest := rest) C.fix hM ⟨cb, C.2.2.2.2.2.1 _ hin, C.2.2.2.2.2.1 _ hse⟩ ⟨blindR, ?_, fun U hU hW => ⟨rfl, by rw [hU]; exact hP.sub is hs, C.2.2.2.2.2.2.2.warm hW⟩⟩ rfl hn hls hst (lv_room hW) hdg hcs) h1 kk
  rw [← hq]
  exact va_recv C.2.2.2.2.2.2.2.1 hP hc he
theorem kcRS (C : CX p s m args meth c own cc nL ret D ct) (hM : Met l y (WS y bytes maxL rt) rm' (va_Pc As (PR D ct wc)) (QR v) 0 0 (fun _ => False)) (hc0 : rm'.cells = 0 ∧ rm'.slots = 0) (hy : YN y bytes maxL rt n) (hstt : Cond.static y ∈ TB) (hl : Cond.methodLink own index y ∈ TB)
    (hR : rm'.frames + 1 ≤ rm.frames ∧ 8 + (maxL + 11) + rm'.locals ≤ rm.locals) (hcs : cells ≤ rm.cells ∧ slots ≤ rm.slots)
    (hP : va_P D vwCl ws H) (is : List Nat) (hs : is.filterMap (fun i => ws[i]?) = wc) (hls : ls.size = nL) (hn : As.length = n) (hst : st0 = As.reverse ++ rest) (hW : (rest.map fun v => v.category).sum ≤ 8) (hdg : decode cc pc = .ok (.invokestatic index, 3)) (h1 : v.toList ++ rest = st1)
    (kk : W p l e rm s m args below meth c H locs cells slots Q (F0 m (pc + 3) ls st1)) : W p l e rm s m args below meth c H locs cells slots Q (F0 m pc ls st0) := by
  have cb := kcallB C hy hl hR
  rw [hc0.1, hc0.2] at cb
  exact kafterR (mc := 0) (ms := 0) (va_runS (As := As) (rest := rest) C.fix hM ⟨cb, C.2.2.2.2.2.1 _ hstt⟩ ⟨blindR, fun U hU hW => ⟨rfl, by rw [hU]; exact hP.sub is hs, C.2.2.2.2.2.2.2.warm hW⟩⟩ rfl hn hls hst (lv_room hW) hdg hcs) h1 kk
/-- a nest mate's private static method -/
theorem kcRSN {host : String} (C : CX p s m args meth c own cc nL ret D ct) (hM : Met l y (WS y bytes maxL rt) rm' (va_Pc As (PR D ct wc)) (QR v) 0 0 (fun _ => False)) (hc0 : rm'.cells = 0 ∧ rm'.slots = 0) (hy : YN y bytes maxL rt n) (hstt : Cond.static y ∈ TB) (hl : Cond.methodLinkNest own index y host ∈ tn_l)
    (hR : rm'.frames + 1 ≤ rm.frames ∧ 8 + (maxL + 11) + rm'.locals ≤ rm.locals) (hcs : cells ≤ rm.cells ∧ slots ≤ rm.slots)
    (hP : va_P D vwCl ws H) (is : List Nat) (hs : is.filterMap (fun i => ws[i]?) = wc) (hls : ls.size = nL) (hn : As.length = n) (hst : st0 = As.reverse ++ rest) (hW : (rest.map fun v => v.category).sum ≤ 8) (hdg : decode cc pc = .ok (.invokestatic index, 3)) (h1 : v.toList ++ rest = st1)
    (kk : W p l e rm s m args below meth c H locs cells slots Q (F0 m (pc + 3) ls st1)) : W p l e rm s m args below meth c H locs cells slots Q (F0 m pc ls st0) :=
  kafterR (mc := 0) (ms := 0) (va_runSN (As := As) (rest := rest) C.fix hM ⟨va_cnB n C.2.2.2.2.2.1 (ws_good hy) rfl hc0.1 hc0.2 (C.2.2.2.2.2.2.2.2 _ hl) (C.2.2.2.2.2.1 _ hy.2.1) hy.2.2.1 hR, C.2.2.2.2.2.1 _ hstt, trivial⟩ ⟨blindR, fun U hU hW => ⟨rfl, by rw [hU]; exact hP.sub is hs, C.2.2.2.2.2.2.2.warm hW⟩⟩ rfl hn hls hst (lv_room hW) hdg hcs) h1 kk
/-- behind a call that changes its world -/
theorem kafterM {a : Array Value} (hr : va_Run p l e rm s m args below meth c H locs cells slots 0 0 (F0 m pc ls st0) rest (QM D v wc' (va_A wc H.size) a) (va_A wc H.size)) (hP : va_P D vwCl ws H) (hD : va_D A ws) (hS : va_S A s.heap H locs) (hA : ∀ q : Nat, s.heap.size ≤ q → A q) (isC isR pm : List Nat) (hC : isC.map (fun i => ws[i]?) = wc.map some) (hR : isR.map (fun i => ws[i]?) = (isR.filterMap (fun i => ws[i]?)).map some) (hnd : va_nd isR = true) (hdis : ∀ i ∈ isR, i ∉ isC) (hpn : va_nd pm = true) (hpm : pm.map (fun i => (isR.filterMap (fun i => ws[i]?) ++ wc')[i]?) = wf.map some) (hpf : pm.filterMap (fun i => (isR.filterMap (fun i => ws[i]?) ++ wc')[i]?) = wf) (h1 : v.toList ++ rest = st1)
    (kk : ∀ (H1 : Heap) (locs1 : List Loc), va_P D vwCl wf H1 → va_D A wf → va_S A s.heap H1 locs1 → W p l e rm s m args below meth c H1 locs1 cells slots Q (F0 m (pc + 3) ls st1)) : W p l e rm s m args below meth c H locs cells slots Q (F0 m pc ls st0) := by
  intro T hT X
  obtain ⟨v', st₀, t, T', L, h0, X', hL, e1, e2, ⟨⟨hv, hP1, hD1⟩, hz, hk⟩, st⟩ := hr T hT X
  cases hv
  subst h1
  rw [h0] at hz hk
  rw [← e1] at hP1 hz hk
  have hF := va_free (wc := wc) hD hS hA isC hC
  obtain ⟨hP2, hD2⟩ := va_join (wr := isR.filterMap (fun i => ws[i]?)) hP hD isC isR hC hR hnd hdis hk hF hP1 hD1
  obtain ⟨t2, a1, b1⟩ := kk T'.heap (locs ++ L) (hP2.sub pm hpf) (hD2.sub pm hpn hpm)
    ⟨Nat.le_trans hS.1 hz, fun q h1 h2 => by rw [hk q (Nat.lt_of_lt_of_le h1 hS.1) (fun z => h2 (hF q z))]; exact hS.2.1 q h1 h2, fun q hq => by
      rcases List.mem_append.mp hq with h | h
      · exact hS.2.2 q h
      · exact hF _ (hL q h)⟩ T' rfl (by simpa using X')
  exact ⟨t2, st t2 a1, b1⟩
theorem kcMV {q0 ci : Nat} {fs : List Value} {q : vw_C} (C : CX p s m args meth c own cc nL ret D ct) (hM : Met l y (WS y bytes maxL rt) rm' (va_Pc (.ref b :: As) (PM D ct H.size wc)) (QM D v wc' (va_A wc H.size)) 0 0 (va_A wc H.size)) (hc0 : rm'.cells = 0 ∧ rm'.slots = 0) (hy : YN y bytes maxL rt n) (hin : Cond.instanceMethod y ∈ TB) (hse : Cond.selects Cn y y ∈ TB) (hl : Cond.methodLink own index y ∈ TB)
    (hR : rm'.frames + 1 ≤ rm.frames ∧ 8 + (maxL + 11) + rm'.locals ≤ rm.locals) (hcs : cells ≤ rm.cells ∧ slots ≤ rm.slots)
    (hP : va_P D vwCl ws H) (hD : va_D A ws) (hS : va_S A s.heap H locs) (hA : ∀ q : Nat, s.heap.size ≤ q → A q) (isC isR pm : List Nat) (hCs : isC.filterMap (fun i => ws[i]?) = wc) (hCn : va_nd isC = true) (hC : isC.map (fun i => ws[i]?) = wc.map some) (hRr : isR.map (fun i => ws[i]?) = (isR.filterMap (fun i => ws[i]?)).map some) (hnd : va_nd isR = true) (hdis : ∀ i ∈ isR, i ∉ isC) (hpn : va_nd pm = true) (hpm : pm.map (fun i => (isR.filterMap (fun i => ws[i]?) ++ wc')[i]?) = wf.map some) (hpf : pm.filterMap (fun i => (isR.filterMap (fun i => ws[i]?) ++ wc')[i]?) = wf)
    (he : ws[q0]? = some (b, .inr (ci, fs))) (hc : vwCl[ci]? = some q) (hq : q.1 = Cn) (hls : ls.size = nL) (hn : As.length = n) (hst : st0 = As.reverse ++ .ref b :: rest) (hW : (rest.map fun v => v.category).sum ≤ 8) (hdg : decode cc pc = .ok (.invokevirtual index, 3)) (h1 : v.toList ++ rest = st1)
    (kk : ∀ (H1 : Heap) (locs1 : List Loc), va_P D vwCl wf H1 → va_D A wf → va_S A s.heap H1 locs1 → W p l e rm s m args below meth c H1 locs1 cells slots Q (F0 m (pc + 3) ls st1)) : W p l e rm s m args below meth c H locs cells slots Q (F0 m pc ls st0) := by
  have cb := kcallB C hy hl hR
  rw [hc0.1, hc0.2] at cb
  refine kafterM (va_runV (As := As) (rest := rest) C.fix hM ⟨cb, C.2.2.2.2.2.1 _ hin, C.2.2.2.2.2.1 _ hse⟩ ⟨blindM, ?_, fun U hU hW => ⟨rfl, by rw [hU], by rw [hU]; exact hP.sub isC hCs, C.2.2.2.2.2.2.2.warm hW, (hD.sub isC hCn hC).weaken (fun _ _ _ _ => trivial)⟩⟩ rfl hn hls hst (lv_room hW) hdg hcs) hP hD hS hA isC isR pm hC hRr hnd hdis hpn hpm hpf h1 kk
  rw [← hq]
  exact va_recv C.2.2.2.2.2.2.2.1 hP hc he
theorem kcMS (C : CX p s m args meth c own cc nL ret D ct) (hM : Met l y (WS y bytes maxL rt) rm' (va_Pc As (PM D ct H.size wc)) (QM D v wc' (va_A wc H.size)) 0 0 (va_A wc H.size)) (hc0 : rm'.cells = 0 ∧ rm'.slots = 0) (hy : YN y bytes maxL rt n) (hstt : Cond.static y ∈ TB) (hl : Cond.methodLink own index y ∈ TB)
    (hR : rm'.frames + 1 ≤ rm.frames ∧ 8 + (maxL + 11) + rm'.locals ≤ rm.locals) (hcs : cells ≤ rm.cells ∧ slots ≤ rm.slots)
    (hP : va_P D vwCl ws H) (hD : va_D A ws) (hS : va_S A s.heap H locs) (hA : ∀ q : Nat, s.heap.size ≤ q → A q) (isC isR pm : List Nat) (hCs : isC.filterMap (fun i => ws[i]?) = wc) (hCn : va_nd isC = true) (hC : isC.map (fun i => ws[i]?) = wc.map some) (hRr : isR.map (fun i => ws[i]?) = (isR.filterMap (fun i => ws[i]?)).map some) (hnd : va_nd isR = true) (hdis : ∀ i ∈ isR, i ∉ isC) (hpn : va_nd pm = true) (hpm : pm.map (fun i => (isR.filterMap (fun i => ws[i]?) ++ wc')[i]?) = wf.map some) (hpf : pm.filterMap (fun i => (isR.filterMap (fun i => ws[i]?) ++ wc')[i]?) = wf)
    (hls : ls.size = nL) (hn : As.length = n) (hst : st0 = As.reverse ++ rest) (hW : (rest.map fun v => v.category).sum ≤ 8) (hdg : decode cc pc = .ok (.invokestatic index, 3)) (h1 : v.toList ++ rest = st1)
    (kk : ∀ (H1 : Heap) (locs1 : List Loc), va_P D vwCl wf H1 → va_D A wf → va_S A s.heap H1 locs1 → W p l e rm s m args below meth c H1 locs1 cells slots Q (F0 m (pc + 3) ls st1)) : W p l e rm s m args below meth c H locs cells slots Q (F0 m pc ls st0) := by
  have cb := kcallB C hy hl hR
  rw [hc0.1, hc0.2] at cb
  exact kafterM (va_runS (As := As) (rest := rest) C.fix hM ⟨cb, C.2.2.2.2.2.1 _ hstt⟩ ⟨blindM, fun U hU hW => ⟨rfl, by rw [hU], by rw [hU]; exact hP.sub isC hCs, C.2.2.2.2.2.2.2.warm hW, (hD.sub isC hCn hC).weaken (fun _ _ _ _ => trivial)⟩⟩ rfl hn hls hst (lv_room hW) hdg hcs) hP hD hS hA isC isR pm hC hRr hnd hdis hpn hpm hpf h1 kk
end KROWS
