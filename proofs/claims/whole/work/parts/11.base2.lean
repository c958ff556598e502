def cb2 {A1 A2 β : Type} (o : Option (A1 × A2)) (k : A1 → A2 → Option β) : Option β := match o with
  | none => none
  | some (a1, a2) => k a1 a2
theorem cb2_some {A1 A2 β : Type} {o : Option (A1 × A2)} {k : A1 → A2 → Option β} {r : β} (h : cb2 o k = some r) : ∃ a1 a2, o = some (a1, a2) ∧ k a1 a2 = some r := by
  cases o with
  | none => cases h
  | some q => obtain ⟨a1, a2⟩ := q; exact ⟨a1, a2, rfl, h⟩
def cb3 {A1 A2 A3 β : Type} (o : Option (A1 × A2 × A3)) (k : A1 → A2 → A3 → Option β) : Option β := match o with
  | none => none
  | some (a1, a2, a3) => k a1 a2 a3
theorem cb3_some {A1 A2 A3 β : Type} {o : Option (A1 × A2 × A3)} {k : A1 → A2 → A3 → Option β} {r : β} (h : cb3 o k = some r) : ∃ a1 a2 a3, o = some (a1, a2, a3) ∧ k a1 a2 a3 = some r := by
  cases o with
  | none => cases h
  | some q => obtain ⟨a1, a2, a3⟩ := q; exact ⟨a1, a2, a3, rfl, h⟩
def cb4 {A1 A2 A3 A4 β : Type} (o : Option (A1 × A2 × A3 × A4)) (k : A1 → A2 → A3 → A4 → Option β) : Option β := match o with
  | none => none
  | some (a1, a2, a3, a4) => k a1 a2 a3 a4
theorem cb4_some {A1 A2 A3 A4 β : Type} {o : Option (A1 × A2 × A3 × A4)} {k : A1 → A2 → A3 → A4 → Option β} {r : β} (h : cb4 o k = some r) : ∃ a1 a2 a3 a4, o = some (a1, a2, a3, a4) ∧ k a1 a2 a3 a4 = some r := by
  cases o with
  | none => cases h
  | some q => obtain ⟨a1, a2, a3, a4⟩ := q; exact ⟨a1, a2, a3, a4, rfl, h⟩
def cb5 {A1 A2 A3 A4 A5 β : Type} (o : Option (A1 × A2 × A3 × A4 × A5)) (k : A1 → A2 → A3 → A4 → A5 → Option β) : Option β := match o with
  | none => none
  | some (a1, a2, a3, a4, a5) => k a1 a2 a3 a4 a5
theorem cb5_some {A1 A2 A3 A4 A5 β : Type} {o : Option (A1 × A2 × A3 × A4 × A5)} {k : A1 → A2 → A3 → A4 → A5 → Option β} {r : β} (h : cb5 o k = some r) : ∃ a1 a2 a3 a4 a5, o = some (a1, a2, a3, a4, a5) ∧ k a1 a2 a3 a4 a5 = some r := by
  cases o with
  | none => cases h
  | some q => obtain ⟨a1, a2, a3, a4, a5⟩ := q; exact ⟨a1, a2, a3, a4, a5, rfl, h⟩
def cb6 {A1 A2 A3 A4 A5 A6 β : Type} (o : Option (A1 × A2 × A3 × A4 × A5 × A6)) (k : A1 → A2 → A3 → A4 → A5 → A6 → Option β) : Option β := match o with
  | none => none
  | some (a1, a2, a3, a4, a5, a6) => k a1 a2 a3 a4 a5 a6
theorem cb6_some {A1 A2 A3 A4 A5 A6 β : Type} {o : Option (A1 × A2 × A3 × A4 × A5 × A6)} {k : A1 → A2 → A3 → A4 → A5 → A6 → Option β} {r : β} (h : cb6 o k = some r) : ∃ a1 a2 a3 a4 a5 a6, o = some (a1, a2, a3, a4, a5, a6) ∧ k a1 a2 a3 a4 a5 a6 = some r := by
  cases o with
  | none => cases h
  | some q => obtain ⟨a1, a2, a3, a4, a5, a6⟩ := q; exact ⟨a1, a2, a3, a4, a5, a6, rfl, h⟩
def cb7 {A1 A2 A3 A4 A5 A6 A7 β : Type} (o : Option (A1 × A2 × A3 × A4 × A5 × A6 × A7)) (k : A1 → A2 → A3 → A4 → A5 → A6 → A7 → Option β) : Option β := match o with
  | none => none
  | some (a1, a2, a3, a4, a5, a6, a7) => k a1 a2 a3 a4 a5 a6 a7
theorem cb7_some {A1 A2 A3 A4 A5 A6 A7 β : Type} {o : Option (A1 × A2 × A3 × A4 × A5 × A6 × A7)} {k : A1 → A2 → A3 → A4 → A5 → A6 → A7 → Option β} {r : β} (h : cb7 o k = some r) : ∃ a1 a2 a3 a4 a5 a6 a7, o = some (a1, a2, a3, a4, a5, a6, a7) ∧ k a1 a2 a3 a4 a5 a6 a7 = some r := by
  cases o with
  | none => cases h
  | some q => obtain ⟨a1, a2, a3, a4, a5, a6, a7⟩ := q; exact ⟨a1, a2, a3, a4, a5, a6, a7, rfl, h⟩
def cb10 {A1 A2 A3 A4 A5 A6 A7 A8 A9 A10 β : Type} (o : Option (A1 × A2 × A3 × A4 × A5 × A6 × A7 × A8 × A9 × A10)) (k : A1 → A2 → A3 → A4 → A5 → A6 → A7 → A8 → A9 → A10 → Option β) : Option β := match o with
  | none => none
  | some (a1, a2, a3, a4, a5, a6, a7, a8, a9, a10) => k a1 a2 a3 a4 a5 a6 a7 a8 a9 a10
theorem cb10_some {A1 A2 A3 A4 A5 A6 A7 A8 A9 A10 β : Type} {o : Option (A1 × A2 × A3 × A4 × A5 × A6 × A7 × A8 × A9 × A10)} {k : A1 → A2 → A3 → A4 → A5 → A6 → A7 → A8 → A9 → A10 → Option β} {r : β} (h : cb10 o k = some r) : ∃ a1 a2 a3 a4 a5 a6 a7 a8 a9 a10, o = some (a1, a2, a3, a4, a5, a6, a7, a8, a9, a10) ∧ k a1 a2 a3 a4 a5 a6 a7 a8 a9 a10 = some r := by
  cases o with
  | none => cases h
  | some q => obtain ⟨a1, a2, a3, a4, a5, a6, a7, a8, a9, a10⟩ := q; exact ⟨a1, a2, a3, a4, a5, a6, a7, a8, a9, a10, rfl, h⟩
def cb11 {A1 A2 A3 A4 A5 A6 A7 A8 A9 A10 A11 β : Type} (o : Option (A1 × A2 × A3 × A4 × A5 × A6 × A7 × A8 × A9 × A10 × A11)) (k : A1 → A2 → A3 → A4 → A5 → A6 → A7 → A8 → A9 → A10 → A11 → Option β) : Option β := match o with
  | none => none
  | some (a1, a2, a3, a4, a5, a6, a7, a8, a9, a10, a11) => k a1 a2 a3 a4 a5 a6 a7 a8 a9 a10 a11
theorem cb11_some {A1 A2 A3 A4 A5 A6 A7 A8 A9 A10 A11 β : Type} {o : Option (A1 × A2 × A3 × A4 × A5 × A6 × A7 × A8 × A9 × A10 × A11)} {k : A1 → A2 → A3 → A4 → A5 → A6 → A7 → A8 → A9 → A10 → A11 → Option β} {r : β} (h : cb11 o k = some r) : ∃ a1 a2 a3 a4 a5 a6 a7 a8 a9 a10 a11, o = some (a1, a2, a3, a4, a5, a6, a7, a8, a9, a10, a11) ∧ k a1 a2 a3 a4 a5 a6 a7 a8 a9 a10 a11 = some r := by
  cases o with
  | none => cases h
  | some q => obtain ⟨a1, a2, a3, a4, a5, a6, a7, a8, a9, a10, a11⟩ := q; exact ⟨a1, a2, a3, a4, a5, a6, a7, a8, a9, a10, a11, rfl, h⟩
def cb12 {A1 A2 A3 A4 A5 A6 A7 A8 A9 A10 A11 A12 β : Type} (o : Option (A1 × A2 × A3 × A4 × A5 × A6 × A7 × A8 × A9 × A10 × A11 × A12)) (k : A1 → A2 → A3 → A4 → A5 → A6 → A7 → A8 → A9 → A10 → A11 → A12 → Option β) : Option β := match o with
  | none => none
  | some (a1, a2, a3, a4, a5, a6, a7, a8, a9, a10, a11, a12) => k a1 a2 a3 a4 a5 a6 a7 a8 a9 a10 a11 a12
theorem cb12_some {A1 A2 A3 A4 A5 A6 A7 A8 A9 A10 A11 A12 β : Type} {o : Option (A1 × A2 × A3 × A4 × A5 × A6 × A7 × A8 × A9 × A10 × A11 × A12)} {k : A1 → A2 → A3 → A4 → A5 → A6 → A7 → A8 → A9 → A10 → A11 → A12 → Option β} {r : β} (h : cb12 o k = some r) : ∃ a1 a2 a3 a4 a5 a6 a7 a8 a9 a10 a11 a12, o = some (a1, a2, a3, a4, a5, a6, a7, a8, a9, a10, a11, a12) ∧ k a1 a2 a3 a4 a5 a6 a7 a8 a9 a10 a11 a12 = some r := by
  cases o with
  | none => cases h
  | some q => obtain ⟨a1, a2, a3, a4, a5, a6, a7, a8, a9, a10, a11, a12⟩ := q; exact ⟨a1, a2, a3, a4, a5, a6, a7, a8, a9, a10, a11, a12, rfl, h⟩
def cb13 {A1 A2 A3 A4 A5 A6 A7 A8 A9 A10 A11 A12 A13 β : Type} (o : Option (A1 × A2 × A3 × A4 × A5 × A6 × A7 × A8 × A9 × A10 × A11 × A12 × A13)) (k : A1 → A2 → A3 → A4 → A5 → A6 → A7 → A8 → A9 → A10 → A11 → A12 → A13 → Option β) : Option β := match o with
  | none => none
  | some (a1, a2, a3, a4, a5, a6, a7, a8, a9, a10, a11, a12, a13) => k a1 a2 a3 a4 a5 a6 a7 a8 a9 a10 a11 a12 a13
theorem cb13_some {A1 A2 A3 A4 A5 A6 A7 A8 A9 A10 A11 A12 A13 β : Type} {o : Option (A1 × A2 × A3 × A4 × A5 × A6 × A7 × A8 × A9 × A10 × A11 × A12 × A13)} {k : A1 → A2 → A3 → A4 → A5 → A6 → A7 → A8 → A9 → A10 → A11 → A12 → A13 → Option β} {r : β} (h : cb13 o k = some r) : ∃ a1 a2 a3 a4 a5 a6 a7 a8 a9 a10 a11 a12 a13, o = some (a1, a2, a3, a4, a5, a6, a7, a8, a9, a10, a11, a12, a13) ∧ k a1 a2 a3 a4 a5 a6 a7 a8 a9 a10 a11 a12 a13 = some r := by
  cases o with
  | none => cases h
  | some q => obtain ⟨a1, a2, a3, a4, a5, a6, a7, a8, a9, a10, a11, a12, a13⟩ := q; exact ⟨a1, a2, a3, a4, a5, a6, a7, a8, a9, a10, a11, a12, a13, rfl, h⟩
def cb14 {A1 A2 A3 A4 A5 A6 A7 A8 A9 A10 A11 A12 A13 A14 β : Type} (o : Option (A1 × A2 × A3 × A4 × A5 × A6 × A7 × A8 × A9 × A10 × A11 × A12 × A13 × A14)) (k : A1 → A2 → A3 → A4 → A5 → A6 → A7 → A8 → A9 → A10 → A11 → A12 → A13 → A14 → Option β) : Option β := match o with
  | none => none
  | some (a1, a2, a3, a4, a5, a6, a7, a8, a9, a10, a11, a12, a13, a14) => k a1 a2 a3 a4 a5 a6 a7 a8 a9 a10 a11 a12 a13 a14
theorem cb14_some {A1 A2 A3 A4 A5 A6 A7 A8 A9 A10 A11 A12 A13 A14 β : Type} {o : Option (A1 × A2 × A3 × A4 × A5 × A6 × A7 × A8 × A9 × A10 × A11 × A12 × A13 × A14)} {k : A1 → A2 → A3 → A4 → A5 → A6 → A7 → A8 → A9 → A10 → A11 → A12 → A13 → A14 → Option β} {r : β} (h : cb14 o k = some r) : ∃ a1 a2 a3 a4 a5 a6 a7 a8 a9 a10 a11 a12 a13 a14, o = some (a1, a2, a3, a4, a5, a6, a7, a8, a9, a10, a11, a12, a13, a14) ∧ k a1 a2 a3 a4 a5 a6 a7 a8 a9 a10 a11 a12 a13 a14 = some r := by
  cases o with
  | none => cases h
  | some q => obtain ⟨a1, a2, a3, a4, a5, a6, a7, a8, a9, a10, a11, a12, a13, a14⟩ := q; exact ⟨a1, a2, a3, a4, a5, a6, a7, a8, a9, a10, a11, a12, a13, a14, rfl, h⟩
def cb15 {A1 A2 A3 A4 A5 A6 A7 A8 A9 A10 A11 A12 A13 A14 A15 β : Type} (o : Option (A1 × A2 × A3 × A4 × A5 × A6 × A7 × A8 × A9 × A10 × A11 × A12 × A13 × A14 × A15)) (k : A1 → A2 → A3 → A4 → A5 → A6 → A7 → A8 → A9 → A10 → A11 → A12 → A13 → A14 → A15 → Option β) : Option β := match o with
  | none => none
  | some (a1, a2, a3, a4, a5, a6, a7, a8, a9, a10, a11, a12, a13, a14, a15) => k a1 a2 a3 a4 a5 a6 a7 a8 a9 a10 a11 a12 a13 a14 a15
theorem cb15_some {A1 A2 A3 A4 A5 A6 A7 A8 A9 A10 A11 A12 A13 A14 A15 β : Type} {o : Option (A1 × A2 × A3 × A4 × A5 × A6 × A7 × A8 × A9 × A10 × A11 × A12 × A13 × A14 × A15)} {k : A1 → A2 → A3 → A4 → A5 → A6 → A7 → A8 → A9 → A10 → A11 → A12 → A13 → A14 → A15 → Option β} {r : β} (h : cb15 o k = some r) : ∃ a1 a2 a3 a4 a5 a6 a7 a8 a9 a10 a11 a12 a13 a14 a15, o = some (a1, a2, a3, a4, a5, a6, a7, a8, a9, a10, a11, a12, a13, a14, a15) ∧ k a1 a2 a3 a4 a5 a6 a7 a8 a9 a10 a11 a12 a13 a14 a15 = some r := by
  cases o with
  | none => cases h
  | some q => obtain ⟨a1, a2, a3, a4, a5, a6, a7, a8, a9, a10, a11, a12, a13, a14, a15⟩ := q; exact ⟨a1, a2, a3, a4, a5, a6, a7, a8, a9, a10, a11, a12, a13, a14, a15, rfl, h⟩
def cb16 {A1 A2 A3 A4 A5 A6 A7 A8 A9 A10 A11 A12 A13 A14 A15 A16 β : Type} (o : Option (A1 × A2 × A3 × A4 × A5 × A6 × A7 × A8 × A9 × A10 × A11 × A12 × A13 × A14 × A15 × A16)) (k : A1 → A2 → A3 → A4 → A5 → A6 → A7 → A8 → A9 → A10 → A11 → A12 → A13 → A14 → A15 → A16 → Option β) : Option β := match o with
  | none => none
  | some (a1, a2, a3, a4, a5, a6, a7, a8, a9, a10, a11, a12, a13, a14, a15, a16) => k a1 a2 a3 a4 a5 a6 a7 a8 a9 a10 a11 a12 a13 a14 a15 a16
theorem cb16_some {A1 A2 A3 A4 A5 A6 A7 A8 A9 A10 A11 A12 A13 A14 A15 A16 β : Type} {o : Option (A1 × A2 × A3 × A4 × A5 × A6 × A7 × A8 × A9 × A10 × A11 × A12 × A13 × A14 × A15 × A16)} {k : A1 → A2 → A3 → A4 → A5 → A6 → A7 → A8 → A9 → A10 → A11 → A12 → A13 → A14 → A15 → A16 → Option β} {r : β} (h : cb16 o k = some r) : ∃ a1 a2 a3 a4 a5 a6 a7 a8 a9 a10 a11 a12 a13 a14 a15 a16, o = some (a1, a2, a3, a4, a5, a6, a7, a8, a9, a10, a11, a12, a13, a14, a15, a16) ∧ k a1 a2 a3 a4 a5 a6 a7 a8 a9 a10 a11 a12 a13 a14 a15 a16 = some r := by
  cases o with
  | none => cases h
  | some q => obtain ⟨a1, a2, a3, a4, a5, a6, a7, a8, a9, a10, a11, a12, a13, a14, a15, a16⟩ := q; exact ⟨a1, a2, a3, a4, a5, a6, a7, a8, a9, a10, a11, a12, a13, a14, a15, a16, rfl, h⟩
def cb22 {A1 A2 A3 A4 A5 A6 A7 A8 A9 A10 A11 A12 A13 A14 A15 A16 A17 A18 A19 A20 A21 A22 β : Type} (o : Option (A1 × A2 × A3 × A4 × A5 × A6 × A7 × A8 × A9 × A10 × A11 × A12 × A13 × A14 × A15 × A16 × A17 × A18 × A19 × A20 × A21 × A22)) (k : A1 → A2 → A3 → A4 → A5 → A6 → A7 → A8 → A9 → A10 → A11 → A12 → A13 → A14 → A15 → A16 → A17 → A18 → A19 → A20 → A21 → A22 → Option β) : Option β := match o with
  | none => none
  | some (a1, a2, a3, a4, a5, a6, a7, a8, a9, a10, a11, a12, a13, a14, a15, a16, a17, a18, a19, a20, a21, a22) => k a1 a2 a3 a4 a5 a6 a7 a8 a9 a10 a11 a12 a13 a14 a15 a16 a17 a18 a19 a20 a21 a22
theorem cb22_some {A1 A2 A3 A4 A5 A6 A7 A8 A9 A10 A11 A12 A13 A14 A15 A16 A17 A18 A19 A20 A21 A22 β : Type} {o : Option (A1 × A2 × A3 × A4 × A5 × A6 × A7 × A8 × A9 × A10 × A11 × A12 × A13 × A14 × A15 × A16 × A17 × A18 × A19 × A20 × A21 × A22)} {k : A1 → A2 → A3 → A4 → A5 → A6 → A7 → A8 → A9 → A10 → A11 → A12 → A13 → A14 → A15 → A16 → A17 → A18 → A19 → A20 → A21 → A22 → Option β} {r : β} (h : cb22 o k = some r) : ∃ a1 a2 a3 a4 a5 a6 a7 a8 a9 a10 a11 a12 a13 a14 a15 a16 a17 a18 a19 a20 a21 a22, o = some (a1, a2, a3, a4, a5, a6, a7, a8, a9, a10, a11, a12, a13, a14, a15, a16, a17, a18, a19, a20, a21, a22) ∧ k a1 a2 a3 a4 a5 a6 a7 a8 a9 a10 a11 a12 a13 a14 a15 a16 a17 a18 a19 a20 a21 a22 = some r := by
  cases o with
  | none => cases h
  | some q => obtain ⟨a1, a2, a3, a4, a5, a6, a7, a8, a9, a10, a11, a12, a13, a14, a15, a16, a17, a18, a19, a20, a21, a22⟩ := q; exact ⟨a1, a2, a3, a4, a5, a6, a7, a8, a9, a10, a11, a12, a13, a14, a15, a16, a17, a18, a19, a20, a21, a22, rfl, h⟩
def cb23 {A1 A2 A3 A4 A5 A6 A7 A8 A9 A10 A11 A12 A13 A14 A15 A16 A17 A18 A19 A20 A21 A22 A23 β : Type} (o : Option (A1 × A2 × A3 × A4 × A5 × A6 × A7 × A8 × A9 × A10 × A11 × A12 × A13 × A14 × A15 × A16 × A17 × A18 × A19 × A20 × A21 × A22 × A23)) (k : A1 → A2 → A3 → A4 → A5 → A6 → A7 → A8 → A9 → A10 → A11 → A12 → A13 → A14 → A15 → A16 → A17 → A18 → A19 → A20 → A21 → A22 → A23 → Option β) : Option β := match o with
  | none => none
  | some (a1, a2, a3, a4, a5, a6, a7, a8, a9, a10, a11, a12, a13, a14, a15, a16, a17, a18, a19, a20, a21, a22, a23) => k a1 a2 a3 a4 a5 a6 a7 a8 a9 a10 a11 a12 a13 a14 a15 a16 a17 a18 a19 a20 a21 a22 a23
theorem cb23_some {A1 A2 A3 A4 A5 A6 A7 A8 A9 A10 A11 A12 A13 A14 A15 A16 A17 A18 A19 A20 A21 A22 A23 β : Type} {o : Option (A1 × A2 × A3 × A4 × A5 × A6 × A7 × A8 × A9 × A10 × A11 × A12 × A13 × A14 × A15 × A16 × A17 × A18 × A19 × A20 × A21 × A22 × A23)} {k : A1 → A2 → A3 → A4 → A5 → A6 → A7 → A8 → A9 → A10 → A11 → A12 → A13 → A14 → A15 → A16 → A17 → A18 → A19 → A20 → A21 → A22 → A23 → Option β} {r : β} (h : cb23 o k = some r) : ∃ a1 a2 a3 a4 a5 a6 a7 a8 a9 a10 a11 a12 a13 a14 a15 a16 a17 a18 a19 a20 a21 a22 a23, o = some (a1, a2, a3, a4, a5, a6, a7, a8, a9, a10, a11, a12, a13, a14, a15, a16, a17, a18, a19, a20, a21, a22, a23) ∧ k a1 a2 a3 a4 a5 a6 a7 a8 a9 a10 a11 a12 a13 a14 a15 a16 a17 a18 a19 a20 a21 a22 a23 = some r := by
  cases o with
  | none => cases h
  | some q => obtain ⟨a1, a2, a3, a4, a5, a6, a7, a8, a9, a10, a11, a12, a13, a14, a15, a16, a17, a18, a19, a20, a21, a22, a23⟩ := q; exact ⟨a1, a2, a3, a4, a5, a6, a7, a8, a9, a10, a11, a12, a13, a14, a15, a16, a17, a18, a19, a20, a21, a22, a23, rfl, h⟩
def cb25 {A1 A2 A3 A4 A5 A6 A7 A8 A9 A10 A11 A12 A13 A14 A15 A16 A17 A18 A19 A20 A21 A22 A23 A24 A25 β : Type} (o : Option (A1 × A2 × A3 × A4 × A5 × A6 × A7 × A8 × A9 × A10 × A11 × A12 × A13 × A14 × A15 × A16 × A17 × A18 × A19 × A20 × A21 × A22 × A23 × A24 × A25)) (k : A1 → A2 → A3 → A4 → A5 → A6 → A7 → A8 → A9 → A10 → A11 → A12 → A13 → A14 → A15 → A16 → A17 → A18 → A19 → A20 → A21 → A22 → A23 → A24 → A25 → Option β) : Option β := match o with
  | none => none
  | some (a1, a2, a3, a4, a5, a6, a7, a8, a9, a10, a11, a12, a13, a14, a15, a16, a17, a18, a19, a20, a21, a22, a23, a24, a25) => k a1 a2 a3 a4 a5 a6 a7 a8 a9 a10 a11 a12 a13 a14 a15 a16 a17 a18 a19 a20 a21 a22 a23 a24 a25
theorem cb25_some {A1 A2 A3 A4 A5 A6 A7 A8 A9 A10 A11 A12 A13 A14 A15 A16 A17 A18 A19 A20 A21 A22 A23 A24 A25 β : Type} {o : Option (A1 × A2 × A3 × A4 × A5 × A6 × A7 × A8 × A9 × A10 × A11 × A12 × A13 × A14 × A15 × A16 × A17 × A18 × A19 × A20 × A21 × A22 × A23 × A24 × A25)} {k : A1 → A2 → A3 → A4 → A5 → A6 → A7 → A8 → A9 → A10 → A11 → A12 → A13 → A14 → A15 → A16 → A17 → A18 → A19 → A20 → A21 → A22 → A23 → A24 → A25 → Option β} {r : β} (h : cb25 o k = some r) : ∃ a1 a2 a3 a4 a5 a6 a7 a8 a9 a10 a11 a12 a13 a14 a15 a16 a17 a18 a19 a20 a21 a22 a23 a24 a25, o = some (a1, a2, a3, a4, a5, a6, a7, a8, a9, a10, a11, a12, a13, a14, a15, a16, a17, a18, a19, a20, a21, a22, a23, a24, a25) ∧ k a1 a2 a3 a4 a5 a6 a7 a8 a9 a10 a11 a12 a13 a14 a15 a16 a17 a18 a19 a20 a21 a22 a23 a24 a25 = some r := by
  cases o with
  | none => cases h
  | some q => obtain ⟨a1, a2, a3, a4, a5, a6, a7, a8, a9, a10, a11, a12, a13, a14, a15, a16, a17, a18, a19, a20, a21, a22, a23, a24, a25⟩ := q; exact ⟨a1, a2, a3, a4, a5, a6, a7, a8, a9, a10, a11, a12, a13, a14, a15, a16, a17, a18, a19, a20, a21, a22, a23, a24, a25, rfl, h⟩
def cb26 {A1 A2 A3 A4 A5 A6 A7 A8 A9 A10 A11 A12 A13 A14 A15 A16 A17 A18 A19 A20 A21 A22 A23 A24 A25 A26 β : Type} (o : Option (A1 × A2 × A3 × A4 × A5 × A6 × A7 × A8 × A9 × A10 × A11 × A12 × A13 × A14 × A15 × A16 × A17 × A18 × A19 × A20 × A21 × A22 × A23 × A24 × A25 × A26)) (k : A1 → A2 → A3 → A4 → A5 → A6 → A7 → A8 → A9 → A10 → A11 → A12 → A13 → A14 → A15 → A16 → A17 → A18 → A19 → A20 → A21 → A22 → A23 → A24 → A25 → A26 → Option β) : Option β := match o with
  | none => none
  | some (a1, a2, a3, a4, a5, a6, a7, a8, a9, a10, a11, a12, a13, a14, a15, a16, a17, a18, a19, a20, a21, a22, a23, a24, a25, a26) => k a1 a2 a3 a4 a5 a6 a7 a8 a9 a10 a11 a12 a13 a14 a15 a16 a17 a18 a19 a20 a21 a22 a23 a24 a25 a26
theorem cb26_some {A1 A2 A3 A4 A5 A6 A7 A8 A9 A10 A11 A12 A13 A14 A15 A16 A17 A18 A19 A20 A21 A22 A23 A24 A25 A26 β : Type} {o : Option (A1 × A2 × A3 × A4 × A5 × A6 × A7 × A8 × A9 × A10 × A11 × A12 × A13 × A14 × A15 × A16 × A17 × A18 × A19 × A20 × A21 × A22 × A23 × A24 × A25 × A26)} {k : A1 → A2 → A3 → A4 → A5 → A6 → A7 → A8 → A9 → A10 → A11 → A12 → A13 → A14 → A15 → A16 → A17 → A18 → A19 → A20 → A21 → A22 → A23 → A24 → A25 → A26 → Option β} {r : β} (h : cb26 o k = some r) : ∃ a1 a2 a3 a4 a5 a6 a7 a8 a9 a10 a11 a12 a13 a14 a15 a16 a17 a18 a19 a20 a21 a22 a23 a24 a25 a26, o = some (a1, a2, a3, a4, a5, a6, a7, a8, a9, a10, a11, a12, a13, a14, a15, a16, a17, a18, a19, a20, a21, a22, a23, a24, a25, a26) ∧ k a1 a2 a3 a4 a5 a6 a7 a8 a9 a10 a11 a12 a13 a14 a15 a16 a17 a18 a19 a20 a21 a22 a23 a24 a25 a26 = some r := by
  cases o with
  | none => cases h
  | some q => obtain ⟨a1, a2, a3, a4, a5, a6, a7, a8, a9, a10, a11, a12, a13, a14, a15, a16, a17, a18, a19, a20, a21, a22, a23, a24, a25, a26⟩ := q; exact ⟨a1, a2, a3, a4, a5, a6, a7, a8, a9, a10, a11, a12, a13, a14, a15, a16, a17, a18, a19, a20, a21, a22, a23, a24, a25, a26, rfl, h⟩
def cb28 {A1 A2 A3 A4 A5 A6 A7 A8 A9 A10 A11 A12 A13 A14 A15 A16 A17 A18 A19 A20 A21 A22 A23 A24 A25 A26 A27 A28 β : Type} (o : Option (A1 × A2 × A3 × A4 × A5 × A6 × A7 × A8 × A9 × A10 × A11 × A12 × A13 × A14 × A15 × A16 × A17 × A18 × A19 × A20 × A21 × A22 × A23 × A24 × A25 × A26 × A27 × A28)) (k : A1 → A2 → A3 → A4 → A5 → A6 → A7 → A8 → A9 → A10 → A11 → A12 → A13 → A14 → A15 → A16 → A17 → A18 → A19 → A20 → A21 → A22 → A23 → A24 → A25 → A26 → A27 → A28 → Option β) : Option β := match o with
  | none => none
  | some (a1, a2, a3, a4, a5, a6, a7, a8, a9, a10, a11, a12, a13, a14, a15, a16, a17, a18, a19, a20, a21, a22, a23, a24, a25, a26, a27, a28) => k a1 a2 a3 a4 a5 a6 a7 a8 a9 a10 a11 a12 a13 a14 a15 a16 a17 a18 a19 a20 a21 a22 a23 a24 a25 a26 a27 a28
theorem cb28_some {A1 A2 A3 A4 A5 A6 A7 A8 A9 A10 A11 A12 A13 A14 A15 A16 A17 A18 A19 A20 A21 A22 A23 A24 A25 A26 A27 A28 β : Type} {o : Option (A1 × A2 × A3 × A4 × A5 × A6 × A7 × A8 × A9 × A10 × A11 × A12 × A13 × A14 × A15 × A16 × A17 × A18 × A19 × A20 × A21 × A22 × A23 × A24 × A25 × A26 × A27 × A28)} {k : A1 → A2 → A3 → A4 → A5 → A6 → A7 → A8 → A9 → A10 → A11 → A12 → A13 → A14 → A15 → A16 → A17 → A18 → A19 → A20 → A21 → A22 → A23 → A24 → A25 → A26 → A27 → A28 → Option β} {r : β} (h : cb28 o k = some r) : ∃ a1 a2 a3 a4 a5 a6 a7 a8 a9 a10 a11 a12 a13 a14 a15 a16 a17 a18 a19 a20 a21 a22 a23 a24 a25 a26 a27 a28, o = some (a1, a2, a3, a4, a5, a6, a7, a8, a9, a10, a11, a12, a13, a14, a15, a16, a17, a18, a19, a20, a21, a22, a23, a24, a25, a26, a27, a28) ∧ k a1 a2 a3 a4 a5 a6 a7 a8 a9 a10 a11 a12 a13 a14 a15 a16 a17 a18 a19 a20 a21 a22 a23 a24 a25 a26 a27 a28 = some r := by
  cases o with
  | none => cases h
  | some q => obtain ⟨a1, a2, a3, a4, a5, a6, a7, a8, a9, a10, a11, a12, a13, a14, a15, a16, a17, a18, a19, a20, a21, a22, a23, a24, a25, a26, a27, a28⟩ := q; exact ⟨a1, a2, a3, a4, a5, a6, a7, a8, a9, a10, a11, a12, a13, a14, a15, a16, a17, a18, a19, a20, a21, a22, a23, a24, a25, a26, a27, a28, rfl, h⟩
theorem ti2 {A1 A2 : Type} {a1 b1 : A1} {a2 b2 : A2} (h : some (a1, a2) = some (b1, b2)) : a1 = b1 ∧ a2 = b2 := by
  cases Option.some.inj h; exact ⟨rfl, rfl⟩
theorem ti3 {A1 A2 A3 : Type} {a1 b1 : A1} {a2 b2 : A2} {a3 b3 : A3} (h : some (a1, a2, a3) = some (b1, b2, b3)) : a1 = b1 ∧ a2 = b2 ∧ a3 = b3 := by
  cases Option.some.inj h; exact ⟨rfl, rfl, rfl⟩
theorem ti4 {A1 A2 A3 A4 : Type} {a1 b1 : A1} {a2 b2 : A2} {a3 b3 : A3} {a4 b4 : A4} (h : some (a1, a2, a3, a4) = some (b1, b2, b3, b4)) : a1 = b1 ∧ a2 = b2 ∧ a3 = b3 ∧ a4 = b4 := by
  cases Option.some.inj h; exact ⟨rfl, rfl, rfl, rfl⟩
theorem ti5 {A1 A2 A3 A4 A5 : Type} {a1 b1 : A1} {a2 b2 : A2} {a3 b3 : A3} {a4 b4 : A4} {a5 b5 : A5} (h : some (a1, a2, a3, a4, a5) = some (b1, b2, b3, b4, b5)) : a1 = b1 ∧ a2 = b2 ∧ a3 = b3 ∧ a4 = b4 ∧ a5 = b5 := by
  cases Option.some.inj h; exact ⟨rfl, rfl, rfl, rfl, rfl⟩
theorem ti6 {A1 A2 A3 A4 A5 A6 : Type} {a1 b1 : A1} {a2 b2 : A2} {a3 b3 : A3} {a4 b4 : A4} {a5 b5 : A5} {a6 b6 : A6} (h : some (a1, a2, a3, a4, a5, a6) = some (b1, b2, b3, b4, b5, b6)) : a1 = b1 ∧ a2 = b2 ∧ a3 = b3 ∧ a4 = b4 ∧ a5 = b5 ∧ a6 = b6 := by
  cases Option.some.inj h; exact ⟨rfl, rfl, rfl, rfl, rfl, rfl⟩
theorem ti7 {A1 A2 A3 A4 A5 A6 A7 : Type} {a1 b1 : A1} {a2 b2 : A2} {a3 b3 : A3} {a4 b4 : A4} {a5 b5 : A5} {a6 b6 : A6} {a7 b7 : A7} (h : some (a1, a2, a3, a4, a5, a6, a7) = some (b1, b2, b3, b4, b5, b6, b7)) : a1 = b1 ∧ a2 = b2 ∧ a3 = b3 ∧ a4 = b4 ∧ a5 = b5 ∧ a6 = b6 ∧ a7 = b7 := by
  cases Option.some.inj h; exact ⟨rfl, rfl, rfl, rfl, rfl, rfl, rfl⟩
theorem ti10 {A1 A2 A3 A4 A5 A6 A7 A8 A9 A10 : Type} {a1 b1 : A1} {a2 b2 : A2} {a3 b3 : A3} {a4 b4 : A4} {a5 b5 : A5} {a6 b6 : A6} {a7 b7 : A7} {a8 b8 : A8} {a9 b9 : A9} {a10 b10 : A10} (h : some (a1, a2, a3, a4, a5, a6, a7, a8, a9, a10) = some (b1, b2, b3, b4, b5, b6, b7, b8, b9, b10)) : a1 = b1 ∧ a2 = b2 ∧ a3 = b3 ∧ a4 = b4 ∧ a5 = b5 ∧ a6 = b6 ∧ a7 = b7 ∧ a8 = b8 ∧ a9 = b9 ∧ a10 = b10 := by
  cases Option.some.inj h; exact ⟨rfl, rfl, rfl, rfl, rfl, rfl, rfl, rfl, rfl, rfl⟩
theorem ti11 {A1 A2 A3 A4 A5 A6 A7 A8 A9 A10 A11 : Type} {a1 b1 : A1} {a2 b2 : A2} {a3 b3 : A3} {a4 b4 : A4} {a5 b5 : A5} {a6 b6 : A6} {a7 b7 : A7} {a8 b8 : A8} {a9 b9 : A9} {a10 b10 : A10} {a11 b11 : A11} (h : some (a1, a2, a3, a4, a5, a6, a7, a8, a9, a10, a11) = some (b1, b2, b3, b4, b5, b6, b7, b8, b9, b10, b11)) : a1 = b1 ∧ a2 = b2 ∧ a3 = b3 ∧ a4 = b4 ∧ a5 = b5 ∧ a6 = b6 ∧ a7 = b7 ∧ a8 = b8 ∧ a9 = b9 ∧ a10 = b10 ∧ a11 = b11 := by
  cases Option.some.inj h; exact ⟨rfl, rfl, rfl, rfl, rfl, rfl, rfl, rfl, rfl, rfl, rfl⟩
theorem ti12 {A1 A2 A3 A4 A5 A6 A7 A8 A9 A10 A11 A12 : Type} {a1 b1 : A1} {a2 b2 : A2} {a3 b3 : A3} {a4 b4 : A4} {a5 b5 : A5} {a6 b6 : A6} {a7 b7 : A7} {a8 b8 : A8} {a9 b9 : A9} {a10 b10 : A10} {a11 b11 : A11} {a12 b12 : A12} (h : some (a1, a2, a3, a4, a5, a6, a7, a8, a9, a10, a11, a12) = some (b1, b2, b3, b4, b5, b6, b7, b8, b9, b10, b11, b12)) : a1 = b1 ∧ a2 = b2 ∧ a3 = b3 ∧ a4 = b4 ∧ a5 = b5 ∧ a6 = b6 ∧ a7 = b7 ∧ a8 = b8 ∧ a9 = b9 ∧ a10 = b10 ∧ a11 = b11 ∧ a12 = b12 := by
  cases Option.some.inj h; exact ⟨rfl, rfl, rfl, rfl, rfl, rfl, rfl, rfl, rfl, rfl, rfl, rfl⟩
theorem ti13 {A1 A2 A3 A4 A5 A6 A7 A8 A9 A10 A11 A12 A13 : Type} {a1 b1 : A1} {a2 b2 : A2} {a3 b3 : A3} {a4 b4 : A4} {a5 b5 : A5} {a6 b6 : A6} {a7 b7 : A7} {a8 b8 : A8} {a9 b9 : A9} {a10 b10 : A10} {a11 b11 : A11} {a12 b12 : A12} {a13 b13 : A13} (h : some (a1, a2, a3, a4, a5, a6, a7, a8, a9, a10, a11, a12, a13) = some (b1, b2, b3, b4, b5, b6, b7, b8, b9, b10, b11, b12, b13)) : a1 = b1 ∧ a2 = b2 ∧ a3 = b3 ∧ a4 = b4 ∧ a5 = b5 ∧ a6 = b6 ∧ a7 = b7 ∧ a8 = b8 ∧ a9 = b9 ∧ a10 = b10 ∧ a11 = b11 ∧ a12 = b12 ∧ a13 = b13 := by
  cases Option.some.inj h; exact ⟨rfl, rfl, rfl, rfl, rfl, rfl, rfl, rfl, rfl, rfl, rfl, rfl, rfl⟩
theorem ti14 {A1 A2 A3 A4 A5 A6 A7 A8 A9 A10 A11 A12 A13 A14 : Type} {a1 b1 : A1} {a2 b2 : A2} {a3 b3 : A3} {a4 b4 : A4} {a5 b5 : A5} {a6 b6 : A6} {a7 b7 : A7} {a8 b8 : A8} {a9 b9 : A9} {a10 b10 : A10} {a11 b11 : A11} {a12 b12 : A12} {a13 b13 : A13} {a14 b14 : A14} (h : some (a1, a2, a3, a4, a5, a6, a7, a8, a9, a10, a11, a12, a13, a14) = some (b1, b2, b3, b4, b5, b6, b7, b8, b9, b10, b11, b12, b13, b14)) : a1 = b1 ∧ a2 = b2 ∧ a3 = b3 ∧ a4 = b4 ∧ a5 = b5 ∧ a6 = b6 ∧ a7 = b7 ∧ a8 = b8 ∧ a9 = b9 ∧ a10 = b10 ∧ a11 = b11 ∧ a12 = b12 ∧ a13 = b13 ∧ a14 = b14 := by
  cases Option.some.inj h; exact ⟨rfl, rfl, rfl, rfl, rfl, rfl, rfl, rfl, rfl, rfl, rfl, rfl, rfl, rfl⟩
theorem ti15 {A1 A2 A3 A4 A5 A6 A7 A8 A9 A10 A11 A12 A13 A14 A15 : Type} {a1 b1 : A1} {a2 b2 : A2} {a3 b3 : A3} {a4 b4 : A4} {a5 b5 : A5} {a6 b6 : A6} {a7 b7 : A7} {a8 b8 : A8} {a9 b9 : A9} {a10 b10 : A10} {a11 b11 : A11} {a12 b12 : A12} {a13 b13 : A13} {a14 b14 : A14} {a15 b15 : A15} (h : some (a1, a2, a3, a4, a5, a6, a7, a8, a9, a10, a11, a12, a13, a14, a15) = some (b1, b2, b3, b4, b5, b6, b7, b8, b9, b10, b11, b12, b13, b14, b15)) : a1 = b1 ∧ a2 = b2 ∧ a3 = b3 ∧ a4 = b4 ∧ a5 = b5 ∧ a6 = b6 ∧ a7 = b7 ∧ a8 = b8 ∧ a9 = b9 ∧ a10 = b10 ∧ a11 = b11 ∧ a12 = b12 ∧ a13 = b13 ∧ a14 = b14 ∧ a15 = b15 := by
  cases Option.some.inj h; exact ⟨rfl, rfl, rfl, rfl, rfl, rfl, rfl, rfl, rfl, rfl, rfl, rfl, rfl, rfl, rfl⟩
theorem ti16 {A1 A2 A3 A4 A5 A6 A7 A8 A9 A10 A11 A12 A13 A14 A15 A16 : Type} {a1 b1 : A1} {a2 b2 : A2} {a3 b3 : A3} {a4 b4 : A4} {a5 b5 : A5} {a6 b6 : A6} {a7 b7 : A7} {a8 b8 : A8} {a9 b9 : A9} {a10 b10 : A10} {a11 b11 : A11} {a12 b12 : A12} {a13 b13 : A13} {a14 b14 : A14} {a15 b15 : A15} {a16 b16 : A16} (h : some (a1, a2, a3, a4, a5, a6, a7, a8, a9, a10, a11, a12, a13, a14, a15, a16) = some (b1, b2, b3, b4, b5, b6, b7, b8, b9, b10, b11, b12, b13, b14, b15, b16)) : a1 = b1 ∧ a2 = b2 ∧ a3 = b3 ∧ a4 = b4 ∧ a5 = b5 ∧ a6 = b6 ∧ a7 = b7 ∧ a8 = b8 ∧ a9 = b9 ∧ a10 = b10 ∧ a11 = b11 ∧ a12 = b12 ∧ a13 = b13 ∧ a14 = b14 ∧ a15 = b15 ∧ a16 = b16 := by
  cases Option.some.inj h; exact ⟨rfl, rfl, rfl, rfl, rfl, rfl, rfl, rfl, rfl, rfl, rfl, rfl, rfl, rfl, rfl, rfl⟩
theorem ti22 {A1 A2 A3 A4 A5 A6 A7 A8 A9 A10 A11 A12 A13 A14 A15 A16 A17 A18 A19 A20 A21 A22 : Type} {a1 b1 : A1} {a2 b2 : A2} {a3 b3 : A3} {a4 b4 : A4} {a5 b5 : A5} {a6 b6 : A6} {a7 b7 : A7} {a8 b8 : A8} {a9 b9 : A9} {a10 b10 : A10} {a11 b11 : A11} {a12 b12 : A12} {a13 b13 : A13} {a14 b14 : A14} {a15 b15 : A15} {a16 b16 : A16} {a17 b17 : A17} {a18 b18 : A18} {a19 b19 : A19} {a20 b20 : A20} {a21 b21 : A21} {a22 b22 : A22} (h : some (a1, a2, a3, a4, a5, a6, a7, a8, a9, a10, a11, a12, a13, a14, a15, a16, a17, a18, a19, a20, a21, a22) = some (b1, b2, b3, b4, b5, b6, b7, b8, b9, b10, b11, b12, b13, b14, b15, b16, b17, b18, b19, b20, b21, b22)) : a1 = b1 ∧ a2 = b2 ∧ a3 = b3 ∧ a4 = b4 ∧ a5 = b5 ∧ a6 = b6 ∧ a7 = b7 ∧ a8 = b8 ∧ a9 = b9 ∧ a10 = b10 ∧ a11 = b11 ∧ a12 = b12 ∧ a13 = b13 ∧ a14 = b14 ∧ a15 = b15 ∧ a16 = b16 ∧ a17 = b17 ∧ a18 = b18 ∧ a19 = b19 ∧ a20 = b20 ∧ a21 = b21 ∧ a22 = b22 := by
  cases Option.some.inj h; exact ⟨rfl, rfl, rfl, rfl, rfl, rfl, rfl, rfl, rfl, rfl, rfl, rfl, rfl, rfl, rfl, rfl, rfl, rfl, rfl, rfl, rfl, rfl⟩
theorem ti23 {A1 A2 A3 A4 A5 A6 A7 A8 A9 A10 A11 A12 A13 A14 A15 A16 A17 A18 A19 A20 A21 A22 A23 : Type} {a1 b1 : A1} {a2 b2 : A2} {a3 b3 : A3} {a4 b4 : A4} {a5 b5 : A5} {a6 b6 : A6} {a7 b7 : A7} {a8 b8 : A8} {a9 b9 : A9} {a10 b10 : A10} {a11 b11 : A11} {a12 b12 : A12} {a13 b13 : A13} {a14 b14 : A14} {a15 b15 : A15} {a16 b16 : A16} {a17 b17 : A17} {a18 b18 : A18} {a19 b19 : A19} {a20 b20 : A20} {a21 b21 : A21} {a22 b22 : A22} {a23 b23 : A23} (h : some (a1, a2, a3, a4, a5, a6, a7, a8, a9, a10, a11, a12, a13, a14, a15, a16, a17, a18, a19, a20, a21, a22, a23) = some (b1, b2, b3, b4, b5, b6, b7, b8, b9, b10, b11, b12, b13, b14, b15, b16, b17, b18, b19, b20, b21, b22, b23)) : a1 = b1 ∧ a2 = b2 ∧ a3 = b3 ∧ a4 = b4 ∧ a5 = b5 ∧ a6 = b6 ∧ a7 = b7 ∧ a8 = b8 ∧ a9 = b9 ∧ a10 = b10 ∧ a11 = b11 ∧ a12 = b12 ∧ a13 = b13 ∧ a14 = b14 ∧ a15 = b15 ∧ a16 = b16 ∧ a17 = b17 ∧ a18 = b18 ∧ a19 = b19 ∧ a20 = b20 ∧ a21 = b21 ∧ a22 = b22 ∧ a23 = b23 := by
  cases Option.some.inj h; exact ⟨rfl, rfl, rfl, rfl, rfl, rfl, rfl, rfl, rfl, rfl, rfl, rfl, rfl, rfl, rfl, rfl, rfl, rfl, rfl, rfl, rfl, rfl, rfl⟩
theorem ti25 {A1 A2 A3 A4 A5 A6 A7 A8 A9 A10 A11 A12 A13 A14 A15 A16 A17 A18 A19 A20 A21 A22 A23 A24 A25 : Type} {a1 b1 : A1} {a2 b2 : A2} {a3 b3 : A3} {a4 b4 : A4} {a5 b5 : A5} {a6 b6 : A6} {a7 b7 : A7} {a8 b8 : A8} {a9 b9 : A9} {a10 b10 : A10} {a11 b11 : A11} {a12 b12 : A12} {a13 b13 : A13} {a14 b14 : A14} {a15 b15 : A15} {a16 b16 : A16} {a17 b17 : A17} {a18 b18 : A18} {a19 b19 : A19} {a20 b20 : A20} {a21 b21 : A21} {a22 b22 : A22} {a23 b23 : A23} {a24 b24 : A24} {a25 b25 : A25} (h : some (a1, a2, a3, a4, a5, a6, a7, a8, a9, a10, a11, a12, a13, a14, a15, a16, a17, a18, a19, a20, a21, a22, a23, a24, a25) = some (b1, b2, b3, b4, b5, b6, b7, b8, b9, b10, b11, b12, b13, b14, b15, b16, b17, b18, b19, b20, b21, b22, b23, b24, b25)) : a1 = b1 ∧ a2 = b2 ∧ a3 = b3 ∧ a4 = b4 ∧ a5 = b5 ∧ a6 = b6 ∧ a7 = b7 ∧ a8 = b8 ∧ a9 = b9 ∧ a10 = b10 ∧ a11 = b11 ∧ a12 = b12 ∧ a13 = b13 ∧ a14 = b14 ∧ a15 = b15 ∧ a16 = b16 ∧ a17 = b17 ∧ a18 = b18 ∧ a19 = b19 ∧ a20 = b20 ∧ a21 = b21 ∧ a22 = b22 ∧ a23 = b23 ∧ a24 = b24 ∧ a25 = b25 := by
  cases Option.some.inj h; exact ⟨rfl, rfl, rfl, rfl, rfl, rfl, rfl, rfl, rfl, rfl, rfl, rfl, rfl, rfl, rfl, rfl, rfl, rfl, rfl, rfl, rfl, rfl, rfl, rfl, rfl⟩
theorem ti26 {A1 A2 A3 A4 A5 A6 A7 A8 A9 A10 A11 A12 A13 A14 A15 A16 A17 A18 A19 A20 A21 A22 A23 A24 A25 A26 : Type} {a1 b1 : A1} {a2 b2 : A2} {a3 b3 : A3} {a4 b4 : A4} {a5 b5 : A5} {a6 b6 : A6} {a7 b7 : A7} {a8 b8 : A8} {a9 b9 : A9} {a10 b10 : A10} {a11 b11 : A11} {a12 b12 : A12} {a13 b13 : A13} {a14 b14 : A14} {a15 b15 : A15} {a16 b16 : A16} {a17 b17 : A17} {a18 b18 : A18} {a19 b19 : A19} {a20 b20 : A20} {a21 b21 : A21} {a22 b22 : A22} {a23 b23 : A23} {a24 b24 : A24} {a25 b25 : A25} {a26 b26 : A26} (h : some (a1, a2, a3, a4, a5, a6, a7, a8, a9, a10, a11, a12, a13, a14, a15, a16, a17, a18, a19, a20, a21, a22, a23, a24, a25, a26) = some (b1, b2, b3, b4, b5, b6, b7, b8, b9, b10, b11, b12, b13, b14, b15, b16, b17, b18, b19, b20, b21, b22, b23, b24, b25, b26)) : a1 = b1 ∧ a2 = b2 ∧ a3 = b3 ∧ a4 = b4 ∧ a5 = b5 ∧ a6 = b6 ∧ a7 = b7 ∧ a8 = b8 ∧ a9 = b9 ∧ a10 = b10 ∧ a11 = b11 ∧ a12 = b12 ∧ a13 = b13 ∧ a14 = b14 ∧ a15 = b15 ∧ a16 = b16 ∧ a17 = b17 ∧ a18 = b18 ∧ a19 = b19 ∧ a20 = b20 ∧ a21 = b21 ∧ a22 = b22 ∧ a23 = b23 ∧ a24 = b24 ∧ a25 = b25 ∧ a26 = b26 := by
  cases Option.some.inj h; exact ⟨rfl, rfl, rfl, rfl, rfl, rfl, rfl, rfl, rfl, rfl, rfl, rfl, rfl, rfl, rfl, rfl, rfl, rfl, rfl, rfl, rfl, rfl, rfl, rfl, rfl, rfl⟩
theorem ti28 {A1 A2 A3 A4 A5 A6 A7 A8 A9 A10 A11 A12 A13 A14 A15 A16 A17 A18 A19 A20 A21 A22 A23 A24 A25 A26 A27 A28 : Type} {a1 b1 : A1} {a2 b2 : A2} {a3 b3 : A3} {a4 b4 : A4} {a5 b5 : A5} {a6 b6 : A6} {a7 b7 : A7} {a8 b8 : A8} {a9 b9 : A9} {a10 b10 : A10} {a11 b11 : A11} {a12 b12 : A12} {a13 b13 : A13} {a14 b14 : A14} {a15 b15 : A15} {a16 b16 : A16} {a17 b17 : A17} {a18 b18 : A18} {a19 b19 : A19} {a20 b20 : A20} {a21 b21 : A21} {a22 b22 : A22} {a23 b23 : A23} {a24 b24 : A24} {a25 b25 : A25} {a26 b26 : A26} {a27 b27 : A27} {a28 b28 : A28} (h : some (a1, a2, a3, a4, a5, a6, a7, a8, a9, a10, a11, a12, a13, a14, a15, a16, a17, a18, a19, a20, a21, a22, a23, a24, a25, a26, a27, a28) = some (b1, b2, b3, b4, b5, b6, b7, b8, b9, b10, b11, b12, b13, b14, b15, b16, b17, b18, b19, b20, b21, b22, b23, b24, b25, b26, b27, b28)) : a1 = b1 ∧ a2 = b2 ∧ a3 = b3 ∧ a4 = b4 ∧ a5 = b5 ∧ a6 = b6 ∧ a7 = b7 ∧ a8 = b8 ∧ a9 = b9 ∧ a10 = b10 ∧ a11 = b11 ∧ a12 = b12 ∧ a13 = b13 ∧ a14 = b14 ∧ a15 = b15 ∧ a16 = b16 ∧ a17 = b17 ∧ a18 = b18 ∧ a19 = b19 ∧ a20 = b20 ∧ a21 = b21 ∧ a22 = b22 ∧ a23 = b23 ∧ a24 = b24 ∧ a25 = b25 ∧ a26 = b26 ∧ a27 = b27 ∧ a28 = b28 := by
  cases Option.some.inj h; exact ⟨rfl, rfl, rfl, rfl, rfl, rfl, rfl, rfl, rfl, rfl, rfl, rfl, rfl, rfl, rfl, rfl, rfl, rfl, rfl, rfl, rfl, rfl, rfl, rfl, rfl, rfl, rfl, rfl⟩
theorem yn_yX10_isText : YN yX10_isText cX10_isText 1 (some .boolean) 1 := ⟨tw_326, tw_71, ⟨by decide +kernel, by decide +kernel, by decide +kernel⟩, by decide +kernel⟩
theorem yn_yX8_isFull : YN yX8_isFull cX8_isFull 1 (some .boolean) 0 := ⟨tw_330, tw_72, ⟨by decide +kernel, by decide +kernel, by decide +kernel⟩, by decide +kernel⟩
theorem yn_yX8_append : YN yX8_append cX8_append 2 none 1 := ⟨tw_334, tw_72, ⟨by decide +kernel, by decide +kernel, by decide +kernel⟩, by decide +kernel⟩
theorem yn_yX9_forgetAll : YN yX9_forgetAll cX9_forgetAll 1 none 0 := ⟨tw_342, tw_80, ⟨by decide +kernel, by decide +kernel, by decide +kernel⟩, by decide +kernel⟩
theorem yn_yX7_forgetAll : YN yX7_forgetAll cX7_forgetAll 1 none 0 := ⟨tw_346, tw_81, ⟨by decide +kernel, by decide +kernel, by decide +kernel⟩, by decide +kernel⟩
theorem yn_yX10_forget : YN yX10_forget cX10_forget 2 none 1 := ⟨tw_338, tw_71, ⟨by decide +kernel, by decide +kernel, by decide +kernel⟩, by decide +kernel⟩
theorem yn_yX8_size : YN yX8_size cX8_size 1 (some .int) 0 := ⟨tw_350, tw_72, ⟨by decide +kernel, by decide +kernel, by decide +kernel⟩, by decide +kernel⟩
theorem yn_yX10_type : YN yX10_type cX10_type 3 (some .int) 2 := ⟨tw_323, tw_71, ⟨by decide +kernel, by decide +kernel, by decide +kernel⟩, by decide +kernel⟩
theorem yn_yX8_empty : YN yX8_empty cX8_empty 1 none 0 := ⟨tw_358, tw_72, ⟨by decide +kernel, by decide +kernel, by decide +kernel⟩, by decide +kernel⟩
theorem yn_yX10_wipe : YN yX10_wipe cX10_wipe 3 (some .int) 1 := ⟨tw_354, tw_71, ⟨by decide +kernel, by decide +kernel, by decide +kernel⟩, by decide +kernel⟩
theorem yn_yX8_dropLast : YN yX8_dropLast cX8_dropLast 1 none 0 := ⟨tw_366, tw_72, ⟨by decide +kernel, by decide +kernel, by decide +kernel⟩, by decide +kernel⟩
theorem yn_yX10_undo : YN yX10_undo cX10_undo 2 (some .int) 1 := ⟨tw_362, tw_71, ⟨by decide +kernel, by decide +kernel, by decide +kernel⟩, by decide +kernel⟩
theorem yn_yX8_byteAt : YN yX8_byteAt cX8_byteAt 2 (some .int) 1 := ⟨tw_387, tw_72, ⟨by decide +kernel, by decide +kernel, by decide +kernel⟩, by decide +kernel⟩
theorem yn_yX10_letterOf : YN yX10_letterOf cX10_letterOf 1 (some .int) 1 := ⟨tw_394, tw_71, ⟨by decide +kernel, by decide +kernel, by decide +kernel⟩, by decide +kernel⟩
theorem yn_yX3_takeLetters : YN yX3_takeLetters cX3_takeLetters 6 (some .int) 3 := ⟨tw_391, tw_74, ⟨by decide +kernel, by decide +kernel, by decide +kernel⟩, by decide +kernel⟩
theorem yn_yX3_scan : YN yX3_scan cX3_scan 6 (some .int) 1 := ⟨tw_382, tw_74, ⟨by decide +kernel, by decide +kernel, by decide +kernel⟩, by decide +kernel⟩
theorem yn_yJ7_fill_53178 : YN yJ7_fill_53178 cJ7_fill_53178 4 none 2 := ⟨tw_401, tw_84, ⟨by decide +kernel, by decide +kernel, by decide +kernel⟩, by decide +kernel⟩
theorem yn_yX3_letterAt : YN yX3_letterAt cX3_letterAt 3 (some .int) 2 := ⟨tw_405, tw_74, ⟨by decide +kernel, by decide +kernel, by decide +kernel⟩, by decide +kernel⟩
theorem yn_yX3_groupBySound : YN yX3_groupBySound cX3_groupBySound 3 none 0 := ⟨tw_398, tw_74, ⟨by decide +kernel, by decide +kernel, by decide +kernel⟩, by decide +kernel⟩
theorem yn_yX3_addOdds : YN yX3_addOdds cX3_addOdds 4 none 0 := ⟨tw_409, tw_74, ⟨by decide +kernel, by decide +kernel, by decide +kernel⟩, by decide +kernel⟩
theorem yn_yX3_parse : YN yX3_parse cX3_parse 2 none 1 := ⟨tw_378, tw_74, ⟨by decide +kernel, by decide +kernel, by decide +kernel⟩, by decide +kernel⟩
theorem yn_yX4_takeLetters : YN yX4_takeLetters cX4_takeLetters 6 (some .int) 3 := ⟨tw_423, tw_75, ⟨by decide +kernel, by decide +kernel, by decide +kernel⟩, by decide +kernel⟩
theorem yn_yX4_scan : YN yX4_scan cX4_scan 6 (some .int) 1 := ⟨tw_417, tw_75, ⟨by decide +kernel, by decide +kernel, by decide +kernel⟩, by decide +kernel⟩
theorem yn_yX4_parse : YN yX4_parse cX4_parse 2 none 1 := ⟨tw_413, tw_75, ⟨by decide +kernel, by decide +kernel, by decide +kernel⟩, by decide +kernel⟩
theorem yn_yX6_parse : YN yX6_parse cX6_parse 5 none 1 := ⟨tw_428, tw_76, ⟨by decide +kernel, by decide +kernel, by decide +kernel⟩, by decide +kernel⟩
theorem yn_yX4_size : YN yX4_size cX4_size 1 (some .int) 0 := ⟨tw_443, tw_75, ⟨by decide +kernel, by decide +kernel, by decide +kernel⟩, by decide +kernel⟩
theorem yn_yX3_size : YN yX3_size cX3_size 1 (some .int) 0 := ⟨tw_447, tw_74, ⟨by decide +kernel, by decide +kernel, by decide +kernel⟩, by decide +kernel⟩
theorem yn_yX3_lengthOf : YN yX3_lengthOf cX3_lengthOf 2 (some .int) 1 := ⟨tw_455, tw_74, ⟨by decide +kernel, by decide +kernel, by decide +kernel⟩, by decide +kernel⟩
theorem yn_yX6_isTrueOf : YN yX6_isTrueOf cX6_isTrueOf 4 (some .boolean) 2 := ⟨tw_451, tw_76, ⟨by decide +kernel, by decide +kernel, by decide +kernel⟩, by decide +kernel⟩
theorem yn_yX4_isAt : YN yX4_isAt cX4_isAt 6 (some .boolean) 4 := ⟨tw_465, tw_75, ⟨by decide +kernel, by decide +kernel, by decide +kernel⟩, by decide +kernel⟩
theorem yn_yX4_isTrueOf : YN yX4_isTrueOf cX4_isTrueOf 6 (some .boolean) 3 := ⟨tw_460, tw_75, ⟨by decide +kernel, by decide +kernel, by decide +kernel⟩, by decide +kernel⟩
theorem yn_yX1_by : YN yX1_by cX1_by 4 (some .int) 1 := ⟨tw_470, tw_77, ⟨by decide +kernel, by decide +kernel, by decide +kernel⟩, by decide +kernel⟩
theorem yn_yX3_oddsOf : YN yX3_oddsOf cX3_oddsOf 2 (some .int) 1 := ⟨tw_478, tw_74, ⟨by decide +kernel, by decide +kernel, by decide +kernel⟩, by decide +kernel⟩
theorem yn_yX1_order : YN yX1_order cX1_order 4 none 1 := ⟨tw_474, tw_77, ⟨by decide +kernel, by decide +kernel, by decide +kernel⟩, by decide +kernel⟩
theorem yn_yX1_update : YN yX1_update cX1_update 6 none 3 := ⟨tw_438, tw_77, ⟨by decide +kernel, by decide +kernel, by decide +kernel⟩, by decide +kernel⟩
theorem yn_yX10_refresh : YN yX10_refresh cX10_refresh 1 none 0 := ⟨tw_374, tw_71, ⟨by decide +kernel, by decide +kernel, by decide +kernel⟩, by decide +kernel⟩
theorem yn_yX3_faultPlace : YN yX3_faultPlace cX3_faultPlace 1 (some .int) 0 := ⟨tw_482, tw_74, ⟨by decide +kernel, by decide +kernel, by decide +kernel⟩, by decide +kernel⟩
theorem yn_yX4_faultPlace : YN yX4_faultPlace cX4_faultPlace 1 (some .int) 0 := ⟨tw_486, tw_75, ⟨by decide +kernel, by decide +kernel, by decide +kernel⟩, by decide +kernel⟩
theorem yn_yX6_faultPlace : YN yX6_faultPlace cX6_faultPlace 1 (some .int) 0 := ⟨tw_490, tw_76, ⟨by decide +kernel, by decide +kernel, by decide +kernel⟩, by decide +kernel⟩
theorem yn_yX10_fault : YN yX10_fault cX10_fault 2 (some .int) 1 := ⟨tw_370, tw_71, ⟨by decide +kernel, by decide +kernel, by decide +kernel⟩, by decide +kernel⟩
theorem yn_yX3_has : YN yX3_has cX3_has 2 (some .boolean) 1 := ⟨tw_498, tw_74, ⟨by decide +kernel, by decide +kernel, by decide +kernel⟩, by decide +kernel⟩
theorem yn_yX10_name : YN yX10_name cX10_name 3 (some .int) 2 := ⟨tw_494, tw_71, ⟨by decide +kernel, by decide +kernel, by decide +kernel⟩, by decide +kernel⟩
theorem yn_yX10_mayBeGuessed : YN yX10_mayBeGuessed cX10_mayBeGuessed 1 (some .boolean) 1 := ⟨tw_524, tw_71, ⟨by decide +kernel, by decide +kernel, by decide +kernel⟩, by decide +kernel⟩
theorem yn_yX2_isFull : YN yX2_isFull cX2_isFull 1 (some .boolean) 0 := ⟨tw_528, tw_79, ⟨by decide +kernel, by decide +kernel, by decide +kernel⟩, by decide +kernel⟩
theorem yn_yX2_append : YN yX2_append cX2_append 2 none 1 := ⟨tw_532, tw_79, ⟨by decide +kernel, by decide +kernel, by decide +kernel⟩, by decide +kernel⟩
theorem yn_yX2_size : YN yX2_size cX2_size 1 (some .int) 0 := ⟨tw_536, tw_79, ⟨by decide +kernel, by decide +kernel, by decide +kernel⟩, by decide +kernel⟩
theorem yn_yX10_guess : YN yX10_guess cX10_guess 2 (some .int) 1 := ⟨tw_521, tw_71, ⟨by decide +kernel, by decide +kernel, by decide +kernel⟩, by decide +kernel⟩
theorem yn_yX2_dropLast : YN yX2_dropLast cX2_dropLast 1 none 0 := ⟨tw_544, tw_79, ⟨by decide +kernel, by decide +kernel, by decide +kernel⟩, by decide +kernel⟩
theorem yn_yX10_unguess : YN yX10_unguess cX10_unguess 1 (some .int) 0 := ⟨tw_540, tw_71, ⟨by decide +kernel, by decide +kernel, by decide +kernel⟩, by decide +kernel⟩
theorem yn_yX10_isSheet : YN yX10_isSheet cX10_isSheet 1 (some .boolean) 1 := ⟨tw_551, tw_71, ⟨by decide +kernel, by decide +kernel, by decide +kernel⟩, by decide +kernel⟩
theorem yn_yX5_isLost : YN yX5_isLost cX5_isLost 1 (some .boolean) 0 := ⟨tw_555, tw_82, ⟨by decide +kernel, by decide +kernel, by decide +kernel⟩, by decide +kernel⟩
theorem yn_yX10_found : YN yX10_found cX10_found 2 (some .int) 1 := ⟨tw_559, tw_71, ⟨by decide +kernel, by decide +kernel, by decide +kernel⟩, by decide +kernel⟩
theorem yn_yX2_empty : YN yX2_empty cX2_empty 1 none 0 := ⟨tw_563, tw_79, ⟨by decide +kernel, by decide +kernel, by decide +kernel⟩, by decide +kernel⟩
theorem yn_yX5_size : YN yX5_size cX5_size 1 (some .int) 0 := ⟨tw_567, tw_82, ⟨by decide +kernel, by decide +kernel, by decide +kernel⟩, by decide +kernel⟩
theorem yn_yX5_item : YN yX5_item cX5_item 2 (some .int) 1 := ⟨tw_571, tw_82, ⟨by decide +kernel, by decide +kernel, by decide +kernel⟩, by decide +kernel⟩
theorem yn_yX10_read : YN yX10_read cX10_read 4 (some .int) 1 := ⟨tw_548, tw_71, ⟨by decide +kernel, by decide +kernel, by decide +kernel⟩, by decide +kernel⟩
theorem yn_yX1_byAll : YN yX1_byAll cX1_byAll 1 (some .int) 0 := ⟨tw_579, tw_77, ⟨by decide +kernel, by decide +kernel, by decide +kernel⟩, by decide +kernel⟩
theorem yn_yX10_fits : YN yX10_fits cX10_fits 1 (some .int) 0 := ⟨tw_575, tw_71, ⟨by decide +kernel, by decide +kernel, by decide +kernel⟩, by decide +kernel⟩
theorem yn_yX10_isZeroOrOne : YN yX10_isZeroOrOne cX10_isZeroOrOne 1 (some .boolean) 1 := ⟨tw_586, tw_71, ⟨by decide +kernel, by decide +kernel, by decide +kernel⟩, by decide +kernel⟩
theorem yn_yX10_asLong : YN yX10_asLong cX10_asLong 1 (some .long) 1 := ⟨tw_589, tw_71, ⟨by decide +kernel, by decide +kernel, by decide +kernel⟩, by decide +kernel⟩
theorem yn_yX3_oddsOfAll : YN yX3_oddsOfAll cX3_oddsOfAll 2 (some .int) 1 := ⟨tw_594, tw_74, ⟨by decide +kernel, by decide +kernel, by decide +kernel⟩, by decide +kernel⟩
theorem yn_yX10_greatestDivisor : YN yX10_greatestDivisor cX10_greatestDivisor 6 (some .int) 2 := ⟨tw_600, tw_71, ⟨by decide +kernel, by decide +kernel, by decide +kernel⟩, by decide +kernel⟩
theorem yn_yX10_lowestTerm : YN yX10_lowestTerm cX10_lowestTerm 4 (some .int) 3 := ⟨tw_597, tw_71, ⟨by decide +kernel, by decide +kernel, by decide +kernel⟩, by decide +kernel⟩
theorem yn_yX10_chance : YN yX10_chance cX10_chance 5 (some .long) 2 := ⟨tw_583, tw_71, ⟨by decide +kernel, by decide +kernel, by decide +kernel⟩, by decide +kernel⟩
theorem yn_yX4_has : YN yX4_has cX4_has 2 (some .boolean) 1 := ⟨tw_608, tw_75, ⟨by decide +kernel, by decide +kernel, by decide +kernel⟩, by decide +kernel⟩
theorem yn_yX1_byPiece : YN yX1_byPiece cX1_byPiece 2 (some .int) 1 := ⟨tw_612, tw_77, ⟨by decide +kernel, by decide +kernel, by decide +kernel⟩, by decide +kernel⟩
theorem yn_yX10_heard : YN yX10_heard cX10_heard 2 (some .int) 1 := ⟨tw_604, tw_71, ⟨by decide +kernel, by decide +kernel, by decide +kernel⟩, by decide +kernel⟩
theorem yn_yX3_all : YN yX3_all cX3_all 1 (some .int) 0 := ⟨tw_624, tw_74, ⟨by decide +kernel, by decide +kernel, by decide +kernel⟩, by decide +kernel⟩
theorem yn_yX3_soundingAt : YN yX3_soundingAt cX3_soundingAt 3 (some .int) 2 := ⟨tw_628, tw_74, ⟨by decide +kernel, by decide +kernel, by decide +kernel⟩, by decide +kernel⟩
theorem yn_yX3_asLongAs : YN yX3_asLongAs cX3_asLongAs 4 (some .int) 1 := ⟨tw_632, tw_74, ⟨by decide +kernel, by decide +kernel, by decide +kernel⟩, by decide +kernel⟩
theorem yn_yX3_oneLetterFrom : YN yX3_oneLetterFrom cX3_oneLetterFrom 6 (some .int) 1 := ⟨tw_620, tw_74, ⟨by decide +kernel, by decide +kernel, by decide +kernel⟩, by decide +kernel⟩
theorem yn_yX10_off : YN yX10_off cX10_off 2 (some .int) 1 := ⟨tw_616, tw_71, ⟨by decide +kernel, by decide +kernel, by decide +kernel⟩, by decide +kernel⟩
theorem yn_yX0_turns : YN yX0_turns cX0_turns 1 (some .int) 0 := ⟨tw_641, tw_78, ⟨by decide +kernel, by decide +kernel, by decide +kernel⟩, by decide +kernel⟩
theorem yn_yX2_firstTurnOf : YN yX2_firstTurnOf cX2_firstTurnOf 5 (some .int) 2 := ⟨tw_645, tw_79, ⟨by decide +kernel, by decide +kernel, by decide +kernel⟩, by decide +kernel⟩
theorem yn_yX0_nightOf : YN yX0_nightOf cX0_nightOf 2 (some .int) 1 := ⟨tw_655, tw_78, ⟨by decide +kernel, by decide +kernel, by decide +kernel⟩, by decide +kernel⟩
theorem yn_yX0_promised : YN yX0_promised cX0_promised 2 (some .int) 1 := ⟨tw_659, tw_78, ⟨by decide +kernel, by decide +kernel, by decide +kernel⟩, by decide +kernel⟩
theorem yn_yX0_paidUnnamed : YN yX0_paidUnnamed cX0_paidUnnamed 1 (some .int) 0 := ⟨tw_663, tw_78, ⟨by decide +kernel, by decide +kernel, by decide +kernel⟩, by decide +kernel⟩
theorem yn_yX0_paidAt : YN yX0_paidAt cX0_paidAt 3 (some .int) 2 := ⟨tw_650, tw_78, ⟨by decide +kernel, by decide +kernel, by decide +kernel⟩, by decide +kernel⟩
theorem yn_yX10_named : YN yX10_named cX10_named 4 (some .int) 2 := ⟨tw_637, tw_71, ⟨by decide +kernel, by decide +kernel, by decide +kernel⟩, by decide +kernel⟩
theorem yn_yX1_inRow : YN yX1_inRow cX1_inRow 2 (some .int) 1 := ⟨tw_673, tw_77, ⟨by decide +kernel, by decide +kernel, by decide +kernel⟩, by decide +kernel⟩
theorem yn_yX10_row : YN yX10_row cX10_row 2 (some .int) 1 := ⟨tw_669, tw_71, ⟨by decide +kernel, by decide +kernel, by decide +kernel⟩, by decide +kernel⟩
theorem yn_yX1_rowSize : YN yX1_rowSize cX1_rowSize 1 (some .int) 0 := ⟨tw_681, tw_77, ⟨by decide +kernel, by decide +kernel, by decide +kernel⟩, by decide +kernel⟩
theorem yn_yX10_mean : YN yX10_mean cX10_mean 5 (some .long) 1 := ⟨tw_677, tw_71, ⟨by decide +kernel, by decide +kernel, by decide +kernel⟩, by decide +kernel⟩
theorem yn_yX0_nights : YN yX0_nights cX0_nights 1 (some .int) 0 := ⟨tw_689, tw_78, ⟨by decide +kernel, by decide +kernel, by decide +kernel⟩, by decide +kernel⟩
theorem yn_yX10_isNameBits : YN yX10_isNameBits cX10_isNameBits 1 (some .boolean) 1 := ⟨tw_692, tw_71, ⟨by decide +kernel, by decide +kernel, by decide +kernel⟩, by decide +kernel⟩
theorem yn_yX9_makeReady : YN yX9_makeReady cX9_makeReady 3 none 0 := ⟨tw_696, tw_80, ⟨by decide +kernel, by decide +kernel, by decide +kernel⟩, by decide +kernel⟩
theorem yn_yX9_sumUnnamed : YN yX9_sumUnnamed cX9_sumUnnamed 2 (some .int) 1 := ⟨tw_712, tw_80, ⟨by decide +kernel, by decide +kernel, by decide +kernel⟩, by decide +kernel⟩
theorem yn_yX0_cow : YN yX0_cow cX0_cow 1 (some .int) 0 := ⟨tw_729, tw_78, ⟨by decide +kernel, by decide +kernel, by decide +kernel⟩, by decide +kernel⟩
theorem yn_yX9_sumOfGuess : YN yX9_sumOfGuess cX9_sumOfGuess 5 (some .int) 3 := ⟨tw_723, tw_80, ⟨by decide +kernel, by decide +kernel, by decide +kernel⟩, by decide +kernel⟩
theorem yn_yX9_sumOfListening : YN yX9_sumOfListening cX9_sumOfListening 7 (some .int) 3 := ⟨tw_733, tw_80, ⟨by decide +kernel, by decide +kernel, by decide +kernel⟩, by decide +kernel⟩
theorem yn_yX9_sumOf : YN yX9_sumOf cX9_sumOf 4 (some .int) 3 := ⟨tw_719, tw_80, ⟨by decide +kernel, by decide +kernel, by decide +kernel⟩, by decide +kernel⟩
theorem yn_yX9_leastFrom : YN yX9_leastFrom cX9_leastFrom 6 (some .int) 2 := ⟨tw_708, tw_80, ⟨by decide +kernel, by decide +kernel, by decide +kernel⟩, by decide +kernel⟩
theorem yn_yX9_firstAct : YN yX9_firstAct cX9_firstAct 5 (some .int) 2 := ⟨tw_704, tw_80, ⟨by decide +kernel, by decide +kernel, by decide +kernel⟩, by decide +kernel⟩
theorem yn_yX10_wisest : YN yX10_wisest cX10_wisest 5 (some .long) 3 := ⟨tw_685, tw_71, ⟨by decide +kernel, by decide +kernel, by decide +kernel⟩, by decide +kernel⟩
theorem yn_yJ6_bitCount_0f7a4 : YN yJ6_bitCount_0f7a4 cJ6_bitCount_0f7a4 1 (some .int) 1 := ⟨tw_751, tw_85, ⟨by decide +kernel, by decide +kernel, by decide +kernel⟩, by decide +kernel⟩
theorem yn_yX7_leftAtWorst : YN yX7_leftAtWorst cX7_leftAtWorst 5 (some .int) 2 := ⟨tw_747, tw_81, ⟨by decide +kernel, by decide +kernel, by decide +kernel⟩, by decide +kernel⟩
theorem yn_yX7_bestPlace : YN yX7_bestPlace cX7_bestPlace 4 (some .int) 1 := ⟨tw_743, tw_81, ⟨by decide +kernel, by decide +kernel, by decide +kernel⟩, by decide +kernel⟩
theorem yn_yX10_listen : YN yX10_listen cX10_listen 4 (some .int) 1 := ⟨tw_739, tw_71, ⟨by decide +kernel, by decide +kernel, by decide +kernel⟩, by decide +kernel⟩
theorem yn_yX7_nightsBehind : YN yX7_nightsBehind cX7_nightsBehind 6 (some .int) 2 := ⟨tw_777, tw_81, ⟨by decide +kernel, by decide +kernel, by decide +kernel⟩, by decide +kernel⟩
theorem yn_yX7_fewestNights : YN yX7_fewestNights cX7_fewestNights 4 (some .int) 1 := ⟨tw_772, tw_81, ⟨by decide +kernel, by decide +kernel, by decide +kernel⟩, by decide +kernel⟩
theorem yn_yX7_settle : YN yX7_settle cX7_settle 5 none 1 := ⟨tw_768, tw_81, ⟨by decide +kernel, by decide +kernel, by decide +kernel⟩, by decide +kernel⟩
theorem yn_yX7_nightsAtWorst : YN yX7_nightsAtWorst cX7_nightsAtWorst 3 (some .int) 1 := ⟨tw_764, tw_81, ⟨by decide +kernel, by decide +kernel, by decide +kernel⟩, by decide +kernel⟩
theorem yn_yX10_sure : YN yX10_sure cX10_sure 1 (some .int) 0 := ⟨tw_760, tw_71, ⟨by decide +kernel, by decide +kernel, by decide +kernel⟩, by decide +kernel⟩
theorem yn_yX10_spun : YN yX10_spun cX10_spun 3 (some .int) 1 := ⟨tw_781, tw_71, ⟨by decide +kernel, by decide +kernel, by decide +kernel⟩, by decide +kernel⟩
theorem yn_yX10_isPieceBits : YN yX10_isPieceBits cX10_isPieceBits 1 (some .boolean) 1 := ⟨tw_789, tw_71, ⟨by decide +kernel, by decide +kernel, by decide +kernel⟩, by decide +kernel⟩
theorem yn_yX10_pool : YN yX10_pool cX10_pool 4 (some .int) 3 := ⟨tw_786, tw_71, ⟨by decide +kernel, by decide +kernel, by decide +kernel⟩, by decide +kernel⟩
theorem yn_yX1_fewestPieces : YN yX1_fewestPieces cX1_fewestPieces 4 (some .int) 0 := ⟨tw_799, tw_77, ⟨by decide +kernel, by decide +kernel, by decide +kernel⟩, by decide +kernel⟩
theorem yn_yX10_shortest : YN yX10_shortest cX10_shortest 3 (some .int) 1 := ⟨tw_795, tw_71, ⟨by decide +kernel, by decide +kernel, by decide +kernel⟩, by decide +kernel⟩
theorem yn_yX3_commonLength : YN yX3_commonLength cX3_commonLength 4 (some .int) 1 := ⟨tw_812, tw_74, ⟨by decide +kernel, by decide +kernel, by decide +kernel⟩, by decide +kernel⟩
theorem yn_yX3_songByte : YN yX3_songByte cX3_songByte 5 (some .int) 2 := ⟨tw_808, tw_74, ⟨by decide +kernel, by decide +kernel, by decide +kernel⟩, by decide +kernel⟩
theorem yn_yX10_sung : YN yX10_sung cX10_sung 4 (some .int) 2 := ⟨tw_804, tw_71, ⟨by decide +kernel, by decide +kernel, by decide +kernel⟩, by decide +kernel⟩
theorem yn_yX3_oneLetterFromAny : YN yX3_oneLetterFromAny cX3_oneLetterFromAny 4 (some .int) 1 := ⟨tw_820, tw_74, ⟨by decide +kernel, by decide +kernel, by decide +kernel⟩, by decide +kernel⟩
theorem yn_yX10_changes : YN yX10_changes cX10_changes 5 (some .int) 2 := ⟨tw_816, tw_71, ⟨by decide +kernel, by decide +kernel, by decide +kernel⟩, by decide +kernel⟩
theorem yn_yX10_isForm : YN yX10_isForm cX10_isForm 1 (some .boolean) 1 := ⟨tw_828, tw_71, ⟨by decide +kernel, by decide +kernel, by decide +kernel⟩, by decide +kernel⟩
theorem yn_yX5_become : YN yX5_become cX5_become 2 none 1 := ⟨tw_837, tw_82, ⟨by decide +kernel, by decide +kernel, by decide +kernel⟩, by decide +kernel⟩
theorem yn_yX5_begin : YN yX5_begin cX5_begin 3 none 2 := ⟨tw_832, tw_82, ⟨by decide +kernel, by decide +kernel, by decide +kernel⟩, by decide +kernel⟩
theorem yn_yX10_sheet : YN yX10_sheet cX10_sheet 4 (some .int) 3 := ⟨tw_825, tw_71, ⟨by decide +kernel, by decide +kernel, by decide +kernel⟩, by decide +kernel⟩
theorem yn_yX10_lose : YN yX10_lose cX10_lose 3 (some .int) 1 := ⟨tw_842, tw_71, ⟨by decide +kernel, by decide +kernel, by decide +kernel⟩, by decide +kernel⟩
theorem yn_yX5_form : YN yX5_form cX5_form 1 (some .int) 0 := ⟨tw_855, tw_82, ⟨by decide +kernel, by decide +kernel, by decide +kernel⟩, by decide +kernel⟩
theorem yn_yX5_holds : YN yX5_holds cX5_holds 3 (some .boolean) 2 := ⟨tw_859, tw_82, ⟨by decide +kernel, by decide +kernel, by decide +kernel⟩, by decide +kernel⟩
theorem yn_yX10_lookFor : YN yX10_lookFor cX10_lookFor 4 (some .int) 3 := ⟨tw_851, tw_71, ⟨by decide +kernel, by decide +kernel, by decide +kernel⟩, by decide +kernel⟩
theorem yn_yX5_asOfForm : YN yX5_asOfForm cX5_asOfForm 2 (some .int) 1 := ⟨tw_867, tw_82, ⟨by decide +kernel, by decide +kernel, by decide +kernel⟩, by decide +kernel⟩
theorem yn_yX5_put : YN yX5_put cX5_put 3 none 2 := ⟨tw_863, tw_82, ⟨by decide +kernel, by decide +kernel, by decide +kernel⟩, by decide +kernel⟩
theorem yn_yX10_lay : YN yX10_lay cX10_lay 6 (some .int) 4 := ⟨tw_847, tw_71, ⟨by decide +kernel, by decide +kernel, by decide +kernel⟩, by decide +kernel⟩
theorem yn_yX10_get : YN yX10_get cX10_get 4 (some .int) 3 := ⟨tw_871, tw_71, ⟨by decide +kernel, by decide +kernel, by decide +kernel⟩, by decide +kernel⟩
theorem yn_yX5_take : YN yX5_take cX5_take 5 none 4 := ⟨tw_880, tw_82, ⟨by decide +kernel, by decide +kernel, by decide +kernel⟩, by decide +kernel⟩
theorem yn_yX10_copy : YN yX10_copy cX10_copy 8 (some .int) 5 := ⟨tw_876, tw_71, ⟨by decide +kernel, by decide +kernel, by decide +kernel⟩, by decide +kernel⟩
theorem yn_yX10_write : YN yX10_write cX10_write 4 (some .int) 1 := ⟨tw_888, tw_71, ⟨by decide +kernel, by decide +kernel, by decide +kernel⟩, by decide +kernel⟩
theorem yn_yX6_size : YN yX6_size cX6_size 1 (some .int) 0 := ⟨tw_899, tw_76, ⟨by decide +kernel, by decide +kernel, by decide +kernel⟩, by decide +kernel⟩
theorem yn_yX10_count : YN yX10_count cX10_count 2 (some .int) 1 := ⟨tw_893, tw_71, ⟨by decide +kernel, by decide +kernel, by decide +kernel⟩, by decide +kernel⟩
theorem yn_yX10_mix : YN yX10_mix cX10_mix 4 (some .long) 2 := ⟨tw_908, tw_71, ⟨by decide +kernel, by decide +kernel, by decide +kernel⟩, by decide +kernel⟩
theorem yn_yX10_mixName : YN yX10_mixName cX10_mixName 6 (some .long) 2 := ⟨tw_915, tw_71, ⟨by decide +kernel, by decide +kernel, by decide +kernel⟩, by decide +kernel⟩
theorem yn_yX10_mixRow : YN yX10_mixRow cX10_mixRow 6 (some .long) 1 := ⟨tw_925, tw_71, ⟨by decide +kernel, by decide +kernel, by decide +kernel⟩, by decide +kernel⟩
theorem yn_yX10_mixWorth : YN yX10_mixWorth cX10_mixWorth 6 (some .long) 1 := ⟨tw_934, tw_71, ⟨by decide +kernel, by decide +kernel, by decide +kernel⟩, by decide +kernel⟩
theorem yn_yX10_digest : YN yX10_digest cX10_digest 4 (some .long) 0 := ⟨tw_903, tw_71, ⟨by decide +kernel, by decide +kernel, by decide +kernel⟩, by decide +kernel⟩
theorem yn_yX11_in : YN yX11_in cX11_in 6 (some .boolean) 3 := ⟨tw_1032, tw_83, ⟨by decide +kernel, by decide +kernel, by decide +kernel⟩, by decide +kernel⟩
theorem yn_yX11_no : YN yX11_no cX11_no 1 (some .long) 1 := ⟨tw_1188, tw_83, ⟨by decide +kernel, by decide +kernel, by decide +kernel⟩, by decide +kernel⟩
theorem yn_yX11_isTwo : YN yX11_isTwo cX11_isTwo 1 (some .boolean) 1 := ⟨tw_1181, tw_83, ⟨by decide +kernel, by decide +kernel, by decide +kernel⟩, by decide +kernel⟩
theorem yn_yX11_isIn : YN yX11_isIn cX11_isIn 2 (some .boolean) 2 := ⟨tw_1170, tw_83, ⟨by decide +kernel, by decide +kernel, by decide +kernel⟩, by decide +kernel⟩
theorem yn_yX11_ones : YN yX11_ones cX11_ones 3 (some .int) 1 := ⟨tw_1301, tw_83, ⟨by decide +kernel, by decide +kernel, by decide +kernel⟩, by decide +kernel⟩
theorem yn_yX11_met : YN yX11_met cX11_met 2 (some .int) 1 := ⟨tw_1037, tw_83, ⟨by decide +kernel, by decide +kernel, by decide +kernel⟩, by decide +kernel⟩
theorem yn_yX11_isSheet : YN yX11_isSheet cX11_isSheet 1 (some .boolean) 1 := ⟨tw_1028, tw_83, ⟨by decide +kernel, by decide +kernel, by decide +kernel⟩, by decide +kernel⟩
theorem yn_yX11_sheet : YN yX11_sheet cX11_sheet 5 (some .int) 3 := ⟨tw_1025, tw_83, ⟨by decide +kernel, by decide +kernel, by decide +kernel⟩, by decide +kernel⟩
theorem yn_yX11_lose : YN yX11_lose cX11_lose 2 (some .int) 1 := ⟨tw_1041, tw_83, ⟨by decide +kernel, by decide +kernel, by decide +kernel⟩, by decide +kernel⟩
theorem yn_yX11_lacks : YN yX11_lacks cX11_lacks 4 (some .int) 3 := ⟨tw_1049, tw_83, ⟨by decide +kernel, by decide +kernel, by decide +kernel⟩, by decide +kernel⟩
theorem yn_yX11_cut : YN yX11_cut cX11_cut 2 (some .int) 2 := ⟨tw_1052, tw_83, ⟨by decide +kernel, by decide +kernel, by decide +kernel⟩, by decide +kernel⟩
theorem yn_yX11_lay : YN yX11_lay cX11_lay 6 (some .int) 4 := ⟨tw_1045, tw_83, ⟨by decide +kernel, by decide +kernel, by decide +kernel⟩, by decide +kernel⟩
theorem yn_yX11_get : YN yX11_get cX11_get 4 (some .int) 3 := ⟨tw_1056, tw_83, ⟨by decide +kernel, by decide +kernel, by decide +kernel⟩, by decide +kernel⟩
theorem yn_yX11_copy : YN yX11_copy cX11_copy 7 (some .int) 5 := ⟨tw_1061, tw_83, ⟨by decide +kernel, by decide +kernel, by decide +kernel⟩, by decide +kernel⟩
theorem yn_yX11_isText : YN yX11_isText cX11_isText 1 (some .boolean) 1 := ⟨tw_1068, tw_83, ⟨by decide +kernel, by decide +kernel, by decide +kernel⟩, by decide +kernel⟩
theorem yn_yX11_room : YN yX11_room cX11_room 1 (some .int) 1 := ⟨tw_1072, tw_83, ⟨by decide +kernel, by decide +kernel, by decide +kernel⟩, by decide +kernel⟩
theorem yn_yX11_type : YN yX11_type cX11_type 3 (some .int) 2 := ⟨tw_1065, tw_83, ⟨by decide +kernel, by decide +kernel, by decide +kernel⟩, by decide +kernel⟩
theorem yn_yX11_wipe : YN yX11_wipe cX11_wipe 3 (some .int) 1 := ⟨tw_1076, tw_83, ⟨by decide +kernel, by decide +kernel, by decide +kernel⟩, by decide +kernel⟩
theorem yn_yX11_undo : YN yX11_undo cX11_undo 2 (some .int) 1 := ⟨tw_1080, tw_83, ⟨by decide +kernel, by decide +kernel, by decide +kernel⟩, by decide +kernel⟩
theorem yn_yX11_here : YN yX11_here cX11_here 2 (some .int) 1 := ⟨tw_1096, tw_83, ⟨by decide +kernel, by decide +kernel, by decide +kernel⟩, by decide +kernel⟩
theorem yn_yX11_letter : YN yX11_letter cX11_letter 3 (some .int) 1 := ⟨tw_1101, tw_83, ⟨by decide +kernel, by decide +kernel, by decide +kernel⟩, by decide +kernel⟩
theorem yn_yX11_readsName : YN yX11_readsName cX11_readsName 3 (some .boolean) 0 := ⟨tw_1092, tw_83, ⟨by decide +kernel, by decide +kernel, by decide +kernel⟩, by decide +kernel⟩
theorem yn_yX11_readsNames : YN yX11_readsNames cX11_readsNames 3 (some .int) 0 := ⟨tw_1088, tw_83, ⟨by decide +kernel, by decide +kernel, by decide +kernel⟩, by decide +kernel⟩
theorem yn_yX11_readsPiece : YN yX11_readsPiece cX11_readsPiece 2 (some .boolean) 0 := ⟨tw_1110, tw_83, ⟨by decide +kernel, by decide +kernel, by decide +kernel⟩, by decide +kernel⟩
theorem yn_yX11_readsPieces : YN yX11_readsPieces cX11_readsPieces 3 (some .int) 0 := ⟨tw_1106, tw_83, ⟨by decide +kernel, by decide +kernel, by decide +kernel⟩, by decide +kernel⟩
theorem yn_yX11_readsSong : YN yX11_readsSong cX11_readsSong 1 (some .int) 0 := ⟨tw_1114, tw_83, ⟨by decide +kernel, by decide +kernel, by decide +kernel⟩, by decide +kernel⟩
theorem yn_yX11_reads : YN yX11_reads cX11_reads 1 none 0 := ⟨tw_1122, tw_83, ⟨by decide +kernel, by decide +kernel, by decide +kernel⟩, by decide +kernel⟩
theorem yn_yX11_fault : YN yX11_fault cX11_fault 2 (some .int) 1 := ⟨tw_1084, tw_83, ⟨by decide +kernel, by decide +kernel, by decide +kernel⟩, by decide +kernel⟩
theorem yn_yX11_isName : YN yX11_isName cX11_isName 2 (some .boolean) 1 := ⟨tw_1126, tw_83, ⟨by decide +kernel, by decide +kernel, by decide +kernel⟩, by decide +kernel⟩
theorem yn_yX11_nameOf : YN yX11_nameOf cX11_nameOf 3 (some .int) 2 := ⟨tw_1131, tw_83, ⟨by decide +kernel, by decide +kernel, by decide +kernel⟩, by decide +kernel⟩
theorem yn_yX11_name : YN yX11_name cX11_name 3 (some .int) 2 := ⟨tw_1118, tw_83, ⟨by decide +kernel, by decide +kernel, by decide +kernel⟩, by decide +kernel⟩
theorem yn_yX11_most : YN yX11_most cX11_most 1 (some .int) 1 := ⟨tw_1139, tw_83, ⟨by decide +kernel, by decide +kernel, by decide +kernel⟩, by decide +kernel⟩
theorem yn_yX11_set : YN yX11_set cX11_set 4 (some .int) 2 := ⟨tw_1135, tw_83, ⟨by decide +kernel, by decide +kernel, by decide +kernel⟩, by decide +kernel⟩
theorem yn_yX11_guess : YN yX11_guess cX11_guess 2 (some .int) 1 := ⟨tw_1143, tw_83, ⟨by decide +kernel, by decide +kernel, by decide +kernel⟩, by decide +kernel⟩
theorem yn_yX11_unguess : YN yX11_unguess cX11_unguess 1 (some .int) 0 := ⟨tw_1147, tw_83, ⟨by decide +kernel, by decide +kernel, by decide +kernel⟩, by decide +kernel⟩
theorem yn_yX11_read : YN yX11_read cX11_read 2 (some .int) 1 := ⟨tw_1151, tw_83, ⟨by decide +kernel, by decide +kernel, by decide +kernel⟩, by decide +kernel⟩
theorem yn_yX11_isHeard : YN yX11_isHeard cX11_isHeard 7 (some .boolean) 2 := ⟨tw_1174, tw_83, ⟨by decide +kernel, by decide +kernel, by decide +kernel⟩, by decide +kernel⟩
theorem yn_yX11_isSung : YN yX11_isSung cX11_isSung 4 (some .boolean) 1 := ⟨tw_1167, tw_83, ⟨by decide +kernel, by decide +kernel, by decide +kernel⟩, by decide +kernel⟩
theorem yn_yX11_fitsBy : YN yX11_fitsBy cX11_fitsBy 6 (some .int) 1 := ⟨tw_1163, tw_83, ⟨by decide +kernel, by decide +kernel, by decide +kernel⟩, by decide +kernel⟩
theorem yn_yX11_fitsNow : YN yX11_fitsNow cX11_fitsNow 1 (some .int) 0 := ⟨tw_1159, tw_83, ⟨by decide +kernel, by decide +kernel, by decide +kernel⟩, by decide +kernel⟩
theorem yn_yX11_fits : YN yX11_fits cX11_fits 1 (some .int) 0 := ⟨tw_1155, tw_83, ⟨by decide +kernel, by decide +kernel, by decide +kernel⟩, by decide +kernel⟩
theorem yn_yX11_weight : YN yX11_weight cX11_weight 4 (some .int) 1 := ⟨tw_1193, tw_83, ⟨by decide +kernel, by decide +kernel, by decide +kernel⟩, by decide +kernel⟩
theorem yn_yX11_part : YN yX11_part cX11_part 11 (some .long) 3 := ⟨tw_1196, tw_83, ⟨by decide +kernel, by decide +kernel, by decide +kernel⟩, by decide +kernel⟩
theorem yn_yX11_chanceOf : YN yX11_chanceOf cX11_chanceOf 4 (some .long) 2 := ⟨tw_1185, tw_83, ⟨by decide +kernel, by decide +kernel, by decide +kernel⟩, by decide +kernel⟩
theorem yn_yX11_chance : YN yX11_chance cX11_chance 3 (some .long) 2 := ⟨tw_1178, tw_83, ⟨by decide +kernel, by decide +kernel, by decide +kernel⟩, by decide +kernel⟩
theorem yn_yX11_heardOf : YN yX11_heardOf cX11_heardOf 4 (some .int) 1 := ⟨tw_1204, tw_83, ⟨by decide +kernel, by decide +kernel, by decide +kernel⟩, by decide +kernel⟩
theorem yn_yX11_heard : YN yX11_heard cX11_heard 2 (some .int) 1 := ⟨tw_1200, tw_83, ⟨by decide +kernel, by decide +kernel, by decide +kernel⟩, by decide +kernel⟩
theorem yn_yX11_offOf : YN yX11_offOf cX11_offOf 6 (some .int) 1 := ⟨tw_1212, tw_83, ⟨by decide +kernel, by decide +kernel, by decide +kernel⟩, by decide +kernel⟩
theorem yn_yX11_off : YN yX11_off cX11_off 2 (some .int) 1 := ⟨tw_1208, tw_83, ⟨by decide +kernel, by decide +kernel, by decide +kernel⟩, by decide +kernel⟩
theorem yn_yX11_promise : YN yX11_promise cX11_promise 2 (some .long) 1 := ⟨tw_1224, tw_83, ⟨by decide +kernel, by decide +kernel, by decide +kernel⟩, by decide +kernel⟩
theorem yn_yX11_ruin : YN yX11_ruin cX11_ruin 1 (some .int) 0 := ⟨tw_1228, tw_83, ⟨by decide +kernel, by decide +kernel, by decide +kernel⟩, by decide +kernel⟩
theorem yn_yX11_namedOf : YN yX11_namedOf cX11_namedOf 4 (some .int) 2 := ⟨tw_1220, tw_83, ⟨by decide +kernel, by decide +kernel, by decide +kernel⟩, by decide +kernel⟩
theorem yn_yX11_named : YN yX11_named cX11_named 3 (some .int) 2 := ⟨tw_1216, tw_83, ⟨by decide +kernel, by decide +kernel, by decide +kernel⟩, by decide +kernel⟩
theorem yn_yX11_findRow : YN yX11_findRow cX11_findRow 5 (some .int) 0 := ⟨tw_1240, tw_83, ⟨by decide +kernel, by decide +kernel, by decide +kernel⟩, by decide +kernel⟩
theorem yn_yX11_rowOf : YN yX11_rowOf cX11_rowOf 2 (some .int) 1 := ⟨tw_1236, tw_83, ⟨by decide +kernel, by decide +kernel, by decide +kernel⟩, by decide +kernel⟩
theorem yn_yX11_row : YN yX11_row cX11_row 2 (some .int) 1 := ⟨tw_1232, tw_83, ⟨by decide +kernel, by decide +kernel, by decide +kernel⟩, by decide +kernel⟩
theorem yn_yX11_meanOf : YN yX11_meanOf cX11_meanOf 9 (some .long) 1 := ⟨tw_1248, tw_83, ⟨by decide +kernel, by decide +kernel, by decide +kernel⟩, by decide +kernel⟩
theorem yn_yX11_mean : YN yX11_mean cX11_mean 2 (some .long) 1 := ⟨tw_1244, tw_83, ⟨by decide +kernel, by decide +kernel, by decide +kernel⟩, by decide +kernel⟩
theorem yn_yX11_letterAt : YN yX11_letterAt cX11_letterAt 3 (some .int) 2 := ⟨tw_1282, tw_83, ⟨by decide +kernel, by decide +kernel, by decide +kernel⟩, by decide +kernel⟩
theorem yn_yX11_withLetter : YN yX11_withLetter cX11_withLetter 6 (some .int) 3 := ⟨tw_1278, tw_83, ⟨by decide +kernel, by decide +kernel, by decide +kernel⟩, by decide +kernel⟩
theorem yn_yX11_guessed : YN yX11_guessed cX11_guessed 5 (some .long) 3 := ⟨tw_1270, tw_83, ⟨by decide +kernel, by decide +kernel, by decide +kernel⟩, by decide +kernel⟩
theorem yn_yX11_listened : YN yX11_listened cX11_listened 7 (some .long) 3 := ⟨tw_1274, tw_83, ⟨by decide +kernel, by decide +kernel, by decide +kernel⟩, by decide +kernel⟩
theorem yn_yX11_findBest : YN yX11_findBest cX11_findBest 8 none 2 := ⟨tw_1265, tw_83, ⟨by decide +kernel, by decide +kernel, by decide +kernel⟩, by decide +kernel⟩
theorem yn_yX11_findWisest : YN yX11_findWisest cX11_findWisest 5 none 2 := ⟨tw_1261, tw_83, ⟨by decide +kernel, by decide +kernel, by decide +kernel⟩, by decide +kernel⟩
theorem yn_yX11_tellsWisest : YN yX11_tellsWisest cX11_tellsWisest 4 (some .long) 3 := ⟨tw_1286, tw_83, ⟨by decide +kernel, by decide +kernel, by decide +kernel⟩, by decide +kernel⟩
theorem yn_yX11_wisestOf : YN yX11_wisestOf cX11_wisestOf 5 (some .long) 3 := ⟨tw_1257, tw_83, ⟨by decide +kernel, by decide +kernel, by decide +kernel⟩, by decide +kernel⟩
theorem yn_yX11_wisest : YN yX11_wisest cX11_wisest 4 (some .long) 3 := ⟨tw_1252, tw_83, ⟨by decide +kernel, by decide +kernel, by decide +kernel⟩, by decide +kernel⟩
theorem yn_yX11_worstAt : YN yX11_worstAt cX11_worstAt 6 (some .int) 2 := ⟨tw_1298, tw_83, ⟨by decide +kernel, by decide +kernel, by decide +kernel⟩, by decide +kernel⟩
theorem yn_yX11_listenOf : YN yX11_listenOf cX11_listenOf 5 (some .int) 1 := ⟨tw_1294, tw_83, ⟨by decide +kernel, by decide +kernel, by decide +kernel⟩, by decide +kernel⟩
theorem yn_yX11_listen : YN yX11_listen cX11_listen 2 (some .int) 1 := ⟨tw_1290, tw_83, ⟨by decide +kernel, by decide +kernel, by decide +kernel⟩, by decide +kernel⟩
theorem yn_yX11_sureOf : YN yX11_sureOf cX11_sureOf 8 (some .int) 1 := ⟨tw_1313, tw_83, ⟨by decide +kernel, by decide +kernel, by decide +kernel⟩, by decide +kernel⟩
theorem yn_yX11_sureNow : YN yX11_sureNow cX11_sureNow 3 (some .int) 0 := ⟨tw_1309, tw_83, ⟨by decide +kernel, by decide +kernel, by decide +kernel⟩, by decide +kernel⟩
theorem yn_yX11_sure : YN yX11_sure cX11_sure 1 (some .int) 0 := ⟨tw_1305, tw_83, ⟨by decide +kernel, by decide +kernel, by decide +kernel⟩, by decide +kernel⟩
theorem yn_yX11_spunBy : YN yX11_spunBy cX11_spunBy 3 (some .int) 2 := ⟨tw_1326, tw_83, ⟨by decide +kernel, by decide +kernel, by decide +kernel⟩, by decide +kernel⟩
theorem yn_yX11_spunOf : YN yX11_spunOf cX11_spunOf 3 (some .int) 1 := ⟨tw_1322, tw_83, ⟨by decide +kernel, by decide +kernel, by decide +kernel⟩, by decide +kernel⟩
theorem yn_yX11_spun : YN yX11_spun cX11_spun 2 (some .int) 1 := ⟨tw_1317, tw_83, ⟨by decide +kernel, by decide +kernel, by decide +kernel⟩, by decide +kernel⟩
theorem yn_yX11_poolOf : YN yX11_poolOf cX11_poolOf 4 (some .int) 3 := ⟨tw_1335, tw_83, ⟨by decide +kernel, by decide +kernel, by decide +kernel⟩, by decide +kernel⟩
theorem yn_yX11_pool : YN yX11_pool cX11_pool 4 (some .int) 3 := ⟨tw_1330, tw_83, ⟨by decide +kernel, by decide +kernel, by decide +kernel⟩, by decide +kernel⟩
theorem yn_yX11_shortestOf : YN yX11_shortestOf cX11_shortestOf 6 (some .int) 1 := ⟨tw_1343, tw_83, ⟨by decide +kernel, by decide +kernel, by decide +kernel⟩, by decide +kernel⟩
theorem yn_yX11_shortest : YN yX11_shortest cX11_shortest 2 (some .int) 1 := ⟨tw_1339, tw_83, ⟨by decide +kernel, by decide +kernel, by decide +kernel⟩, by decide +kernel⟩
theorem yn_yX11_sungOf : YN yX11_sungOf cX11_sungOf 7 (some .int) 2 := ⟨tw_1351, tw_83, ⟨by decide +kernel, by decide +kernel, by decide +kernel⟩, by decide +kernel⟩
theorem yn_yX11_sung : YN yX11_sung cX11_sung 3 (some .int) 2 := ⟨tw_1347, tw_83, ⟨by decide +kernel, by decide +kernel, by decide +kernel⟩, by decide +kernel⟩
theorem yn_yX11_changesOf : YN yX11_changesOf cX11_changesOf 7 (some .int) 2 := ⟨tw_1359, tw_83, ⟨by decide +kernel, by decide +kernel, by decide +kernel⟩, by decide +kernel⟩
theorem yn_yX11_changes : YN yX11_changes cX11_changes 3 (some .int) 2 := ⟨tw_1355, tw_83, ⟨by decide +kernel, by decide +kernel, by decide +kernel⟩, by decide +kernel⟩
theorem yn_yX11_write : YN yX11_write cX11_write 5 (some .int) 1 := ⟨tw_1363, tw_83, ⟨by decide +kernel, by decide +kernel, by decide +kernel⟩, by decide +kernel⟩
theorem yn_yX11_count : YN yX11_count cX11_count 2 (some .int) 1 := ⟨tw_1367, tw_83, ⟨by decide +kernel, by decide +kernel, by decide +kernel⟩, by decide +kernel⟩
theorem yn_yX11_digest : YN yX11_digest cX11_digest 6 (some .long) 0 := ⟨tw_1371, tw_83, ⟨by decide +kernel, by decide +kernel, by decide +kernel⟩, by decide +kernel⟩
