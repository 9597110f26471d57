-- binds of tuples
def zb1 {α0 β : Type} (x : Option (α0)) (f : α0 → Option β) : Option β := match x with
  | none => none
  | some x0 => f x0
theorem zbind1 {α0 β : Type} {x : Option (α0)} {f : α0 → Option β} {r : β} (h : zb1 x f = some r) : ∃ x0, x = some x0 ∧ f x0 = some r := by
  match x, h with
  | some x0, h => exact ⟨x0, rfl, h⟩
theorem zb1_some {α0 β : Type} {f : α0 → Option β} (x0 : α0) : zb1 (some x0) f = f x0 := rfl
def zcu1 {α0 β : Type} (f : α0 → β) (p : α0) : β := f p
def zb2 {α0 α1 β : Type} (x : Option (α0 × α1)) (f : α0 → α1 → Option β) : Option β := match x with
  | none => none
  | some (x0, x1) => f x0 x1
theorem zbind2 {α0 α1 β : Type} {x : Option (α0 × α1)} {f : α0 → α1 → Option β} {r : β} (h : zb2 x f = some r) : ∃ x0 x1, x = some (x0, x1) ∧ f x0 x1 = some r := by
  match x, h with
  | some (x0, x1), h => exact ⟨x0, x1, rfl, h⟩
theorem zb2_some {α0 α1 β : Type} {f : α0 → α1 → Option β} (x0 : α0) (x1 : α1) : zb2 (some (x0, x1)) f = f x0 x1 := rfl
def zcu2 {α0 α1 β : Type} (f : α0 → α1 → β) (p : α0 × α1) : β := f p.1 p.2
def zb3 {α0 α1 α2 β : Type} (x : Option (α0 × α1 × α2)) (f : α0 → α1 → α2 → Option β) : Option β := match x with
  | none => none
  | some (x0, x1, x2) => f x0 x1 x2
theorem zbind3 {α0 α1 α2 β : Type} {x : Option (α0 × α1 × α2)} {f : α0 → α1 → α2 → Option β} {r : β} (h : zb3 x f = some r) : ∃ x0 x1 x2, x = some (x0, x1, x2) ∧ f x0 x1 x2 = some r := by
  match x, h with
  | some (x0, x1, x2), h => exact ⟨x0, x1, x2, rfl, h⟩
theorem zb3_some {α0 α1 α2 β : Type} {f : α0 → α1 → α2 → Option β} (x0 : α0) (x1 : α1) (x2 : α2) : zb3 (some (x0, x1, x2)) f = f x0 x1 x2 := rfl
def zcu3 {α0 α1 α2 β : Type} (f : α0 → α1 → α2 → β) (p : α0 × α1 × α2) : β := f p.1 p.2.1 p.2.2
def zb4 {α0 α1 α2 α3 β : Type} (x : Option (α0 × α1 × α2 × α3)) (f : α0 → α1 → α2 → α3 → Option β) : Option β := match x with
  | none => none
  | some (x0, x1, x2, x3) => f x0 x1 x2 x3
theorem zbind4 {α0 α1 α2 α3 β : Type} {x : Option (α0 × α1 × α2 × α3)} {f : α0 → α1 → α2 → α3 → Option β} {r : β} (h : zb4 x f = some r) : ∃ x0 x1 x2 x3, x = some (x0, x1, x2, x3) ∧ f x0 x1 x2 x3 = some r := by
  match x, h with
  | some (x0, x1, x2, x3), h => exact ⟨x0, x1, x2, x3, rfl, h⟩
theorem zb4_some {α0 α1 α2 α3 β : Type} {f : α0 → α1 → α2 → α3 → Option β} (x0 : α0) (x1 : α1) (x2 : α2) (x3 : α3) : zb4 (some (x0, x1, x2, x3)) f = f x0 x1 x2 x3 := rfl
def zcu4 {α0 α1 α2 α3 β : Type} (f : α0 → α1 → α2 → α3 → β) (p : α0 × α1 × α2 × α3) : β := f p.1 p.2.1 p.2.2.1 p.2.2.2
def zb5 {α0 α1 α2 α3 α4 β : Type} (x : Option (α0 × α1 × α2 × α3 × α4)) (f : α0 → α1 → α2 → α3 → α4 → Option β) : Option β := match x with
  | none => none
  | some (x0, x1, x2, x3, x4) => f x0 x1 x2 x3 x4
theorem zbind5 {α0 α1 α2 α3 α4 β : Type} {x : Option (α0 × α1 × α2 × α3 × α4)} {f : α0 → α1 → α2 → α3 → α4 → Option β} {r : β} (h : zb5 x f = some r) : ∃ x0 x1 x2 x3 x4, x = some (x0, x1, x2, x3, x4) ∧ f x0 x1 x2 x3 x4 = some r := by
  match x, h with
  | some (x0, x1, x2, x3, x4), h => exact ⟨x0, x1, x2, x3, x4, rfl, h⟩
theorem zb5_some {α0 α1 α2 α3 α4 β : Type} {f : α0 → α1 → α2 → α3 → α4 → Option β} (x0 : α0) (x1 : α1) (x2 : α2) (x3 : α3) (x4 : α4) : zb5 (some (x0, x1, x2, x3, x4)) f = f x0 x1 x2 x3 x4 := rfl
def zcu5 {α0 α1 α2 α3 α4 β : Type} (f : α0 → α1 → α2 → α3 → α4 → β) (p : α0 × α1 × α2 × α3 × α4) : β := f p.1 p.2.1 p.2.2.1 p.2.2.2.1 p.2.2.2.2
def zb6 {α0 α1 α2 α3 α4 α5 β : Type} (x : Option (α0 × α1 × α2 × α3 × α4 × α5)) (f : α0 → α1 → α2 → α3 → α4 → α5 → Option β) : Option β := match x with
  | none => none
  | some (x0, x1, x2, x3, x4, x5) => f x0 x1 x2 x3 x4 x5
theorem zbind6 {α0 α1 α2 α3 α4 α5 β : Type} {x : Option (α0 × α1 × α2 × α3 × α4 × α5)} {f : α0 → α1 → α2 → α3 → α4 → α5 → Option β} {r : β} (h : zb6 x f = some r) : ∃ x0 x1 x2 x3 x4 x5, x = some (x0, x1, x2, x3, x4, x5) ∧ f x0 x1 x2 x3 x4 x5 = some r := by
  match x, h with
  | some (x0, x1, x2, x3, x4, x5), h => exact ⟨x0, x1, x2, x3, x4, x5, rfl, h⟩
theorem zb6_some {α0 α1 α2 α3 α4 α5 β : Type} {f : α0 → α1 → α2 → α3 → α4 → α5 → Option β} (x0 : α0) (x1 : α1) (x2 : α2) (x3 : α3) (x4 : α4) (x5 : α5) : zb6 (some (x0, x1, x2, x3, x4, x5)) f = f x0 x1 x2 x3 x4 x5 := rfl
def zcu6 {α0 α1 α2 α3 α4 α5 β : Type} (f : α0 → α1 → α2 → α3 → α4 → α5 → β) (p : α0 × α1 × α2 × α3 × α4 × α5) : β := f p.1 p.2.1 p.2.2.1 p.2.2.2.1 p.2.2.2.2.1 p.2.2.2.2.2
def zb7 {α0 α1 α2 α3 α4 α5 α6 β : Type} (x : Option (α0 × α1 × α2 × α3 × α4 × α5 × α6)) (f : α0 → α1 → α2 → α3 → α4 → α5 → α6 → Option β) : Option β := match x with
  | none => none
  | some (x0, x1, x2, x3, x4, x5, x6) => f x0 x1 x2 x3 x4 x5 x6
theorem zbind7 {α0 α1 α2 α3 α4 α5 α6 β : Type} {x : Option (α0 × α1 × α2 × α3 × α4 × α5 × α6)} {f : α0 → α1 → α2 → α3 → α4 → α5 → α6 → Option β} {r : β} (h : zb7 x f = some r) : ∃ x0 x1 x2 x3 x4 x5 x6, x = some (x0, x1, x2, x3, x4, x5, x6) ∧ f x0 x1 x2 x3 x4 x5 x6 = some r := by
  match x, h with
  | some (x0, x1, x2, x3, x4, x5, x6), h => exact ⟨x0, x1, x2, x3, x4, x5, x6, rfl, h⟩
theorem zb7_some {α0 α1 α2 α3 α4 α5 α6 β : Type} {f : α0 → α1 → α2 → α3 → α4 → α5 → α6 → Option β} (x0 : α0) (x1 : α1) (x2 : α2) (x3 : α3) (x4 : α4) (x5 : α5) (x6 : α6) : zb7 (some (x0, x1, x2, x3, x4, x5, x6)) f = f x0 x1 x2 x3 x4 x5 x6 := rfl
def zcu7 {α0 α1 α2 α3 α4 α5 α6 β : Type} (f : α0 → α1 → α2 → α3 → α4 → α5 → α6 → β) (p : α0 × α1 × α2 × α3 × α4 × α5 × α6) : β := f p.1 p.2.1 p.2.2.1 p.2.2.2.1 p.2.2.2.2.1 p.2.2.2.2.2.1 p.2.2.2.2.2.2
def zb8 {α0 α1 α2 α3 α4 α5 α6 α7 β : Type} (x : Option (α0 × α1 × α2 × α3 × α4 × α5 × α6 × α7)) (f : α0 → α1 → α2 → α3 → α4 → α5 → α6 → α7 → Option β) : Option β := match x with
  | none => none
  | some (x0, x1, x2, x3, x4, x5, x6, x7) => f x0 x1 x2 x3 x4 x5 x6 x7
theorem zbind8 {α0 α1 α2 α3 α4 α5 α6 α7 β : Type} {x : Option (α0 × α1 × α2 × α3 × α4 × α5 × α6 × α7)} {f : α0 → α1 → α2 → α3 → α4 → α5 → α6 → α7 → Option β} {r : β} (h : zb8 x f = some r) : ∃ x0 x1 x2 x3 x4 x5 x6 x7, x = some (x0, x1, x2, x3, x4, x5, x6, x7) ∧ f x0 x1 x2 x3 x4 x5 x6 x7 = some r := by
  match x, h with
  | some (x0, x1, x2, x3, x4, x5, x6, x7), h => exact ⟨x0, x1, x2, x3, x4, x5, x6, x7, rfl, h⟩
theorem zb8_some {α0 α1 α2 α3 α4 α5 α6 α7 β : Type} {f : α0 → α1 → α2 → α3 → α4 → α5 → α6 → α7 → Option β} (x0 : α0) (x1 : α1) (x2 : α2) (x3 : α3) (x4 : α4) (x5 : α5) (x6 : α6) (x7 : α7) : zb8 (some (x0, x1, x2, x3, x4, x5, x6, x7)) f = f x0 x1 x2 x3 x4 x5 x6 x7 := rfl
def zcu8 {α0 α1 α2 α3 α4 α5 α6 α7 β : Type} (f : α0 → α1 → α2 → α3 → α4 → α5 → α6 → α7 → β) (p : α0 × α1 × α2 × α3 × α4 × α5 × α6 × α7) : β := f p.1 p.2.1 p.2.2.1 p.2.2.2.1 p.2.2.2.2.1 p.2.2.2.2.2.1 p.2.2.2.2.2.2.1 p.2.2.2.2.2.2.2
def zb9 {α0 α1 α2 α3 α4 α5 α6 α7 α8 β : Type} (x : Option (α0 × α1 × α2 × α3 × α4 × α5 × α6 × α7 × α8)) (f : α0 → α1 → α2 → α3 → α4 → α5 → α6 → α7 → α8 → Option β) : Option β := match x with
  | none => none
  | some (x0, x1, x2, x3, x4, x5, x6, x7, x8) => f x0 x1 x2 x3 x4 x5 x6 x7 x8
theorem zbind9 {α0 α1 α2 α3 α4 α5 α6 α7 α8 β : Type} {x : Option (α0 × α1 × α2 × α3 × α4 × α5 × α6 × α7 × α8)} {f : α0 → α1 → α2 → α3 → α4 → α5 → α6 → α7 → α8 → Option β} {r : β} (h : zb9 x f = some r) : ∃ x0 x1 x2 x3 x4 x5 x6 x7 x8, x = some (x0, x1, x2, x3, x4, x5, x6, x7, x8) ∧ f x0 x1 x2 x3 x4 x5 x6 x7 x8 = some r := by
  match x, h with
  | some (x0, x1, x2, x3, x4, x5, x6, x7, x8), h => exact ⟨x0, x1, x2, x3, x4, x5, x6, x7, x8, rfl, h⟩
theorem zb9_some {α0 α1 α2 α3 α4 α5 α6 α7 α8 β : Type} {f : α0 → α1 → α2 → α3 → α4 → α5 → α6 → α7 → α8 → Option β} (x0 : α0) (x1 : α1) (x2 : α2) (x3 : α3) (x4 : α4) (x5 : α5) (x6 : α6) (x7 : α7) (x8 : α8) : zb9 (some (x0, x1, x2, x3, x4, x5, x6, x7, x8)) f = f x0 x1 x2 x3 x4 x5 x6 x7 x8 := rfl
def zcu9 {α0 α1 α2 α3 α4 α5 α6 α7 α8 β : Type} (f : α0 → α1 → α2 → α3 → α4 → α5 → α6 → α7 → α8 → β) (p : α0 × α1 × α2 × α3 × α4 × α5 × α6 × α7 × α8) : β := f p.1 p.2.1 p.2.2.1 p.2.2.2.1 p.2.2.2.2.1 p.2.2.2.2.2.1 p.2.2.2.2.2.2.1 p.2.2.2.2.2.2.2.1 p.2.2.2.2.2.2.2.2
def zb10 {α0 α1 α2 α3 α4 α5 α6 α7 α8 α9 β : Type} (x : Option (α0 × α1 × α2 × α3 × α4 × α5 × α6 × α7 × α8 × α9)) (f : α0 → α1 → α2 → α3 → α4 → α5 → α6 → α7 → α8 → α9 → Option β) : Option β := match x with
  | none => none
  | some (x0, x1, x2, x3, x4, x5, x6, x7, x8, x9) => f x0 x1 x2 x3 x4 x5 x6 x7 x8 x9
theorem zbind10 {α0 α1 α2 α3 α4 α5 α6 α7 α8 α9 β : Type} {x : Option (α0 × α1 × α2 × α3 × α4 × α5 × α6 × α7 × α8 × α9)} {f : α0 → α1 → α2 → α3 → α4 → α5 → α6 → α7 → α8 → α9 → Option β} {r : β} (h : zb10 x f = some r) : ∃ x0 x1 x2 x3 x4 x5 x6 x7 x8 x9, x = some (x0, x1, x2, x3, x4, x5, x6, x7, x8, x9) ∧ f x0 x1 x2 x3 x4 x5 x6 x7 x8 x9 = some r := by
  match x, h with
  | some (x0, x1, x2, x3, x4, x5, x6, x7, x8, x9), h => exact ⟨x0, x1, x2, x3, x4, x5, x6, x7, x8, x9, rfl, h⟩
theorem zb10_some {α0 α1 α2 α3 α4 α5 α6 α7 α8 α9 β : Type} {f : α0 → α1 → α2 → α3 → α4 → α5 → α6 → α7 → α8 → α9 → Option β} (x0 : α0) (x1 : α1) (x2 : α2) (x3 : α3) (x4 : α4) (x5 : α5) (x6 : α6) (x7 : α7) (x8 : α8) (x9 : α9) : zb10 (some (x0, x1, x2, x3, x4, x5, x6, x7, x8, x9)) f = f x0 x1 x2 x3 x4 x5 x6 x7 x8 x9 := rfl
def zcu10 {α0 α1 α2 α3 α4 α5 α6 α7 α8 α9 β : Type} (f : α0 → α1 → α2 → α3 → α4 → α5 → α6 → α7 → α8 → α9 → β) (p : α0 × α1 × α2 × α3 × α4 × α5 × α6 × α7 × α8 × α9) : β := f p.1 p.2.1 p.2.2.1 p.2.2.2.1 p.2.2.2.2.1 p.2.2.2.2.2.1 p.2.2.2.2.2.2.1 p.2.2.2.2.2.2.2.1 p.2.2.2.2.2.2.2.2.1 p.2.2.2.2.2.2.2.2.2
def zb11 {α0 α1 α2 α3 α4 α5 α6 α7 α8 α9 α10 β : Type} (x : Option (α0 × α1 × α2 × α3 × α4 × α5 × α6 × α7 × α8 × α9 × α10)) (f : α0 → α1 → α2 → α3 → α4 → α5 → α6 → α7 → α8 → α9 → α10 → Option β) : Option β := match x with
  | none => none
  | some (x0, x1, x2, x3, x4, x5, x6, x7, x8, x9, x10) => f x0 x1 x2 x3 x4 x5 x6 x7 x8 x9 x10
theorem zbind11 {α0 α1 α2 α3 α4 α5 α6 α7 α8 α9 α10 β : Type} {x : Option (α0 × α1 × α2 × α3 × α4 × α5 × α6 × α7 × α8 × α9 × α10)} {f : α0 → α1 → α2 → α3 → α4 → α5 → α6 → α7 → α8 → α9 → α10 → Option β} {r : β} (h : zb11 x f = some r) : ∃ x0 x1 x2 x3 x4 x5 x6 x7 x8 x9 x10, x = some (x0, x1, x2, x3, x4, x5, x6, x7, x8, x9, x10) ∧ f x0 x1 x2 x3 x4 x5 x6 x7 x8 x9 x10 = some r := by
  match x, h with
  | some (x0, x1, x2, x3, x4, x5, x6, x7, x8, x9, x10), h => exact ⟨x0, x1, x2, x3, x4, x5, x6, x7, x8, x9, x10, rfl, h⟩
theorem zb11_some {α0 α1 α2 α3 α4 α5 α6 α7 α8 α9 α10 β : Type} {f : α0 → α1 → α2 → α3 → α4 → α5 → α6 → α7 → α8 → α9 → α10 → Option β} (x0 : α0) (x1 : α1) (x2 : α2) (x3 : α3) (x4 : α4) (x5 : α5) (x6 : α6) (x7 : α7) (x8 : α8) (x9 : α9) (x10 : α10) : zb11 (some (x0, x1, x2, x3, x4, x5, x6, x7, x8, x9, x10)) f = f x0 x1 x2 x3 x4 x5 x6 x7 x8 x9 x10 := rfl
def zcu11 {α0 α1 α2 α3 α4 α5 α6 α7 α8 α9 α10 β : Type} (f : α0 → α1 → α2 → α3 → α4 → α5 → α6 → α7 → α8 → α9 → α10 → β) (p : α0 × α1 × α2 × α3 × α4 × α5 × α6 × α7 × α8 × α9 × α10) : β := f p.1 p.2.1 p.2.2.1 p.2.2.2.1 p.2.2.2.2.1 p.2.2.2.2.2.1 p.2.2.2.2.2.2.1 p.2.2.2.2.2.2.2.1 p.2.2.2.2.2.2.2.2.1 p.2.2.2.2.2.2.2.2.2.1 p.2.2.2.2.2.2.2.2.2.2
def zsum2 {α β γ : Type} (w : α ⊕ β) (f : α → γ) (g : β → γ) : γ := match w with
  | .inl a => f a
  | .inr b => g b
def zsum3 {α β δ γ : Type} (w : α ⊕ (β ⊕ δ)) (f : α → γ) (g : β → γ) (k : δ → γ) : γ := match w with
  | .inl a => f a
  | .inr (.inl b) => g b
  | .inr (.inr b) => k b
theorem zs2_0_1 {α0 β γ : Type} {f : α0 → γ} {g : β → γ} {x0 : α0} {r : γ} (h : zsum2 (.inl x0) (zcu1 f) g = r) : f x0 = r := h
theorem zs2_1_1 {α0 β γ : Type} {f : α0 → γ} {g : β → γ} {x0 : α0} {r : γ} (h : zsum2 (.inr x0) g (zcu1 f) = r) : f x0 = r := h
theorem zs3_0_1 {α0 β δ γ : Type} {f : α0 → γ} {g : β → γ} {k : δ → γ} {x0 : α0} {r : γ} (h : zsum3 (.inl x0) (zcu1 f) g k = r) : f x0 = r := h
theorem zs3_1_1 {α0 β δ γ : Type} {f : α0 → γ} {g : β → γ} {k : δ → γ} {x0 : α0} {r : γ} (h : zsum3 (.inr (.inl x0)) g (zcu1 f) k = r) : f x0 = r := h
theorem zs3_2_1 {α0 β δ γ : Type} {f : α0 → γ} {g : β → γ} {k : δ → γ} {x0 : α0} {r : γ} (h : zsum3 (.inr (.inr x0)) g k (zcu1 f) = r) : f x0 = r := h
theorem zs2_0_2 {α0 α1 β γ : Type} {f : α0 → α1 → γ} {g : β → γ} {x0 : α0} {x1 : α1} {r : γ} (h : zsum2 (.inl (x0, x1)) (zcu2 f) g = r) : f x0 x1 = r := h
theorem zs2_1_2 {α0 α1 β γ : Type} {f : α0 → α1 → γ} {g : β → γ} {x0 : α0} {x1 : α1} {r : γ} (h : zsum2 (.inr (x0, x1)) g (zcu2 f) = r) : f x0 x1 = r := h
theorem zs3_0_2 {α0 α1 β δ γ : Type} {f : α0 → α1 → γ} {g : β → γ} {k : δ → γ} {x0 : α0} {x1 : α1} {r : γ} (h : zsum3 (.inl (x0, x1)) (zcu2 f) g k = r) : f x0 x1 = r := h
theorem zs3_1_2 {α0 α1 β δ γ : Type} {f : α0 → α1 → γ} {g : β → γ} {k : δ → γ} {x0 : α0} {x1 : α1} {r : γ} (h : zsum3 (.inr (.inl (x0, x1))) g (zcu2 f) k = r) : f x0 x1 = r := h
theorem zs3_2_2 {α0 α1 β δ γ : Type} {f : α0 → α1 → γ} {g : β → γ} {k : δ → γ} {x0 : α0} {x1 : α1} {r : γ} (h : zsum3 (.inr (.inr (x0, x1))) g k (zcu2 f) = r) : f x0 x1 = r := h
theorem zs2_0_3 {α0 α1 α2 β γ : Type} {f : α0 → α1 → α2 → γ} {g : β → γ} {x0 : α0} {x1 : α1} {x2 : α2} {r : γ} (h : zsum2 (.inl (x0, x1, x2)) (zcu3 f) g = r) : f x0 x1 x2 = r := h
theorem zs2_1_3 {α0 α1 α2 β γ : Type} {f : α0 → α1 → α2 → γ} {g : β → γ} {x0 : α0} {x1 : α1} {x2 : α2} {r : γ} (h : zsum2 (.inr (x0, x1, x2)) g (zcu3 f) = r) : f x0 x1 x2 = r := h
theorem zs3_0_3 {α0 α1 α2 β δ γ : Type} {f : α0 → α1 → α2 → γ} {g : β → γ} {k : δ → γ} {x0 : α0} {x1 : α1} {x2 : α2} {r : γ} (h : zsum3 (.inl (x0, x1, x2)) (zcu3 f) g k = r) : f x0 x1 x2 = r := h
theorem zs3_1_3 {α0 α1 α2 β δ γ : Type} {f : α0 → α1 → α2 → γ} {g : β → γ} {k : δ → γ} {x0 : α0} {x1 : α1} {x2 : α2} {r : γ} (h : zsum3 (.inr (.inl (x0, x1, x2))) g (zcu3 f) k = r) : f x0 x1 x2 = r := h
theorem zs3_2_3 {α0 α1 α2 β δ γ : Type} {f : α0 → α1 → α2 → γ} {g : β → γ} {k : δ → γ} {x0 : α0} {x1 : α1} {x2 : α2} {r : γ} (h : zsum3 (.inr (.inr (x0, x1, x2))) g k (zcu3 f) = r) : f x0 x1 x2 = r := h
theorem zs2_0_4 {α0 α1 α2 α3 β γ : Type} {f : α0 → α1 → α2 → α3 → γ} {g : β → γ} {x0 : α0} {x1 : α1} {x2 : α2} {x3 : α3} {r : γ} (h : zsum2 (.inl (x0, x1, x2, x3)) (zcu4 f) g = r) : f x0 x1 x2 x3 = r := h
theorem zs2_1_4 {α0 α1 α2 α3 β γ : Type} {f : α0 → α1 → α2 → α3 → γ} {g : β → γ} {x0 : α0} {x1 : α1} {x2 : α2} {x3 : α3} {r : γ} (h : zsum2 (.inr (x0, x1, x2, x3)) g (zcu4 f) = r) : f x0 x1 x2 x3 = r := h
theorem zs3_0_4 {α0 α1 α2 α3 β δ γ : Type} {f : α0 → α1 → α2 → α3 → γ} {g : β → γ} {k : δ → γ} {x0 : α0} {x1 : α1} {x2 : α2} {x3 : α3} {r : γ} (h : zsum3 (.inl (x0, x1, x2, x3)) (zcu4 f) g k = r) : f x0 x1 x2 x3 = r := h
theorem zs3_1_4 {α0 α1 α2 α3 β δ γ : Type} {f : α0 → α1 → α2 → α3 → γ} {g : β → γ} {k : δ → γ} {x0 : α0} {x1 : α1} {x2 : α2} {x3 : α3} {r : γ} (h : zsum3 (.inr (.inl (x0, x1, x2, x3))) g (zcu4 f) k = r) : f x0 x1 x2 x3 = r := h
theorem zs3_2_4 {α0 α1 α2 α3 β δ γ : Type} {f : α0 → α1 → α2 → α3 → γ} {g : β → γ} {k : δ → γ} {x0 : α0} {x1 : α1} {x2 : α2} {x3 : α3} {r : γ} (h : zsum3 (.inr (.inr (x0, x1, x2, x3))) g k (zcu4 f) = r) : f x0 x1 x2 x3 = r := h
theorem zs2_0_5 {α0 α1 α2 α3 α4 β γ : Type} {f : α0 → α1 → α2 → α3 → α4 → γ} {g : β → γ} {x0 : α0} {x1 : α1} {x2 : α2} {x3 : α3} {x4 : α4} {r : γ} (h : zsum2 (.inl (x0, x1, x2, x3, x4)) (zcu5 f) g = r) : f x0 x1 x2 x3 x4 = r := h
theorem zs2_1_5 {α0 α1 α2 α3 α4 β γ : Type} {f : α0 → α1 → α2 → α3 → α4 → γ} {g : β → γ} {x0 : α0} {x1 : α1} {x2 : α2} {x3 : α3} {x4 : α4} {r : γ} (h : zsum2 (.inr (x0, x1, x2, x3, x4)) g (zcu5 f) = r) : f x0 x1 x2 x3 x4 = r := h
theorem zs3_0_5 {α0 α1 α2 α3 α4 β δ γ : Type} {f : α0 → α1 → α2 → α3 → α4 → γ} {g : β → γ} {k : δ → γ} {x0 : α0} {x1 : α1} {x2 : α2} {x3 : α3} {x4 : α4} {r : γ} (h : zsum3 (.inl (x0, x1, x2, x3, x4)) (zcu5 f) g k = r) : f x0 x1 x2 x3 x4 = r := h
theorem zs3_1_5 {α0 α1 α2 α3 α4 β δ γ : Type} {f : α0 → α1 → α2 → α3 → α4 → γ} {g : β → γ} {k : δ → γ} {x0 : α0} {x1 : α1} {x2 : α2} {x3 : α3} {x4 : α4} {r : γ} (h : zsum3 (.inr (.inl (x0, x1, x2, x3, x4))) g (zcu5 f) k = r) : f x0 x1 x2 x3 x4 = r := h
theorem zs3_2_5 {α0 α1 α2 α3 α4 β δ γ : Type} {f : α0 → α1 → α2 → α3 → α4 → γ} {g : β → γ} {k : δ → γ} {x0 : α0} {x1 : α1} {x2 : α2} {x3 : α3} {x4 : α4} {r : γ} (h : zsum3 (.inr (.inr (x0, x1, x2, x3, x4))) g k (zcu5 f) = r) : f x0 x1 x2 x3 x4 = r := h
theorem zs2_0_6 {α0 α1 α2 α3 α4 α5 β γ : Type} {f : α0 → α1 → α2 → α3 → α4 → α5 → γ} {g : β → γ} {x0 : α0} {x1 : α1} {x2 : α2} {x3 : α3} {x4 : α4} {x5 : α5} {r : γ} (h : zsum2 (.inl (x0, x1, x2, x3, x4, x5)) (zcu6 f) g = r) : f x0 x1 x2 x3 x4 x5 = r := h
theorem zs2_1_6 {α0 α1 α2 α3 α4 α5 β γ : Type} {f : α0 → α1 → α2 → α3 → α4 → α5 → γ} {g : β → γ} {x0 : α0} {x1 : α1} {x2 : α2} {x3 : α3} {x4 : α4} {x5 : α5} {r : γ} (h : zsum2 (.inr (x0, x1, x2, x3, x4, x5)) g (zcu6 f) = r) : f x0 x1 x2 x3 x4 x5 = r := h
theorem zs3_0_6 {α0 α1 α2 α3 α4 α5 β δ γ : Type} {f : α0 → α1 → α2 → α3 → α4 → α5 → γ} {g : β → γ} {k : δ → γ} {x0 : α0} {x1 : α1} {x2 : α2} {x3 : α3} {x4 : α4} {x5 : α5} {r : γ} (h : zsum3 (.inl (x0, x1, x2, x3, x4, x5)) (zcu6 f) g k = r) : f x0 x1 x2 x3 x4 x5 = r := h
theorem zs3_1_6 {α0 α1 α2 α3 α4 α5 β δ γ : Type} {f : α0 → α1 → α2 → α3 → α4 → α5 → γ} {g : β → γ} {k : δ → γ} {x0 : α0} {x1 : α1} {x2 : α2} {x3 : α3} {x4 : α4} {x5 : α5} {r : γ} (h : zsum3 (.inr (.inl (x0, x1, x2, x3, x4, x5))) g (zcu6 f) k = r) : f x0 x1 x2 x3 x4 x5 = r := h
theorem zs3_2_6 {α0 α1 α2 α3 α4 α5 β δ γ : Type} {f : α0 → α1 → α2 → α3 → α4 → α5 → γ} {g : β → γ} {k : δ → γ} {x0 : α0} {x1 : α1} {x2 : α2} {x3 : α3} {x4 : α4} {x5 : α5} {r : γ} (h : zsum3 (.inr (.inr (x0, x1, x2, x3, x4, x5))) g k (zcu6 f) = r) : f x0 x1 x2 x3 x4 x5 = r := h
theorem zs2_0_7 {α0 α1 α2 α3 α4 α5 α6 β γ : Type} {f : α0 → α1 → α2 → α3 → α4 → α5 → α6 → γ} {g : β → γ} {x0 : α0} {x1 : α1} {x2 : α2} {x3 : α3} {x4 : α4} {x5 : α5} {x6 : α6} {r : γ} (h : zsum2 (.inl (x0, x1, x2, x3, x4, x5, x6)) (zcu7 f) g = r) : f x0 x1 x2 x3 x4 x5 x6 = r := h
theorem zs2_1_7 {α0 α1 α2 α3 α4 α5 α6 β γ : Type} {f : α0 → α1 → α2 → α3 → α4 → α5 → α6 → γ} {g : β → γ} {x0 : α0} {x1 : α1} {x2 : α2} {x3 : α3} {x4 : α4} {x5 : α5} {x6 : α6} {r : γ} (h : zsum2 (.inr (x0, x1, x2, x3, x4, x5, x6)) g (zcu7 f) = r) : f x0 x1 x2 x3 x4 x5 x6 = r := h
theorem zs3_0_7 {α0 α1 α2 α3 α4 α5 α6 β δ γ : Type} {f : α0 → α1 → α2 → α3 → α4 → α5 → α6 → γ} {g : β → γ} {k : δ → γ} {x0 : α0} {x1 : α1} {x2 : α2} {x3 : α3} {x4 : α4} {x5 : α5} {x6 : α6} {r : γ} (h : zsum3 (.inl (x0, x1, x2, x3, x4, x5, x6)) (zcu7 f) g k = r) : f x0 x1 x2 x3 x4 x5 x6 = r := h
theorem zs3_1_7 {α0 α1 α2 α3 α4 α5 α6 β δ γ : Type} {f : α0 → α1 → α2 → α3 → α4 → α5 → α6 → γ} {g : β → γ} {k : δ → γ} {x0 : α0} {x1 : α1} {x2 : α2} {x3 : α3} {x4 : α4} {x5 : α5} {x6 : α6} {r : γ} (h : zsum3 (.inr (.inl (x0, x1, x2, x3, x4, x5, x6))) g (zcu7 f) k = r) : f x0 x1 x2 x3 x4 x5 x6 = r := h
theorem zs3_2_7 {α0 α1 α2 α3 α4 α5 α6 β δ γ : Type} {f : α0 → α1 → α2 → α3 → α4 → α5 → α6 → γ} {g : β → γ} {k : δ → γ} {x0 : α0} {x1 : α1} {x2 : α2} {x3 : α3} {x4 : α4} {x5 : α5} {x6 : α6} {r : γ} (h : zsum3 (.inr (.inr (x0, x1, x2, x3, x4, x5, x6))) g k (zcu7 f) = r) : f x0 x1 x2 x3 x4 x5 x6 = r := h
theorem zs2_0_8 {α0 α1 α2 α3 α4 α5 α6 α7 β γ : Type} {f : α0 → α1 → α2 → α3 → α4 → α5 → α6 → α7 → γ} {g : β → γ} {x0 : α0} {x1 : α1} {x2 : α2} {x3 : α3} {x4 : α4} {x5 : α5} {x6 : α6} {x7 : α7} {r : γ} (h : zsum2 (.inl (x0, x1, x2, x3, x4, x5, x6, x7)) (zcu8 f) g = r) : f x0 x1 x2 x3 x4 x5 x6 x7 = r := h
theorem zs2_1_8 {α0 α1 α2 α3 α4 α5 α6 α7 β γ : Type} {f : α0 → α1 → α2 → α3 → α4 → α5 → α6 → α7 → γ} {g : β → γ} {x0 : α0} {x1 : α1} {x2 : α2} {x3 : α3} {x4 : α4} {x5 : α5} {x6 : α6} {x7 : α7} {r : γ} (h : zsum2 (.inr (x0, x1, x2, x3, x4, x5, x6, x7)) g (zcu8 f) = r) : f x0 x1 x2 x3 x4 x5 x6 x7 = r := h
theorem zs3_0_8 {α0 α1 α2 α3 α4 α5 α6 α7 β δ γ : Type} {f : α0 → α1 → α2 → α3 → α4 → α5 → α6 → α7 → γ} {g : β → γ} {k : δ → γ} {x0 : α0} {x1 : α1} {x2 : α2} {x3 : α3} {x4 : α4} {x5 : α5} {x6 : α6} {x7 : α7} {r : γ} (h : zsum3 (.inl (x0, x1, x2, x3, x4, x5, x6, x7)) (zcu8 f) g k = r) : f x0 x1 x2 x3 x4 x5 x6 x7 = r := h
theorem zs3_1_8 {α0 α1 α2 α3 α4 α5 α6 α7 β δ γ : Type} {f : α0 → α1 → α2 → α3 → α4 → α5 → α6 → α7 → γ} {g : β → γ} {k : δ → γ} {x0 : α0} {x1 : α1} {x2 : α2} {x3 : α3} {x4 : α4} {x5 : α5} {x6 : α6} {x7 : α7} {r : γ} (h : zsum3 (.inr (.inl (x0, x1, x2, x3, x4, x5, x6, x7))) g (zcu8 f) k = r) : f x0 x1 x2 x3 x4 x5 x6 x7 = r := h
theorem zs3_2_8 {α0 α1 α2 α3 α4 α5 α6 α7 β δ γ : Type} {f : α0 → α1 → α2 → α3 → α4 → α5 → α6 → α7 → γ} {g : β → γ} {k : δ → γ} {x0 : α0} {x1 : α1} {x2 : α2} {x3 : α3} {x4 : α4} {x5 : α5} {x6 : α6} {x7 : α7} {r : γ} (h : zsum3 (.inr (.inr (x0, x1, x2, x3, x4, x5, x6, x7))) g k (zcu8 f) = r) : f x0 x1 x2 x3 x4 x5 x6 x7 = r := h
theorem zs2_0_9 {α0 α1 α2 α3 α4 α5 α6 α7 α8 β γ : Type} {f : α0 → α1 → α2 → α3 → α4 → α5 → α6 → α7 → α8 → γ} {g : β → γ} {x0 : α0} {x1 : α1} {x2 : α2} {x3 : α3} {x4 : α4} {x5 : α5} {x6 : α6} {x7 : α7} {x8 : α8} {r : γ} (h : zsum2 (.inl (x0, x1, x2, x3, x4, x5, x6, x7, x8)) (zcu9 f) g = r) : f x0 x1 x2 x3 x4 x5 x6 x7 x8 = r := h
theorem zs2_1_9 {α0 α1 α2 α3 α4 α5 α6 α7 α8 β γ : Type} {f : α0 → α1 → α2 → α3 → α4 → α5 → α6 → α7 → α8 → γ} {g : β → γ} {x0 : α0} {x1 : α1} {x2 : α2} {x3 : α3} {x4 : α4} {x5 : α5} {x6 : α6} {x7 : α7} {x8 : α8} {r : γ} (h : zsum2 (.inr (x0, x1, x2, x3, x4, x5, x6, x7, x8)) g (zcu9 f) = r) : f x0 x1 x2 x3 x4 x5 x6 x7 x8 = r := h
theorem zs3_0_9 {α0 α1 α2 α3 α4 α5 α6 α7 α8 β δ γ : Type} {f : α0 → α1 → α2 → α3 → α4 → α5 → α6 → α7 → α8 → γ} {g : β → γ} {k : δ → γ} {x0 : α0} {x1 : α1} {x2 : α2} {x3 : α3} {x4 : α4} {x5 : α5} {x6 : α6} {x7 : α7} {x8 : α8} {r : γ} (h : zsum3 (.inl (x0, x1, x2, x3, x4, x5, x6, x7, x8)) (zcu9 f) g k = r) : f x0 x1 x2 x3 x4 x5 x6 x7 x8 = r := h
theorem zs3_1_9 {α0 α1 α2 α3 α4 α5 α6 α7 α8 β δ γ : Type} {f : α0 → α1 → α2 → α3 → α4 → α5 → α6 → α7 → α8 → γ} {g : β → γ} {k : δ → γ} {x0 : α0} {x1 : α1} {x2 : α2} {x3 : α3} {x4 : α4} {x5 : α5} {x6 : α6} {x7 : α7} {x8 : α8} {r : γ} (h : zsum3 (.inr (.inl (x0, x1, x2, x3, x4, x5, x6, x7, x8))) g (zcu9 f) k = r) : f x0 x1 x2 x3 x4 x5 x6 x7 x8 = r := h
theorem zs3_2_9 {α0 α1 α2 α3 α4 α5 α6 α7 α8 β δ γ : Type} {f : α0 → α1 → α2 → α3 → α4 → α5 → α6 → α7 → α8 → γ} {g : β → γ} {k : δ → γ} {x0 : α0} {x1 : α1} {x2 : α2} {x3 : α3} {x4 : α4} {x5 : α5} {x6 : α6} {x7 : α7} {x8 : α8} {r : γ} (h : zsum3 (.inr (.inr (x0, x1, x2, x3, x4, x5, x6, x7, x8))) g k (zcu9 f) = r) : f x0 x1 x2 x3 x4 x5 x6 x7 x8 = r := h
theorem zs2_0_10 {α0 α1 α2 α3 α4 α5 α6 α7 α8 α9 β γ : Type} {f : α0 → α1 → α2 → α3 → α4 → α5 → α6 → α7 → α8 → α9 → γ} {g : β → γ} {x0 : α0} {x1 : α1} {x2 : α2} {x3 : α3} {x4 : α4} {x5 : α5} {x6 : α6} {x7 : α7} {x8 : α8} {x9 : α9} {r : γ} (h : zsum2 (.inl (x0, x1, x2, x3, x4, x5, x6, x7, x8, x9)) (zcu10 f) g = r) : f x0 x1 x2 x3 x4 x5 x6 x7 x8 x9 = r := h
theorem zs2_1_10 {α0 α1 α2 α3 α4 α5 α6 α7 α8 α9 β γ : Type} {f : α0 → α1 → α2 → α3 → α4 → α5 → α6 → α7 → α8 → α9 → γ} {g : β → γ} {x0 : α0} {x1 : α1} {x2 : α2} {x3 : α3} {x4 : α4} {x5 : α5} {x6 : α6} {x7 : α7} {x8 : α8} {x9 : α9} {r : γ} (h : zsum2 (.inr (x0, x1, x2, x3, x4, x5, x6, x7, x8, x9)) g (zcu10 f) = r) : f x0 x1 x2 x3 x4 x5 x6 x7 x8 x9 = r := h
theorem zs3_0_10 {α0 α1 α2 α3 α4 α5 α6 α7 α8 α9 β δ γ : Type} {f : α0 → α1 → α2 → α3 → α4 → α5 → α6 → α7 → α8 → α9 → γ} {g : β → γ} {k : δ → γ} {x0 : α0} {x1 : α1} {x2 : α2} {x3 : α3} {x4 : α4} {x5 : α5} {x6 : α6} {x7 : α7} {x8 : α8} {x9 : α9} {r : γ} (h : zsum3 (.inl (x0, x1, x2, x3, x4, x5, x6, x7, x8, x9)) (zcu10 f) g k = r) : f x0 x1 x2 x3 x4 x5 x6 x7 x8 x9 = r := h
theorem zs3_1_10 {α0 α1 α2 α3 α4 α5 α6 α7 α8 α9 β δ γ : Type} {f : α0 → α1 → α2 → α3 → α4 → α5 → α6 → α7 → α8 → α9 → γ} {g : β → γ} {k : δ → γ} {x0 : α0} {x1 : α1} {x2 : α2} {x3 : α3} {x4 : α4} {x5 : α5} {x6 : α6} {x7 : α7} {x8 : α8} {x9 : α9} {r : γ} (h : zsum3 (.inr (.inl (x0, x1, x2, x3, x4, x5, x6, x7, x8, x9))) g (zcu10 f) k = r) : f x0 x1 x2 x3 x4 x5 x6 x7 x8 x9 = r := h
theorem zs3_2_10 {α0 α1 α2 α3 α4 α5 α6 α7 α8 α9 β δ γ : Type} {f : α0 → α1 → α2 → α3 → α4 → α5 → α6 → α7 → α8 → α9 → γ} {g : β → γ} {k : δ → γ} {x0 : α0} {x1 : α1} {x2 : α2} {x3 : α3} {x4 : α4} {x5 : α5} {x6 : α6} {x7 : α7} {x8 : α8} {x9 : α9} {r : γ} (h : zsum3 (.inr (.inr (x0, x1, x2, x3, x4, x5, x6, x7, x8, x9))) g k (zcu10 f) = r) : f x0 x1 x2 x3 x4 x5 x6 x7 x8 x9 = r := h
theorem zs2_0_11 {α0 α1 α2 α3 α4 α5 α6 α7 α8 α9 α10 β γ : Type} {f : α0 → α1 → α2 → α3 → α4 → α5 → α6 → α7 → α8 → α9 → α10 → γ} {g : β → γ} {x0 : α0} {x1 : α1} {x2 : α2} {x3 : α3} {x4 : α4} {x5 : α5} {x6 : α6} {x7 : α7} {x8 : α8} {x9 : α9} {x10 : α10} {r : γ} (h : zsum2 (.inl (x0, x1, x2, x3, x4, x5, x6, x7, x8, x9, x10)) (zcu11 f) g = r) : f x0 x1 x2 x3 x4 x5 x6 x7 x8 x9 x10 = r := h
theorem zs2_1_11 {α0 α1 α2 α3 α4 α5 α6 α7 α8 α9 α10 β γ : Type} {f : α0 → α1 → α2 → α3 → α4 → α5 → α6 → α7 → α8 → α9 → α10 → γ} {g : β → γ} {x0 : α0} {x1 : α1} {x2 : α2} {x3 : α3} {x4 : α4} {x5 : α5} {x6 : α6} {x7 : α7} {x8 : α8} {x9 : α9} {x10 : α10} {r : γ} (h : zsum2 (.inr (x0, x1, x2, x3, x4, x5, x6, x7, x8, x9, x10)) g (zcu11 f) = r) : f x0 x1 x2 x3 x4 x5 x6 x7 x8 x9 x10 = r := h
theorem zs3_0_11 {α0 α1 α2 α3 α4 α5 α6 α7 α8 α9 α10 β δ γ : Type} {f : α0 → α1 → α2 → α3 → α4 → α5 → α6 → α7 → α8 → α9 → α10 → γ} {g : β → γ} {k : δ → γ} {x0 : α0} {x1 : α1} {x2 : α2} {x3 : α3} {x4 : α4} {x5 : α5} {x6 : α6} {x7 : α7} {x8 : α8} {x9 : α9} {x10 : α10} {r : γ} (h : zsum3 (.inl (x0, x1, x2, x3, x4, x5, x6, x7, x8, x9, x10)) (zcu11 f) g k = r) : f x0 x1 x2 x3 x4 x5 x6 x7 x8 x9 x10 = r := h
theorem zs3_1_11 {α0 α1 α2 α3 α4 α5 α6 α7 α8 α9 α10 β δ γ : Type} {f : α0 → α1 → α2 → α3 → α4 → α5 → α6 → α7 → α8 → α9 → α10 → γ} {g : β → γ} {k : δ → γ} {x0 : α0} {x1 : α1} {x2 : α2} {x3 : α3} {x4 : α4} {x5 : α5} {x6 : α6} {x7 : α7} {x8 : α8} {x9 : α9} {x10 : α10} {r : γ} (h : zsum3 (.inr (.inl (x0, x1, x2, x3, x4, x5, x6, x7, x8, x9, x10))) g (zcu11 f) k = r) : f x0 x1 x2 x3 x4 x5 x6 x7 x8 x9 x10 = r := h
theorem zs3_2_11 {α0 α1 α2 α3 α4 α5 α6 α7 α8 α9 α10 β δ γ : Type} {f : α0 → α1 → α2 → α3 → α4 → α5 → α6 → α7 → α8 → α9 → α10 → γ} {g : β → γ} {k : δ → γ} {x0 : α0} {x1 : α1} {x2 : α2} {x3 : α3} {x4 : α4} {x5 : α5} {x6 : α6} {x7 : α7} {x8 : α8} {x9 : α9} {x10 : α10} {r : γ} (h : zsum3 (.inr (.inr (x0, x1, x2, x3, x4, x5, x6, x7, x8, x9, x10))) g k (zcu11 f) = r) : f x0 x1 x2 x3 x4 x5 x6 x7 x8 x9 x10 = r := h
