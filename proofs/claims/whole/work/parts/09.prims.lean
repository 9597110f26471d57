/-! pairs; constant places; Math: by program (in part) -/
theorem zinj3 {α0 α1 α2 : Type} {a0 b0 : α0} {a1 b1 : α1} {a2 b2 : α2} (h : some (a0, a1, a2) = some (b0, b1, b2)) : a0 = b0 ∧ a1 = b1 ∧ a2 = b2 := by
  cases h
  exact ⟨rfl, rfl, rfl⟩
theorem zinj4 {α0 α1 α2 α3 : Type} {a0 b0 : α0} {a1 b1 : α1} {a2 b2 : α2} {a3 b3 : α3} (h : some (a0, a1, a2, a3) = some (b0, b1, b2, b3)) : a0 = b0 ∧ a1 = b1 ∧ a2 = b2 ∧ a3 = b3 := by
  cases h
  exact ⟨rfl, rfl, rfl, rfl⟩
theorem zinj5 {α0 α1 α2 α3 α4 : Type} {a0 b0 : α0} {a1 b1 : α1} {a2 b2 : α2} {a3 b3 : α3} {a4 b4 : α4} (h : some (a0, a1, a2, a3, a4) = some (b0, b1, b2, b3, b4)) : a0 = b0 ∧ a1 = b1 ∧ a2 = b2 ∧ a3 = b3 ∧ a4 = b4 := by
  cases h
  exact ⟨rfl, rfl, rfl, rfl, rfl⟩
theorem zinj6 {α0 α1 α2 α3 α4 α5 : Type} {a0 b0 : α0} {a1 b1 : α1} {a2 b2 : α2} {a3 b3 : α3} {a4 b4 : α4} {a5 b5 : α5} (h : some (a0, a1, a2, a3, a4, a5) = some (b0, b1, b2, b3, b4, b5)) : a0 = b0 ∧ a1 = b1 ∧ a2 = b2 ∧ a3 = b3 ∧ a4 = b4 ∧ a5 = b5 := by
  cases h
  exact ⟨rfl, rfl, rfl, rfl, rfl, rfl⟩
theorem zinj7 {α0 α1 α2 α3 α4 α5 α6 : Type} {a0 b0 : α0} {a1 b1 : α1} {a2 b2 : α2} {a3 b3 : α3} {a4 b4 : α4} {a5 b5 : α5} {a6 b6 : α6} (h : some (a0, a1, a2, a3, a4, a5, a6) = some (b0, b1, b2, b3, b4, b5, b6)) : a0 = b0 ∧ a1 = b1 ∧ a2 = b2 ∧ a3 = b3 ∧ a4 = b4 ∧ a5 = b5 ∧ a6 = b6 := by
  cases h
  exact ⟨rfl, rfl, rfl, rfl, rfl, rfl, rfl⟩
theorem zinj8 {α0 α1 α2 α3 α4 α5 α6 α7 : Type} {a0 b0 : α0} {a1 b1 : α1} {a2 b2 : α2} {a3 b3 : α3} {a4 b4 : α4} {a5 b5 : α5} {a6 b6 : α6} {a7 b7 : α7} (h : some (a0, a1, a2, a3, a4, a5, a6, a7) = some (b0, b1, b2, b3, b4, b5, b6, b7)) : a0 = b0 ∧ a1 = b1 ∧ a2 = b2 ∧ a3 = b3 ∧ a4 = b4 ∧ a5 = b5 ∧ a6 = b6 ∧ a7 = b7 := by
  cases h
  exact ⟨rfl, rfl, rfl, rfl, rfl, rfl, rfl, rfl⟩
theorem zinj9 {α0 α1 α2 α3 α4 α5 α6 α7 α8 : Type} {a0 b0 : α0} {a1 b1 : α1} {a2 b2 : α2} {a3 b3 : α3} {a4 b4 : α4} {a5 b5 : α5} {a6 b6 : α6} {a7 b7 : α7} {a8 b8 : α8} (h : some (a0, a1, a2, a3, a4, a5, a6, a7, a8) = some (b0, b1, b2, b3, b4, b5, b6, b7, b8)) : a0 = b0 ∧ a1 = b1 ∧ a2 = b2 ∧ a3 = b3 ∧ a4 = b4 ∧ a5 = b5 ∧ a6 = b6 ∧ a7 = b7 ∧ a8 = b8 := by
  cases h
  exact ⟨rfl, rfl, rfl, rfl, rfl, rfl, rfl, rfl, rfl⟩
theorem zinj10 {α0 α1 α2 α3 α4 α5 α6 α7 α8 α9 : Type} {a0 b0 : α0} {a1 b1 : α1} {a2 b2 : α2} {a3 b3 : α3} {a4 b4 : α4} {a5 b5 : α5} {a6 b6 : α6} {a7 b7 : α7} {a8 b8 : α8} {a9 b9 : α9} (h : some (a0, a1, a2, a3, a4, a5, a6, a7, a8, a9) = some (b0, b1, b2, b3, b4, b5, b6, b7, b8, b9)) : a0 = b0 ∧ a1 = b1 ∧ a2 = b2 ∧ a3 = b3 ∧ a4 = b4 ∧ a5 = b5 ∧ a6 = b6 ∧ a7 = b7 ∧ a8 = b8 ∧ a9 = b9 := by
  cases h
  exact ⟨rfl, rfl, rfl, rfl, rfl, rfl, rfl, rfl, rfl, rfl⟩
theorem zinj11 {α0 α1 α2 α3 α4 α5 α6 α7 α8 α9 α10 : Type} {a0 b0 : α0} {a1 b1 : α1} {a2 b2 : α2} {a3 b3 : α3} {a4 b4 : α4} {a5 b5 : α5} {a6 b6 : α6} {a7 b7 : α7} {a8 b8 : α8} {a9 b9 : α9} {a10 b10 : α10} (h : some (a0, a1, a2, a3, a4, a5, a6, a7, a8, a9, a10) = some (b0, b1, b2, b3, b4, b5, b6, b7, b8, b9, b10)) : a0 = b0 ∧ a1 = b1 ∧ a2 = b2 ∧ a3 = b3 ∧ a4 = b4 ∧ a5 = b5 ∧ a6 = b6 ∧ a7 = b7 ∧ a8 = b8 ∧ a9 = b9 ∧ a10 = b10 := by
  cases h
  exact ⟨rfl, rfl, rfl, rfl, rfl, rfl, rfl, rfl, rfl, rfl, rfl⟩
theorem zinl2_0_1 {α0 : Type} {β : Type} {a0 b0 : α0} (h : (Sum.inl (a0) : (α0) ⊕ β) = Sum.inl (b0)) : a0 = b0 := by
  cases h
  exact rfl
theorem zinl2_1_1 {α0 : Type} {β : Type} {a0 b0 : α0} (h : (Sum.inr (a0) : β ⊕ (α0)) = Sum.inr (b0)) : a0 = b0 := by
  cases h
  exact rfl
theorem zinl3_0_1 {α0 : Type} {β : Type} {a0 b0 : α0} (h : (Sum.inl (a0) : (α0) ⊕ β) = Sum.inl (b0)) : a0 = b0 := by
  cases h
  exact rfl
theorem zinl3_1_1 {α0 : Type} {β γ : Type} {a0 b0 : α0} (h : (Sum.inr (Sum.inl (a0)) : β ⊕ ((α0) ⊕ γ)) = Sum.inr (Sum.inl (b0))) : a0 = b0 := by
  cases h
  exact rfl
theorem zinl3_2_1 {α0 : Type} {β γ : Type} {a0 b0 : α0} (h : (Sum.inr (Sum.inr (a0)) : β ⊕ (γ ⊕ (α0))) = Sum.inr (Sum.inr (b0))) : a0 = b0 := by
  cases h
  exact rfl
theorem zinl2_0_2 {α0 α1 : Type} {β : Type} {a0 b0 : α0} {a1 b1 : α1} (h : (Sum.inl (a0, a1) : (α0 × α1) ⊕ β) = Sum.inl (b0, b1)) : a0 = b0 ∧ a1 = b1 := by
  cases h
  exact ⟨rfl, rfl⟩
theorem zinl2_1_2 {α0 α1 : Type} {β : Type} {a0 b0 : α0} {a1 b1 : α1} (h : (Sum.inr (a0, a1) : β ⊕ (α0 × α1)) = Sum.inr (b0, b1)) : a0 = b0 ∧ a1 = b1 := by
  cases h
  exact ⟨rfl, rfl⟩
theorem zinl3_0_2 {α0 α1 : Type} {β : Type} {a0 b0 : α0} {a1 b1 : α1} (h : (Sum.inl (a0, a1) : (α0 × α1) ⊕ β) = Sum.inl (b0, b1)) : a0 = b0 ∧ a1 = b1 := by
  cases h
  exact ⟨rfl, rfl⟩
theorem zinl3_1_2 {α0 α1 : Type} {β γ : Type} {a0 b0 : α0} {a1 b1 : α1} (h : (Sum.inr (Sum.inl (a0, a1)) : β ⊕ ((α0 × α1) ⊕ γ)) = Sum.inr (Sum.inl (b0, b1))) : a0 = b0 ∧ a1 = b1 := by
  cases h
  exact ⟨rfl, rfl⟩
theorem zinl3_2_2 {α0 α1 : Type} {β γ : Type} {a0 b0 : α0} {a1 b1 : α1} (h : (Sum.inr (Sum.inr (a0, a1)) : β ⊕ (γ ⊕ (α0 × α1))) = Sum.inr (Sum.inr (b0, b1))) : a0 = b0 ∧ a1 = b1 := by
  cases h
  exact ⟨rfl, rfl⟩
theorem zinl2_0_3 {α0 α1 α2 : Type} {β : Type} {a0 b0 : α0} {a1 b1 : α1} {a2 b2 : α2} (h : (Sum.inl (a0, a1, a2) : (α0 × α1 × α2) ⊕ β) = Sum.inl (b0, b1, b2)) : a0 = b0 ∧ a1 = b1 ∧ a2 = b2 := by
  cases h
  exact ⟨rfl, rfl, rfl⟩
theorem zinl2_1_3 {α0 α1 α2 : Type} {β : Type} {a0 b0 : α0} {a1 b1 : α1} {a2 b2 : α2} (h : (Sum.inr (a0, a1, a2) : β ⊕ (α0 × α1 × α2)) = Sum.inr (b0, b1, b2)) : a0 = b0 ∧ a1 = b1 ∧ a2 = b2 := by
  cases h
  exact ⟨rfl, rfl, rfl⟩
theorem zinl3_0_3 {α0 α1 α2 : Type} {β : Type} {a0 b0 : α0} {a1 b1 : α1} {a2 b2 : α2} (h : (Sum.inl (a0, a1, a2) : (α0 × α1 × α2) ⊕ β) = Sum.inl (b0, b1, b2)) : a0 = b0 ∧ a1 = b1 ∧ a2 = b2 := by
  cases h
  exact ⟨rfl, rfl, rfl⟩
theorem zinl3_1_3 {α0 α1 α2 : Type} {β γ : Type} {a0 b0 : α0} {a1 b1 : α1} {a2 b2 : α2} (h : (Sum.inr (Sum.inl (a0, a1, a2)) : β ⊕ ((α0 × α1 × α2) ⊕ γ)) = Sum.inr (Sum.inl (b0, b1, b2))) : a0 = b0 ∧ a1 = b1 ∧ a2 = b2 := by
  cases h
  exact ⟨rfl, rfl, rfl⟩
theorem zinl3_2_3 {α0 α1 α2 : Type} {β γ : Type} {a0 b0 : α0} {a1 b1 : α1} {a2 b2 : α2} (h : (Sum.inr (Sum.inr (a0, a1, a2)) : β ⊕ (γ ⊕ (α0 × α1 × α2))) = Sum.inr (Sum.inr (b0, b1, b2))) : a0 = b0 ∧ a1 = b1 ∧ a2 = b2 := by
  cases h
  exact ⟨rfl, rfl, rfl⟩
theorem zinl2_0_4 {α0 α1 α2 α3 : Type} {β : Type} {a0 b0 : α0} {a1 b1 : α1} {a2 b2 : α2} {a3 b3 : α3} (h : (Sum.inl (a0, a1, a2, a3) : (α0 × α1 × α2 × α3) ⊕ β) = Sum.inl (b0, b1, b2, b3)) : a0 = b0 ∧ a1 = b1 ∧ a2 = b2 ∧ a3 = b3 := by
  cases h
  exact ⟨rfl, rfl, rfl, rfl⟩
theorem zinl2_1_4 {α0 α1 α2 α3 : Type} {β : Type} {a0 b0 : α0} {a1 b1 : α1} {a2 b2 : α2} {a3 b3 : α3} (h : (Sum.inr (a0, a1, a2, a3) : β ⊕ (α0 × α1 × α2 × α3)) = Sum.inr (b0, b1, b2, b3)) : a0 = b0 ∧ a1 = b1 ∧ a2 = b2 ∧ a3 = b3 := by
  cases h
  exact ⟨rfl, rfl, rfl, rfl⟩
theorem zinl3_0_4 {α0 α1 α2 α3 : Type} {β : Type} {a0 b0 : α0} {a1 b1 : α1} {a2 b2 : α2} {a3 b3 : α3} (h : (Sum.inl (a0, a1, a2, a3) : (α0 × α1 × α2 × α3) ⊕ β) = Sum.inl (b0, b1, b2, b3)) : a0 = b0 ∧ a1 = b1 ∧ a2 = b2 ∧ a3 = b3 := by
  cases h
  exact ⟨rfl, rfl, rfl, rfl⟩
theorem zinl3_1_4 {α0 α1 α2 α3 : Type} {β γ : Type} {a0 b0 : α0} {a1 b1 : α1} {a2 b2 : α2} {a3 b3 : α3} (h : (Sum.inr (Sum.inl (a0, a1, a2, a3)) : β ⊕ ((α0 × α1 × α2 × α3) ⊕ γ)) = Sum.inr (Sum.inl (b0, b1, b2, b3))) : a0 = b0 ∧ a1 = b1 ∧ a2 = b2 ∧ a3 = b3 := by
  cases h
  exact ⟨rfl, rfl, rfl, rfl⟩
theorem zinl3_2_4 {α0 α1 α2 α3 : Type} {β γ : Type} {a0 b0 : α0} {a1 b1 : α1} {a2 b2 : α2} {a3 b3 : α3} (h : (Sum.inr (Sum.inr (a0, a1, a2, a3)) : β ⊕ (γ ⊕ (α0 × α1 × α2 × α3))) = Sum.inr (Sum.inr (b0, b1, b2, b3))) : a0 = b0 ∧ a1 = b1 ∧ a2 = b2 ∧ a3 = b3 := by
  cases h
  exact ⟨rfl, rfl, rfl, rfl⟩
theorem zinl2_0_5 {α0 α1 α2 α3 α4 : Type} {β : Type} {a0 b0 : α0} {a1 b1 : α1} {a2 b2 : α2} {a3 b3 : α3} {a4 b4 : α4} (h : (Sum.inl (a0, a1, a2, a3, a4) : (α0 × α1 × α2 × α3 × α4) ⊕ β) = Sum.inl (b0, b1, b2, b3, b4)) : a0 = b0 ∧ a1 = b1 ∧ a2 = b2 ∧ a3 = b3 ∧ a4 = b4 := by
  cases h
  exact ⟨rfl, rfl, rfl, rfl, rfl⟩
theorem zinl2_1_5 {α0 α1 α2 α3 α4 : Type} {β : Type} {a0 b0 : α0} {a1 b1 : α1} {a2 b2 : α2} {a3 b3 : α3} {a4 b4 : α4} (h : (Sum.inr (a0, a1, a2, a3, a4) : β ⊕ (α0 × α1 × α2 × α3 × α4)) = Sum.inr (b0, b1, b2, b3, b4)) : a0 = b0 ∧ a1 = b1 ∧ a2 = b2 ∧ a3 = b3 ∧ a4 = b4 := by
  cases h
  exact ⟨rfl, rfl, rfl, rfl, rfl⟩
theorem zinl3_0_5 {α0 α1 α2 α3 α4 : Type} {β : Type} {a0 b0 : α0} {a1 b1 : α1} {a2 b2 : α2} {a3 b3 : α3} {a4 b4 : α4} (h : (Sum.inl (a0, a1, a2, a3, a4) : (α0 × α1 × α2 × α3 × α4) ⊕ β) = Sum.inl (b0, b1, b2, b3, b4)) : a0 = b0 ∧ a1 = b1 ∧ a2 = b2 ∧ a3 = b3 ∧ a4 = b4 := by
  cases h
  exact ⟨rfl, rfl, rfl, rfl, rfl⟩
theorem zinl3_1_5 {α0 α1 α2 α3 α4 : Type} {β γ : Type} {a0 b0 : α0} {a1 b1 : α1} {a2 b2 : α2} {a3 b3 : α3} {a4 b4 : α4} (h : (Sum.inr (Sum.inl (a0, a1, a2, a3, a4)) : β ⊕ ((α0 × α1 × α2 × α3 × α4) ⊕ γ)) = Sum.inr (Sum.inl (b0, b1, b2, b3, b4))) : a0 = b0 ∧ a1 = b1 ∧ a2 = b2 ∧ a3 = b3 ∧ a4 = b4 := by
  cases h
  exact ⟨rfl, rfl, rfl, rfl, rfl⟩
theorem zinl3_2_5 {α0 α1 α2 α3 α4 : Type} {β γ : Type} {a0 b0 : α0} {a1 b1 : α1} {a2 b2 : α2} {a3 b3 : α3} {a4 b4 : α4} (h : (Sum.inr (Sum.inr (a0, a1, a2, a3, a4)) : β ⊕ (γ ⊕ (α0 × α1 × α2 × α3 × α4))) = Sum.inr (Sum.inr (b0, b1, b2, b3, b4))) : a0 = b0 ∧ a1 = b1 ∧ a2 = b2 ∧ a3 = b3 ∧ a4 = b4 := by
  cases h
  exact ⟨rfl, rfl, rfl, rfl, rfl⟩
theorem zinl2_0_6 {α0 α1 α2 α3 α4 α5 : Type} {β : Type} {a0 b0 : α0} {a1 b1 : α1} {a2 b2 : α2} {a3 b3 : α3} {a4 b4 : α4} {a5 b5 : α5} (h : (Sum.inl (a0, a1, a2, a3, a4, a5) : (α0 × α1 × α2 × α3 × α4 × α5) ⊕ β) = Sum.inl (b0, b1, b2, b3, b4, b5)) : a0 = b0 ∧ a1 = b1 ∧ a2 = b2 ∧ a3 = b3 ∧ a4 = b4 ∧ a5 = b5 := by
  cases h
  exact ⟨rfl, rfl, rfl, rfl, rfl, rfl⟩
theorem zinl2_1_6 {α0 α1 α2 α3 α4 α5 : Type} {β : Type} {a0 b0 : α0} {a1 b1 : α1} {a2 b2 : α2} {a3 b3 : α3} {a4 b4 : α4} {a5 b5 : α5} (h : (Sum.inr (a0, a1, a2, a3, a4, a5) : β ⊕ (α0 × α1 × α2 × α3 × α4 × α5)) = Sum.inr (b0, b1, b2, b3, b4, b5)) : a0 = b0 ∧ a1 = b1 ∧ a2 = b2 ∧ a3 = b3 ∧ a4 = b4 ∧ a5 = b5 := by
  cases h
  exact ⟨rfl, rfl, rfl, rfl, rfl, rfl⟩
theorem zinl3_0_6 {α0 α1 α2 α3 α4 α5 : Type} {β : Type} {a0 b0 : α0} {a1 b1 : α1} {a2 b2 : α2} {a3 b3 : α3} {a4 b4 : α4} {a5 b5 : α5} (h : (Sum.inl (a0, a1, a2, a3, a4, a5) : (α0 × α1 × α2 × α3 × α4 × α5) ⊕ β) = Sum.inl (b0, b1, b2, b3, b4, b5)) : a0 = b0 ∧ a1 = b1 ∧ a2 = b2 ∧ a3 = b3 ∧ a4 = b4 ∧ a5 = b5 := by
  cases h
  exact ⟨rfl, rfl, rfl, rfl, rfl, rfl⟩
theorem zinl3_1_6 {α0 α1 α2 α3 α4 α5 : Type} {β γ : Type} {a0 b0 : α0} {a1 b1 : α1} {a2 b2 : α2} {a3 b3 : α3} {a4 b4 : α4} {a5 b5 : α5} (h : (Sum.inr (Sum.inl (a0, a1, a2, a3, a4, a5)) : β ⊕ ((α0 × α1 × α2 × α3 × α4 × α5) ⊕ γ)) = Sum.inr (Sum.inl (b0, b1, b2, b3, b4, b5))) : a0 = b0 ∧ a1 = b1 ∧ a2 = b2 ∧ a3 = b3 ∧ a4 = b4 ∧ a5 = b5 := by
  cases h
  exact ⟨rfl, rfl, rfl, rfl, rfl, rfl⟩
theorem zinl3_2_6 {α0 α1 α2 α3 α4 α5 : Type} {β γ : Type} {a0 b0 : α0} {a1 b1 : α1} {a2 b2 : α2} {a3 b3 : α3} {a4 b4 : α4} {a5 b5 : α5} (h : (Sum.inr (Sum.inr (a0, a1, a2, a3, a4, a5)) : β ⊕ (γ ⊕ (α0 × α1 × α2 × α3 × α4 × α5))) = Sum.inr (Sum.inr (b0, b1, b2, b3, b4, b5))) : a0 = b0 ∧ a1 = b1 ∧ a2 = b2 ∧ a3 = b3 ∧ a4 = b4 ∧ a5 = b5 := by
  cases h
  exact ⟨rfl, rfl, rfl, rfl, rfl, rfl⟩
theorem zinl2_0_7 {α0 α1 α2 α3 α4 α5 α6 : Type} {β : Type} {a0 b0 : α0} {a1 b1 : α1} {a2 b2 : α2} {a3 b3 : α3} {a4 b4 : α4} {a5 b5 : α5} {a6 b6 : α6} (h : (Sum.inl (a0, a1, a2, a3, a4, a5, a6) : (α0 × α1 × α2 × α3 × α4 × α5 × α6) ⊕ β) = Sum.inl (b0, b1, b2, b3, b4, b5, b6)) : a0 = b0 ∧ a1 = b1 ∧ a2 = b2 ∧ a3 = b3 ∧ a4 = b4 ∧ a5 = b5 ∧ a6 = b6 := by
  cases h
  exact ⟨rfl, rfl, rfl, rfl, rfl, rfl, rfl⟩
theorem zinl2_1_7 {α0 α1 α2 α3 α4 α5 α6 : Type} {β : Type} {a0 b0 : α0} {a1 b1 : α1} {a2 b2 : α2} {a3 b3 : α3} {a4 b4 : α4} {a5 b5 : α5} {a6 b6 : α6} (h : (Sum.inr (a0, a1, a2, a3, a4, a5, a6) : β ⊕ (α0 × α1 × α2 × α3 × α4 × α5 × α6)) = Sum.inr (b0, b1, b2, b3, b4, b5, b6)) : a0 = b0 ∧ a1 = b1 ∧ a2 = b2 ∧ a3 = b3 ∧ a4 = b4 ∧ a5 = b5 ∧ a6 = b6 := by
  cases h
  exact ⟨rfl, rfl, rfl, rfl, rfl, rfl, rfl⟩
theorem zinl3_0_7 {α0 α1 α2 α3 α4 α5 α6 : Type} {β : Type} {a0 b0 : α0} {a1 b1 : α1} {a2 b2 : α2} {a3 b3 : α3} {a4 b4 : α4} {a5 b5 : α5} {a6 b6 : α6} (h : (Sum.inl (a0, a1, a2, a3, a4, a5, a6) : (α0 × α1 × α2 × α3 × α4 × α5 × α6) ⊕ β) = Sum.inl (b0, b1, b2, b3, b4, b5, b6)) : a0 = b0 ∧ a1 = b1 ∧ a2 = b2 ∧ a3 = b3 ∧ a4 = b4 ∧ a5 = b5 ∧ a6 = b6 := by
  cases h
  exact ⟨rfl, rfl, rfl, rfl, rfl, rfl, rfl⟩
theorem zinl3_1_7 {α0 α1 α2 α3 α4 α5 α6 : Type} {β γ : Type} {a0 b0 : α0} {a1 b1 : α1} {a2 b2 : α2} {a3 b3 : α3} {a4 b4 : α4} {a5 b5 : α5} {a6 b6 : α6} (h : (Sum.inr (Sum.inl (a0, a1, a2, a3, a4, a5, a6)) : β ⊕ ((α0 × α1 × α2 × α3 × α4 × α5 × α6) ⊕ γ)) = Sum.inr (Sum.inl (b0, b1, b2, b3, b4, b5, b6))) : a0 = b0 ∧ a1 = b1 ∧ a2 = b2 ∧ a3 = b3 ∧ a4 = b4 ∧ a5 = b5 ∧ a6 = b6 := by
  cases h
  exact ⟨rfl, rfl, rfl, rfl, rfl, rfl, rfl⟩
theorem zinl3_2_7 {α0 α1 α2 α3 α4 α5 α6 : Type} {β γ : Type} {a0 b0 : α0} {a1 b1 : α1} {a2 b2 : α2} {a3 b3 : α3} {a4 b4 : α4} {a5 b5 : α5} {a6 b6 : α6} (h : (Sum.inr (Sum.inr (a0, a1, a2, a3, a4, a5, a6)) : β ⊕ (γ ⊕ (α0 × α1 × α2 × α3 × α4 × α5 × α6))) = Sum.inr (Sum.inr (b0, b1, b2, b3, b4, b5, b6))) : a0 = b0 ∧ a1 = b1 ∧ a2 = b2 ∧ a3 = b3 ∧ a4 = b4 ∧ a5 = b5 ∧ a6 = b6 := by
  cases h
  exact ⟨rfl, rfl, rfl, rfl, rfl, rfl, rfl⟩
theorem zinl2_0_8 {α0 α1 α2 α3 α4 α5 α6 α7 : Type} {β : Type} {a0 b0 : α0} {a1 b1 : α1} {a2 b2 : α2} {a3 b3 : α3} {a4 b4 : α4} {a5 b5 : α5} {a6 b6 : α6} {a7 b7 : α7} (h : (Sum.inl (a0, a1, a2, a3, a4, a5, a6, a7) : (α0 × α1 × α2 × α3 × α4 × α5 × α6 × α7) ⊕ β) = Sum.inl (b0, b1, b2, b3, b4, b5, b6, b7)) : a0 = b0 ∧ a1 = b1 ∧ a2 = b2 ∧ a3 = b3 ∧ a4 = b4 ∧ a5 = b5 ∧ a6 = b6 ∧ a7 = b7 := by
  cases h
  exact ⟨rfl, rfl, rfl, rfl, rfl, rfl, rfl, rfl⟩
theorem zinl2_1_8 {α0 α1 α2 α3 α4 α5 α6 α7 : Type} {β : Type} {a0 b0 : α0} {a1 b1 : α1} {a2 b2 : α2} {a3 b3 : α3} {a4 b4 : α4} {a5 b5 : α5} {a6 b6 : α6} {a7 b7 : α7} (h : (Sum.inr (a0, a1, a2, a3, a4, a5, a6, a7) : β ⊕ (α0 × α1 × α2 × α3 × α4 × α5 × α6 × α7)) = Sum.inr (b0, b1, b2, b3, b4, b5, b6, b7)) : a0 = b0 ∧ a1 = b1 ∧ a2 = b2 ∧ a3 = b3 ∧ a4 = b4 ∧ a5 = b5 ∧ a6 = b6 ∧ a7 = b7 := by
  cases h
  exact ⟨rfl, rfl, rfl, rfl, rfl, rfl, rfl, rfl⟩
theorem zinl3_0_8 {α0 α1 α2 α3 α4 α5 α6 α7 : Type} {β : Type} {a0 b0 : α0} {a1 b1 : α1} {a2 b2 : α2} {a3 b3 : α3} {a4 b4 : α4} {a5 b5 : α5} {a6 b6 : α6} {a7 b7 : α7} (h : (Sum.inl (a0, a1, a2, a3, a4, a5, a6, a7) : (α0 × α1 × α2 × α3 × α4 × α5 × α6 × α7) ⊕ β) = Sum.inl (b0, b1, b2, b3, b4, b5, b6, b7)) : a0 = b0 ∧ a1 = b1 ∧ a2 = b2 ∧ a3 = b3 ∧ a4 = b4 ∧ a5 = b5 ∧ a6 = b6 ∧ a7 = b7 := by
  cases h
  exact ⟨rfl, rfl, rfl, rfl, rfl, rfl, rfl, rfl⟩
theorem zinl3_1_8 {α0 α1 α2 α3 α4 α5 α6 α7 : Type} {β γ : Type} {a0 b0 : α0} {a1 b1 : α1} {a2 b2 : α2} {a3 b3 : α3} {a4 b4 : α4} {a5 b5 : α5} {a6 b6 : α6} {a7 b7 : α7} (h : (Sum.inr (Sum.inl (a0, a1, a2, a3, a4, a5, a6, a7)) : β ⊕ ((α0 × α1 × α2 × α3 × α4 × α5 × α6 × α7) ⊕ γ)) = Sum.inr (Sum.inl (b0, b1, b2, b3, b4, b5, b6, b7))) : a0 = b0 ∧ a1 = b1 ∧ a2 = b2 ∧ a3 = b3 ∧ a4 = b4 ∧ a5 = b5 ∧ a6 = b6 ∧ a7 = b7 := by
  cases h
  exact ⟨rfl, rfl, rfl, rfl, rfl, rfl, rfl, rfl⟩
theorem zinl3_2_8 {α0 α1 α2 α3 α4 α5 α6 α7 : Type} {β γ : Type} {a0 b0 : α0} {a1 b1 : α1} {a2 b2 : α2} {a3 b3 : α3} {a4 b4 : α4} {a5 b5 : α5} {a6 b6 : α6} {a7 b7 : α7} (h : (Sum.inr (Sum.inr (a0, a1, a2, a3, a4, a5, a6, a7)) : β ⊕ (γ ⊕ (α0 × α1 × α2 × α3 × α4 × α5 × α6 × α7))) = Sum.inr (Sum.inr (b0, b1, b2, b3, b4, b5, b6, b7))) : a0 = b0 ∧ a1 = b1 ∧ a2 = b2 ∧ a3 = b3 ∧ a4 = b4 ∧ a5 = b5 ∧ a6 = b6 ∧ a7 = b7 := by
  cases h
  exact ⟨rfl, rfl, rfl, rfl, rfl, rfl, rfl, rfl⟩
theorem zinl2_0_9 {α0 α1 α2 α3 α4 α5 α6 α7 α8 : Type} {β : Type} {a0 b0 : α0} {a1 b1 : α1} {a2 b2 : α2} {a3 b3 : α3} {a4 b4 : α4} {a5 b5 : α5} {a6 b6 : α6} {a7 b7 : α7} {a8 b8 : α8} (h : (Sum.inl (a0, a1, a2, a3, a4, a5, a6, a7, a8) : (α0 × α1 × α2 × α3 × α4 × α5 × α6 × α7 × α8) ⊕ β) = Sum.inl (b0, b1, b2, b3, b4, b5, b6, b7, b8)) : a0 = b0 ∧ a1 = b1 ∧ a2 = b2 ∧ a3 = b3 ∧ a4 = b4 ∧ a5 = b5 ∧ a6 = b6 ∧ a7 = b7 ∧ a8 = b8 := by
  cases h
  exact ⟨rfl, rfl, rfl, rfl, rfl, rfl, rfl, rfl, rfl⟩
theorem zinl2_1_9 {α0 α1 α2 α3 α4 α5 α6 α7 α8 : Type} {β : Type} {a0 b0 : α0} {a1 b1 : α1} {a2 b2 : α2} {a3 b3 : α3} {a4 b4 : α4} {a5 b5 : α5} {a6 b6 : α6} {a7 b7 : α7} {a8 b8 : α8} (h : (Sum.inr (a0, a1, a2, a3, a4, a5, a6, a7, a8) : β ⊕ (α0 × α1 × α2 × α3 × α4 × α5 × α6 × α7 × α8)) = Sum.inr (b0, b1, b2, b3, b4, b5, b6, b7, b8)) : a0 = b0 ∧ a1 = b1 ∧ a2 = b2 ∧ a3 = b3 ∧ a4 = b4 ∧ a5 = b5 ∧ a6 = b6 ∧ a7 = b7 ∧ a8 = b8 := by
  cases h
  exact ⟨rfl, rfl, rfl, rfl, rfl, rfl, rfl, rfl, rfl⟩
theorem zinl3_0_9 {α0 α1 α2 α3 α4 α5 α6 α7 α8 : Type} {β : Type} {a0 b0 : α0} {a1 b1 : α1} {a2 b2 : α2} {a3 b3 : α3} {a4 b4 : α4} {a5 b5 : α5} {a6 b6 : α6} {a7 b7 : α7} {a8 b8 : α8} (h : (Sum.inl (a0, a1, a2, a3, a4, a5, a6, a7, a8) : (α0 × α1 × α2 × α3 × α4 × α5 × α6 × α7 × α8) ⊕ β) = Sum.inl (b0, b1, b2, b3, b4, b5, b6, b7, b8)) : a0 = b0 ∧ a1 = b1 ∧ a2 = b2 ∧ a3 = b3 ∧ a4 = b4 ∧ a5 = b5 ∧ a6 = b6 ∧ a7 = b7 ∧ a8 = b8 := by
  cases h
  exact ⟨rfl, rfl, rfl, rfl, rfl, rfl, rfl, rfl, rfl⟩
theorem zinl3_1_9 {α0 α1 α2 α3 α4 α5 α6 α7 α8 : Type} {β γ : Type} {a0 b0 : α0} {a1 b1 : α1} {a2 b2 : α2} {a3 b3 : α3} {a4 b4 : α4} {a5 b5 : α5} {a6 b6 : α6} {a7 b7 : α7} {a8 b8 : α8} (h : (Sum.inr (Sum.inl (a0, a1, a2, a3, a4, a5, a6, a7, a8)) : β ⊕ ((α0 × α1 × α2 × α3 × α4 × α5 × α6 × α7 × α8) ⊕ γ)) = Sum.inr (Sum.inl (b0, b1, b2, b3, b4, b5, b6, b7, b8))) : a0 = b0 ∧ a1 = b1 ∧ a2 = b2 ∧ a3 = b3 ∧ a4 = b4 ∧ a5 = b5 ∧ a6 = b6 ∧ a7 = b7 ∧ a8 = b8 := by
  cases h
  exact ⟨rfl, rfl, rfl, rfl, rfl, rfl, rfl, rfl, rfl⟩
theorem zinl3_2_9 {α0 α1 α2 α3 α4 α5 α6 α7 α8 : Type} {β γ : Type} {a0 b0 : α0} {a1 b1 : α1} {a2 b2 : α2} {a3 b3 : α3} {a4 b4 : α4} {a5 b5 : α5} {a6 b6 : α6} {a7 b7 : α7} {a8 b8 : α8} (h : (Sum.inr (Sum.inr (a0, a1, a2, a3, a4, a5, a6, a7, a8)) : β ⊕ (γ ⊕ (α0 × α1 × α2 × α3 × α4 × α5 × α6 × α7 × α8))) = Sum.inr (Sum.inr (b0, b1, b2, b3, b4, b5, b6, b7, b8))) : a0 = b0 ∧ a1 = b1 ∧ a2 = b2 ∧ a3 = b3 ∧ a4 = b4 ∧ a5 = b5 ∧ a6 = b6 ∧ a7 = b7 ∧ a8 = b8 := by
  cases h
  exact ⟨rfl, rfl, rfl, rfl, rfl, rfl, rfl, rfl, rfl⟩
theorem zinl2_0_10 {α0 α1 α2 α3 α4 α5 α6 α7 α8 α9 : Type} {β : Type} {a0 b0 : α0} {a1 b1 : α1} {a2 b2 : α2} {a3 b3 : α3} {a4 b4 : α4} {a5 b5 : α5} {a6 b6 : α6} {a7 b7 : α7} {a8 b8 : α8} {a9 b9 : α9} (h : (Sum.inl (a0, a1, a2, a3, a4, a5, a6, a7, a8, a9) : (α0 × α1 × α2 × α3 × α4 × α5 × α6 × α7 × α8 × α9) ⊕ β) = Sum.inl (b0, b1, b2, b3, b4, b5, b6, b7, b8, b9)) : a0 = b0 ∧ a1 = b1 ∧ a2 = b2 ∧ a3 = b3 ∧ a4 = b4 ∧ a5 = b5 ∧ a6 = b6 ∧ a7 = b7 ∧ a8 = b8 ∧ a9 = b9 := by
  cases h
  exact ⟨rfl, rfl, rfl, rfl, rfl, rfl, rfl, rfl, rfl, rfl⟩
theorem zinl2_1_10 {α0 α1 α2 α3 α4 α5 α6 α7 α8 α9 : Type} {β : Type} {a0 b0 : α0} {a1 b1 : α1} {a2 b2 : α2} {a3 b3 : α3} {a4 b4 : α4} {a5 b5 : α5} {a6 b6 : α6} {a7 b7 : α7} {a8 b8 : α8} {a9 b9 : α9} (h : (Sum.inr (a0, a1, a2, a3, a4, a5, a6, a7, a8, a9) : β ⊕ (α0 × α1 × α2 × α3 × α4 × α5 × α6 × α7 × α8 × α9)) = Sum.inr (b0, b1, b2, b3, b4, b5, b6, b7, b8, b9)) : a0 = b0 ∧ a1 = b1 ∧ a2 = b2 ∧ a3 = b3 ∧ a4 = b4 ∧ a5 = b5 ∧ a6 = b6 ∧ a7 = b7 ∧ a8 = b8 ∧ a9 = b9 := by
  cases h
  exact ⟨rfl, rfl, rfl, rfl, rfl, rfl, rfl, rfl, rfl, rfl⟩
theorem zinl3_0_10 {α0 α1 α2 α3 α4 α5 α6 α7 α8 α9 : Type} {β : Type} {a0 b0 : α0} {a1 b1 : α1} {a2 b2 : α2} {a3 b3 : α3} {a4 b4 : α4} {a5 b5 : α5} {a6 b6 : α6} {a7 b7 : α7} {a8 b8 : α8} {a9 b9 : α9} (h : (Sum.inl (a0, a1, a2, a3, a4, a5, a6, a7, a8, a9) : (α0 × α1 × α2 × α3 × α4 × α5 × α6 × α7 × α8 × α9) ⊕ β) = Sum.inl (b0, b1, b2, b3, b4, b5, b6, b7, b8, b9)) : a0 = b0 ∧ a1 = b1 ∧ a2 = b2 ∧ a3 = b3 ∧ a4 = b4 ∧ a5 = b5 ∧ a6 = b6 ∧ a7 = b7 ∧ a8 = b8 ∧ a9 = b9 := by
  cases h
  exact ⟨rfl, rfl, rfl, rfl, rfl, rfl, rfl, rfl, rfl, rfl⟩
theorem zinl3_1_10 {α0 α1 α2 α3 α4 α5 α6 α7 α8 α9 : Type} {β γ : Type} {a0 b0 : α0} {a1 b1 : α1} {a2 b2 : α2} {a3 b3 : α3} {a4 b4 : α4} {a5 b5 : α5} {a6 b6 : α6} {a7 b7 : α7} {a8 b8 : α8} {a9 b9 : α9} (h : (Sum.inr (Sum.inl (a0, a1, a2, a3, a4, a5, a6, a7, a8, a9)) : β ⊕ ((α0 × α1 × α2 × α3 × α4 × α5 × α6 × α7 × α8 × α9) ⊕ γ)) = Sum.inr (Sum.inl (b0, b1, b2, b3, b4, b5, b6, b7, b8, b9))) : a0 = b0 ∧ a1 = b1 ∧ a2 = b2 ∧ a3 = b3 ∧ a4 = b4 ∧ a5 = b5 ∧ a6 = b6 ∧ a7 = b7 ∧ a8 = b8 ∧ a9 = b9 := by
  cases h
  exact ⟨rfl, rfl, rfl, rfl, rfl, rfl, rfl, rfl, rfl, rfl⟩
theorem zinl3_2_10 {α0 α1 α2 α3 α4 α5 α6 α7 α8 α9 : Type} {β γ : Type} {a0 b0 : α0} {a1 b1 : α1} {a2 b2 : α2} {a3 b3 : α3} {a4 b4 : α4} {a5 b5 : α5} {a6 b6 : α6} {a7 b7 : α7} {a8 b8 : α8} {a9 b9 : α9} (h : (Sum.inr (Sum.inr (a0, a1, a2, a3, a4, a5, a6, a7, a8, a9)) : β ⊕ (γ ⊕ (α0 × α1 × α2 × α3 × α4 × α5 × α6 × α7 × α8 × α9))) = Sum.inr (Sum.inr (b0, b1, b2, b3, b4, b5, b6, b7, b8, b9))) : a0 = b0 ∧ a1 = b1 ∧ a2 = b2 ∧ a3 = b3 ∧ a4 = b4 ∧ a5 = b5 ∧ a6 = b6 ∧ a7 = b7 ∧ a8 = b8 ∧ a9 = b9 := by
  cases h
  exact ⟨rfl, rfl, rfl, rfl, rfl, rfl, rfl, rfl, rfl, rfl⟩
theorem zinl2_0_11 {α0 α1 α2 α3 α4 α5 α6 α7 α8 α9 α10 : Type} {β : Type} {a0 b0 : α0} {a1 b1 : α1} {a2 b2 : α2} {a3 b3 : α3} {a4 b4 : α4} {a5 b5 : α5} {a6 b6 : α6} {a7 b7 : α7} {a8 b8 : α8} {a9 b9 : α9} {a10 b10 : α10} (h : (Sum.inl (a0, a1, a2, a3, a4, a5, a6, a7, a8, a9, a10) : (α0 × α1 × α2 × α3 × α4 × α5 × α6 × α7 × α8 × α9 × α10) ⊕ β) = Sum.inl (b0, b1, b2, b3, b4, b5, b6, b7, b8, b9, b10)) : a0 = b0 ∧ a1 = b1 ∧ a2 = b2 ∧ a3 = b3 ∧ a4 = b4 ∧ a5 = b5 ∧ a6 = b6 ∧ a7 = b7 ∧ a8 = b8 ∧ a9 = b9 ∧ a10 = b10 := by
  cases h
  exact ⟨rfl, rfl, rfl, rfl, rfl, rfl, rfl, rfl, rfl, rfl, rfl⟩
theorem zinl2_1_11 {α0 α1 α2 α3 α4 α5 α6 α7 α8 α9 α10 : Type} {β : Type} {a0 b0 : α0} {a1 b1 : α1} {a2 b2 : α2} {a3 b3 : α3} {a4 b4 : α4} {a5 b5 : α5} {a6 b6 : α6} {a7 b7 : α7} {a8 b8 : α8} {a9 b9 : α9} {a10 b10 : α10} (h : (Sum.inr (a0, a1, a2, a3, a4, a5, a6, a7, a8, a9, a10) : β ⊕ (α0 × α1 × α2 × α3 × α4 × α5 × α6 × α7 × α8 × α9 × α10)) = Sum.inr (b0, b1, b2, b3, b4, b5, b6, b7, b8, b9, b10)) : a0 = b0 ∧ a1 = b1 ∧ a2 = b2 ∧ a3 = b3 ∧ a4 = b4 ∧ a5 = b5 ∧ a6 = b6 ∧ a7 = b7 ∧ a8 = b8 ∧ a9 = b9 ∧ a10 = b10 := by
  cases h
  exact ⟨rfl, rfl, rfl, rfl, rfl, rfl, rfl, rfl, rfl, rfl, rfl⟩
theorem zinl3_0_11 {α0 α1 α2 α3 α4 α5 α6 α7 α8 α9 α10 : Type} {β : Type} {a0 b0 : α0} {a1 b1 : α1} {a2 b2 : α2} {a3 b3 : α3} {a4 b4 : α4} {a5 b5 : α5} {a6 b6 : α6} {a7 b7 : α7} {a8 b8 : α8} {a9 b9 : α9} {a10 b10 : α10} (h : (Sum.inl (a0, a1, a2, a3, a4, a5, a6, a7, a8, a9, a10) : (α0 × α1 × α2 × α3 × α4 × α5 × α6 × α7 × α8 × α9 × α10) ⊕ β) = Sum.inl (b0, b1, b2, b3, b4, b5, b6, b7, b8, b9, b10)) : a0 = b0 ∧ a1 = b1 ∧ a2 = b2 ∧ a3 = b3 ∧ a4 = b4 ∧ a5 = b5 ∧ a6 = b6 ∧ a7 = b7 ∧ a8 = b8 ∧ a9 = b9 ∧ a10 = b10 := by
  cases h
  exact ⟨rfl, rfl, rfl, rfl, rfl, rfl, rfl, rfl, rfl, rfl, rfl⟩
theorem zinl3_1_11 {α0 α1 α2 α3 α4 α5 α6 α7 α8 α9 α10 : Type} {β γ : Type} {a0 b0 : α0} {a1 b1 : α1} {a2 b2 : α2} {a3 b3 : α3} {a4 b4 : α4} {a5 b5 : α5} {a6 b6 : α6} {a7 b7 : α7} {a8 b8 : α8} {a9 b9 : α9} {a10 b10 : α10} (h : (Sum.inr (Sum.inl (a0, a1, a2, a3, a4, a5, a6, a7, a8, a9, a10)) : β ⊕ ((α0 × α1 × α2 × α3 × α4 × α5 × α6 × α7 × α8 × α9 × α10) ⊕ γ)) = Sum.inr (Sum.inl (b0, b1, b2, b3, b4, b5, b6, b7, b8, b9, b10))) : a0 = b0 ∧ a1 = b1 ∧ a2 = b2 ∧ a3 = b3 ∧ a4 = b4 ∧ a5 = b5 ∧ a6 = b6 ∧ a7 = b7 ∧ a8 = b8 ∧ a9 = b9 ∧ a10 = b10 := by
  cases h
  exact ⟨rfl, rfl, rfl, rfl, rfl, rfl, rfl, rfl, rfl, rfl, rfl⟩
theorem zinl3_2_11 {α0 α1 α2 α3 α4 α5 α6 α7 α8 α9 α10 : Type} {β γ : Type} {a0 b0 : α0} {a1 b1 : α1} {a2 b2 : α2} {a3 b3 : α3} {a4 b4 : α4} {a5 b5 : α5} {a6 b6 : α6} {a7 b7 : α7} {a8 b8 : α8} {a9 b9 : α9} {a10 b10 : α10} (h : (Sum.inr (Sum.inr (a0, a1, a2, a3, a4, a5, a6, a7, a8, a9, a10)) : β ⊕ (γ ⊕ (α0 × α1 × α2 × α3 × α4 × α5 × α6 × α7 × α8 × α9 × α10))) = Sum.inr (Sum.inr (b0, b1, b2, b3, b4, b5, b6, b7, b8, b9, b10))) : a0 = b0 ∧ a1 = b1 ∧ a2 = b2 ∧ a3 = b3 ∧ a4 = b4 ∧ a5 = b5 ∧ a6 = b6 ∧ a7 = b7 ∧ a8 = b8 ∧ a9 = b9 ∧ a10 = b10 := by
  cases h
  exact ⟨rfl, rfl, rfl, rfl, rfl, rfl, rfl, rfl, rfl, rfl, rfl⟩
section ZP
variable {l : Launch} {E : zE} {d : Nat} {M : zMeth} {k : Nat} {L S : List zV} {h : zHp} {Q : Int → zHp → Prop}
theorem z_ialdc (j : Nat) {i n : Nat} {a : Int} (ho : zop M k = (42, 0, [])) (hO : zO[i]? = some (.inr (0, n))) (hj : a = (j : Int)) (hl : j < n) (kk : zW l E d M (k + 1) L (.inl (h i j) :: S) h Q) : zW l E d M k L (.inl a :: .inr (.inr i) :: S) h Q := by
  subst hj
  exact z_iald ho hO (by omega) (by omega) kk
theorem z_laldc (j : Nat) {i n : Nat} {a : Int} (ho : zop M k = (44, 0, [])) (hO : zO[i]? = some (.inr (1, n))) (hj : a = (j : Int)) (hl : j < n) (kk : zW l E d M (k + 1) L (.inr (.inl (h i j)) :: S) h Q) : zW l E d M k L (.inl a :: .inr (.inr i) :: S) h Q := by
  subst hj
  exact z_lald ho hO (by omega) (by omega) kk
theorem z_baldc (j : Nat) {i n : Nat} {a : Int} (ho : zop M k = (46, 0, [])) (hO : zO[i]? = some (.inr (2, n))) (hj : a = (j : Int)) (hl : j < n) (kk : (h i j = 0 ∨ h i j = 1) → zW l E d M (k + 1) L (.inl (h i j) :: S) h Q) : zW l E d M k L (.inl a :: .inr (.inr i) :: S) h Q := by
  subst hj
  exact z_bald ho hO (by omega) (by omega) kk
theorem z_iastc (j : Nat) {i n : Nat} {a b : Int} (ho : zop M k = (43, 0, [])) (hO : zO[i]? = some (.inr (0, n))) (hj : a = (j : Int)) (hl : j < n) (kk : zW l E d M (k + 1) L S (zst h i j b) Q) : zW l E d M k L (.inl b :: .inl a :: .inr (.inr i) :: S) h Q := by
  subst hj
  exact z_iast ho hO (by omega) (by omega) kk
theorem z_lastc (j : Nat) {i n : Nat} {a b : Int} (ho : zop M k = (45, 0, [])) (hO : zO[i]? = some (.inr (1, n))) (hj : a = (j : Int)) (hl : j < n) (kk : zW l E d M (k + 1) L S (zst h i j b) Q) : zW l E d M k L (.inr (.inl b) :: .inl a :: .inr (.inr i) :: S) h Q := by
  subst hj
  exact z_last ho hO (by omega) (by omega) kk
theorem z_math (nm : MethodName) (cd : ByteArray) (ml ix j : Nat) {p : Program} {R : Room} {s : State} {m : MethodId} {args : Array Value} {c : Code} {cells slots : Nat} (hX : zX E d M p R s m args c cells slots) (ho : zop M k = (50, 0, [ix, j])) (hn : (zhj j).2.1 = nm) (hcd : (zhj j).2.2.1 = cd) (hml : (zhj j).2.2.2.1 = ml) (hrt : (zhj j).2.2.2.2.1 = some .int) (hcl : nm.cls = "java/lang/Math") (hne : zMp2.all (fun q => q.2.2.1 != j) = true) :
    decode (zby M) (zpc M k) = .ok (.invokestatic ix, 3) ∧ zpc M (k + 1) = zpc M k + 3 ∧ (Jvm.Cond.methodLink (zcl M) ix nm).before args s = true ∧ (Jvm.Cond.static nm).before args s = true ∧ (Jvm.Cond.initialized "java/lang/Math").before args s = true ∧ (Jvm.Cond.code nm cd ml (some .int)).before args s = true := by
  have hck : (zdc M k 3 (.invokestatic ix) && ((zMp.contains ((zhd M).1, ix, j, false) || zMp.contains ((zhd M).1, ix, j, true)) && zSok j)) = true := zck_at hX.2.2.2.2.2.2.2.1 ho (by decide : (50 : Nat) ≠ 999)
  obtain ⟨hck, hmp⟩ := (Bool.and_eq_true _ _).mp hck
  obtain ⟨hdg, hpc⟩ := zdc_at hck
  obtain ⟨hmp, hi⟩ := (Bool.and_eq_true _ _).mp hmp
  unfold zSok at hi
  simp only [Bool.and_eq_true] at hi
  obtain ⟨hi1, hi2, hi4⟩ := hi
  obtain ⟨ok1, ok2, ok3, ok4, ok5⟩ := zhok_of hi1
  have hl : zMp.contains ((zhd M).1, ix, j, false) = true := by
    rcases (Bool.or_eq_true _ _).mp hmp with q | q
    · exact q
    · exfalso
      rcases List.mem_append.mp (List.contains_iff_mem.mp q) with q | q
      · exact absurd (List.all_eq_true.mp (by decide +kernel : zMp1.all (fun q => !q.2.2.2) = true) _ q) (by simp)
      · have := List.all_eq_true.mp hne _ q
        simp at this
  have g : ∀ {w : Jvm.Cond}, w ∈ lw_tbl → goodWord w = true → w.before args s = true := fun h1 h2 => hX.2.2.2.2.1 _ (List.mem_filter.mpr ⟨h1, h2⟩)
  have w1 := g (zw_link hl) rfl
  have w2 := g (zw_stat hi2) rfl
  have w3 := g (zw_ini hi4) rfl
  have w4 := g (zw_code hi1) rfl
  rw [hn] at w1 w2 w4
  rw [hcd, hml, hrt] at w4
  rw [← ok1, hn, hcl] at w3
  exact ⟨hdg, hpc, w1, w2, w3, w4⟩
theorem z_mmin {a b : Int} {ix : Nat} (ho : zop M k = (50, 0, [ix, 235])) (hne : zMp2.all (fun q => q.2.2.1 != 235) = true) (hd : 1 ≤ d) (hst : decide ((S.map zcat).sum ≤ 8) = true) (kk : zW l E d M (k + 1) L (.inl (zmin a b) :: S) h Q) : zW l E d M k L (.inl b :: .inl a :: S) h Q := by
  intro p e R s m args below meth c H locs ls cells slots QQ hX hE hS hL hv
  obtain ⟨hdg, hn, w1, w2, w3, w4⟩ := z_math (E := E) (d := d) Lib.Math.min.name Lib.Math.min.code 2 ix 235 hX ho rfl (by decide +kernel) rfl rfl rfl hne
  have hb0 : zI32 b := (zrv_c hv).1
  have ha0 : zI32 a := (zrv_c (zrv_c hv).2).1
  have hv2 := (zrv_c (zrv_c hv).2).2
  have hR := hX.2.2.2.2.2.2.2.2.1
  have hf := hX.2.2.2.2.2.2.2.2.2.2.2
  have k1 := kk p e R s m args below meth c H locs ls cells slots QQ hX hE hS hL (zrv_k (v := .inl (zmin a b)) (by show zI32 (zmin a b); unfold zmin; split <;> assumption) hv2)
  refine va_mmin hX.1 hX.2.1 (by rw [hX.2.2.1]; obtain ⟨-, -, lv, hh, -⟩ := hL; exact hh.1.symm) hX.2.2.2.1 w1 w2 w3 w4 (by omega) (by rw [zcat_up hf]; have := of_decide_eq_true hst; omega) hX.2.2.2.2.2.2.2.2.2.1.1 hX.2.2.2.2.2.2.2.2.2.1.2 hdg ?_
  rw [← hn]
  have e1 : (if Int32.ofInt b < Int32.ofInt a then Int32.ofInt b else Int32.ofInt a) = Int32.ofInt (zmin a b) := by
    unfold zmin
    by_cases q : a ≤ b
    · rw [if_pos q, if_neg (fun z => by have := (o32_lt hb0 ha0).mp z; omega)]
    · rw [if_neg q, if_pos ((o32_lt hb0 ha0).mpr (by omega))]
  rw [e1]
  exact k1
theorem z_mabs {a : Int} {ix : Nat} (ho : zop M k = (50, 0, [ix, 234])) (hne : zMp2.all (fun q => q.2.2.1 != 234) = true) (hd : 1 ≤ d) (hst : decide ((S.map zcat).sum ≤ 8) = true) (kk : zW l E d M (k + 1) L (.inl (zabs a) :: S) h Q) : zW l E d M k L (.inl a :: S) h Q := by
  intro p e R s m args below meth c H locs ls cells slots QQ hX hE hS hL hv
  obtain ⟨hdg, hn, w1, w2, w3, w4⟩ := z_math (E := E) (d := d) Lib.Math.abs.name Lib.Math.abs.code 1 ix 234 hX ho rfl (by decide +kernel) rfl rfl rfl hne
  have ha0 : zI32 a := (zrv_c hv).1
  have hv2 := (zrv_c hv).2
  have hR := hX.2.2.2.2.2.2.2.2.1
  have hf := hX.2.2.2.2.2.2.2.2.2.2.2
  have k1 := kk p e R s m args below meth c H locs ls cells slots QQ hX hE hS hL (zrv_k (v := .inl (zabs a)) (by show zI32 (zabs a); unfold zabs; split; assumption; exact w32_r _) hv2)
  refine va_mabs hX.1 hX.2.1 (by rw [hX.2.2.1]; obtain ⟨-, -, lv, hh, -⟩ := hL; exact hh.1.symm) hX.2.2.2.1 w1 w2 w3 w4 (by omega) (by rw [zcat_up hf]; have := of_decide_eq_true hst; omega) hX.2.2.2.2.2.2.2.2.2.1.1 hX.2.2.2.2.2.2.2.2.2.1.2 hdg ?_
  rw [← hn]
  have e1 : (if 0 ≤ Int32.ofInt a then Int32.ofInt a else 0 - Int32.ofInt a) = Int32.ofInt (zabs a) := by
    unfold zabs
    have e0 : (0 : Int32) = Int32.ofInt 0 := rfl
    by_cases q : 0 ≤ a
    · rw [if_pos q, if_pos (by rw [e0]; exact (o32_le (by unfold zI32; omega) ha0).mpr q)]
    · rw [if_neg q, if_neg (fun z => q ((o32_le (by unfold zI32; omega) ha0).mp (by rw [e0] at z; exact z))), w32_o, e0, ← Int32.ofInt_sub]
      congr 1
      omega
  rw [e1]
  exact k1
end ZP
