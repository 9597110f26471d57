/-! the budgets of zgo only grow -/
set_option maxHeartbeats 2000000 in
theorem zgo_mono : ∀ (n d : Nat) (M : zMeth) (k : Nat) (L S : List zV) (g : List zGc) (mc ms : Nat) (g1 : List zGc) (mc1 ms1 : Nat), zgo n d M k L S g mc ms = some (g1, mc1, ms1) → mc ≤ mc1 ∧ ms ≤ ms1 := by
  intro n
  induction n with
  | zero => intro d M k L S g mc ms g1 mc1 ms1 h; rw [zgo] at h; cases h
  | succ n ih =>
    intro d M k L S g mc ms g1 mc1 ms1 h
    rw [zgo.eq_def] at h
    dsimp only at h
    generalize zop M k = o at h
    obtain ⟨c, a, x⟩ := o
    dsimp only at h
    repeat' split at h
    all_goals first
      | (cases h; done)
      | (have h2 := ih _ _ _ _ _ _ _ _ _ _ _ h; omega)
      | (cases h; exact ⟨Nat.le_refl _, Nat.le_refl _⟩)
