/-! the cells at the start -/
def zh0 : zHp := fun id j => match zg2[id]? with
  | some (.inl (_, fs)) => (match fs[j]? with
    | some (some (.inl a)) => a
    | some (some (.inr (.inl a))) => a
    | _ => 0)
  | some (.inr (_, _, w)) => zgl w j
  | none => 0
theorem zh0_7 : zh0 86 7 = 0 ∧ zh0 86 2 = 0 ∧ zh0 86 6 = 0 ∧ zh0 87 7 = 0 ∧ zh0 87 2 = 0 ∧ zh0 87 6 = 0 ∧ zh0 86 4 = 0 ∧ zh0 87 4 = 0 := by decide +kernel
theorem zh0_yc : zYc 0 zh0 (zh0 86) := by
  refine ⟨by decide +kernel, by decide +kernel, by decide +kernel, by decide +kernel, by decide +kernel, fun k hk => ?_⟩
  rw [zh0_7.1] at hk
  omega
theorem zh0_yd : zYc 40 zh0 (zh0 87) := by
  refine ⟨by decide +kernel, by decide +kernel, by decide +kernel, by decide +kernel, by decide +kernel, fun k hk => ?_⟩
  rw [zh0_7.2.2.2.1] at hk
  omega
theorem zh0_ok : zOk (zh0 86) := by
  refine ⟨by decide +kernel, by decide +kernel, by decide +kernel, fun o ho => ?_, fun k hk => ?_, fun k hk => ?_⟩
  · rw [zh0_7.2.1] at ho
    omega
  · rw [zh0_7.2.2.1] at hk
    omega
  · rw [zh0_7.1] at hk
    omega
theorem zh0_ol : zOk (zh0 87) := by
  refine ⟨by decide +kernel, by decide +kernel, by decide +kernel, fun o ho => ?_, fun k hk => ?_, fun k hk => ?_⟩
  · rw [zh0_7.2.2.2.2.1] at ho
    omega
  · rw [zh0_7.2.2.2.2.2.1] at hk
    omega
  · rw [zh0_7.2.2.2.1] at hk
    omega
theorem zh0_inv : zInv zh0 := by
  refine ⟨⟨zh0_yc, zh0_ok⟩, ⟨zh0_yd, zh0_ol⟩, by decide +kernel, ⟨fun _ _ => [], fun t ht => ?_⟩, ⟨by decide +kernel, by decide +kernel, by decide +kernel, by decide +kernel⟩, by decide +kernel, by decide +kernel⟩
  rw [zh0_7.2.2.2.2.2.2.1] at ht
  omega
