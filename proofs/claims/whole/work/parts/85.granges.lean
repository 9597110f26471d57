/-! the cells at the start: ranges -/
theorem zg2_r : zg2.all (fun c => match c with
    | .inl q => q.2.all (fun f => match f with
      | some (.inl a) => decide (-2147483648 ≤ a ∧ a ≤ 2147483647)
      | some (.inr (.inl a)) => decide (-2147483648 ≤ a ∧ a ≤ 2147483647)
      | _ => true)
    | .inr q => q.2.2.all (fun x => decide (-2147483648 ≤ x.2 ∧ x.2 ≤ 2147483647)) && (q.1 != 2 || q.2.2.isEmpty)) = true := by decide +kernel
theorem zh0_i (o i : Nat) : zI32 (zh0 o i) := by
  have hz : zI32 0 := by unfold zI32; omega
  cases hg : zg2[o]? with
  | none =>
    have : zh0 o i = 0 := by unfold zh0; rw [hg]
    rw [this]; exact hz
  | some c =>
    have h1 := List.all_eq_true.mp zg2_r _ (List.mem_of_getElem? hg)
    match c, hg, h1 with
    | .inl (ci, fs), hg, h1 =>
      rw [zh0_f hg]
      cases hf : fs[i]? with
      | none => exact hz
      | some f =>
        have h2 := List.all_eq_true.mp h1 f (List.mem_of_getElem? hf)
        match f, h2 with
        | some (.inl a), h2 => exact zI32_d (a := a) h2
        | some (.inr (.inl a)), h2 => exact zI32_d (a := a) h2
        | some (.inr (.inr r)), _ => exact hz
        | none, _ => exact hz
    | .inr (kd, n, w), hg, h1 =>
      rw [zh0_a hg]
      exact zgl_r (fun x hx => zI32_d (List.all_eq_true.mp ((Bool.and_eq_true _ _).mp h1).1 x hx)) i
theorem zh0_rg : zRg zh0 := by
  intro o i
  have h1 := zh0_i o i
  refine ⟨?_, fun hb => ?_⟩
  · split
    · unfold zI32 at h1
      unfold zI64
      omega
    · exact h1
  · obtain ⟨hl, hz⟩ := zg_fit
    unfold zbl at hb
    cases hO : zO[o]? with
    | none => rw [hO] at hb; cases hb
    | some dd =>
      have hi := (List.getElem?_eq_some_iff.mp hO).1
      cases hg : zg2[o]? with
      | none => exact absurd (List.getElem?_eq_none_iff.mp hg) (by omega)
      | some c =>
        have hm : (dd, c) ∈ List.zip zO zg2 := by
          apply List.mem_of_getElem? (i := o)
          rw [List.getElem?_zip_eq_some]
          exact ⟨hO, hg⟩
        have hk := List.all_eq_true.mp hz _ hm
        have h9 := List.all_eq_true.mp zg2_r _ (List.mem_of_getElem? hg)
        rw [hO] at hb
        match dd, c, hg, hk, hb, h9 with
        | .inl (ci, ks), .inl (c2, fs), hg, hk, hb, _ =>
          have hk : (ci == c2 && (ks.length == fs.length && (List.zip ks fs).all (fun q => zgfk q.1 q.2))) = true := hk
          simp only [Bool.and_eq_true, beq_iff_eq] at hk
          obtain ⟨k1, k2, k3⟩ := hk
          have hks : ks[i]? = some 2 := beq_iff_eq.mp (show (ks[i]? == some 2) = true from hb)
          have hj := (List.getElem?_eq_some_iff.mp hks).1
          rw [zh0_f hg]
          cases hf : fs[i]? with
          | none => exact Or.inl rfl
          | some f =>
            have hm2 : ((2 : Nat), f) ∈ List.zip ks fs := by
              apply List.mem_of_getElem? (i := i)
              rw [List.getElem?_zip_eq_some]
              exact ⟨hks, hf⟩
            have h3 := List.all_eq_true.mp k3 _ hm2
            match f, h3 with
            | some (.inl a), h3 => exact of_decide_eq_true h3
        | .inr (kd, n), .inr (kd2, n2, w), hg, hk, hb, h9 =>
          have hk : (kd == kd2 && n == n2) = true := hk
          simp only [Bool.and_eq_true, beq_iff_eq] at hk
          have h2 : kd = 2 := beq_iff_eq.mp (show (kd == 2) = true from hb)
          have h8 := ((Bool.and_eq_true _ _).mp h9).2
          have h7 : (kd2 != 2 || w.isEmpty) = true := h8
          rw [← hk.1, h2] at h7
          have h6 : w = [] := List.isEmpty_iff.mp (by simpa using h7)
          rw [zh0_a hg, h6]
          exact Or.inl rfl
