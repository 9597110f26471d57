/-! PURE: text, the case -/
theorem zLc_e {h h1 : zHp} {t c : Nat} {F : Nat → List Int} (A : zLc h t c F) (a : h1 28 = h 28) (b : h1 30 = h 30) (d : h1 32 = h 32) : zLc h1 t c F := by
  unfold zLc at A ⊢
  rw [a, b, d]
  exact A
theorem zLr_e {h h1 : zHp} {t c : Nat} {F : Nat → List Int} (A : zLr h t c F) (a : h1 88 = h 88) : zLr h1 t c F := by
  unfold zLr zEm at A ⊢
  rw [a]
  exact A
theorem zc_text {N : Nat} (hN : 1300 ≤ N) {h : zHp} (hI : zInv h) : ∃ h2, zcas (sh_Ox_text N) (sh_Mo_text N) h = some (1, h2) ∧ zInv h2 := by
  have hI' := hI
  obtain ⟨⟨hy, hk⟩, -, -, -, ⟨i1, i2, i3, i4⟩, -, -⟩ := hI'
  have k1 := hk.1
  have ey : h 1 12 = h 86 4 := hy.1.2.2.2.2.1
  obtain ⟨t, ht⟩ : ∃ t : Nat, h 86 4 = t := ⟨(h 86 4).toNat, by omega⟩
  obtain ⟨len, hlen⟩ : ∃ n : Nat, h 85 4 = n := ⟨(h 85 4).toNat, by omega⟩
  by_cases c4 : t = 4
  · refine ⟨h, zcas_of (r := -1) (h1 := h) ?_ ?_, hI⟩
    · unfold sh_Ox_text; rw [if_neg (by omega)]
    · unfold sh_Mo_text; rw [if_pos (by omega)]
  have ht3 : t ≤ 3 := by omega
  have e01 : h 0 1 = len := by omega
  have e112 : h 1 12 = t := by omega
  have hC := ztx_c (N := N) hN e01 (by omega) e112 ht3
  have hR := fun (g : zHp) (a : g 85 = h 85) (b : g 86 = h 86) (c : g 89 = h 89) => ztx_r (N := N) (g := g) (b := h 25) (len := len) (t := t) hN ⟨by rw [a]; exact hlen, by omega, fun i hi => by rw [c]; exact (i4 i hi).1.symm, fun i hi => by have := i4 i hi; omega⟩ (by rw [b]; exact ht) ht3
  have ew : w32 ((t : Int) + 1) = ((t + 1 : Nat) : Int) := by rw [w32_s (by omega) (by omega)]; omega
  cases hr : zRdT (h 25) len 6 0 (fun _ => []) with
  | inl e =>
    rw [hr] at hC
    obtain ⟨h8, r1, ⟨r2, r3⟩, r4, r5⟩ := hC
    have n8 : ∀ id, id ≠ 0 → id ≠ 28 → id ≠ 30 → id ≠ 32 → id ≠ 67 → h8 id = h id := fun id a0 a b c d => by rw [r5.1 id a b c d, zst_if, if_neg a0]
    have hq := hR h8 (n8 85 (by decide) (by decide) (by decide) (by decide) (by decide)) (n8 86 (by decide) (by decide) (by decide) (by decide) (by decide)) (n8 89 (by decide) (by decide) (by decide) (by decide) (by decide))
    rw [hr] at hq
    obtain ⟨g1, u1, u2, u3⟩ := hq
    have hF : sh_Ox_text N h = some (-1, h8) := by
      unfold sh_Ox_text
      rw [if_pos (by omega), r1]
      rfl
    obtain ⟨h2, eh⟩ : ∃ x, zst (zst (zst g1 85 5 e.1) 85 6 (e.2 : Int)) 85 4 0 = x := ⟨_, rfl⟩
    have hG : sh_Mo_text N h8 = some (-1, h2) := by
      unfold sh_Mo_text
      rw [if_neg (by rw [n8 86 (by decide) (by decide) (by decide) (by decide) (by decide)]; omega), u1]
      simp only [zb2_some]
      have w5 : zst g1 85 5 e.1 85 5 = e.1 := by rw [zst_if, if_pos rfl, zup1_eq]
      have w8 : zst g1 85 5 e.1 85 8 = (e.2 : Int) := by rw [zst_if, if_pos rfl, zup1_ne _ _ (by decide)]; exact u2
      have w55 : h2 85 5 = e.1 := by rw [← eh]; simp (disch := omega) only [zst_if, zup1_ne, zup1_eq, w32_s, rget_in, rput_in, zgrd, Nat.reduceEqDiff, Nat.reduceAdd, ↓reduceIte, Int.reduceToNat, zb1_some, zb2_some, zb3_some, zb4_some, zb5_some, Int.toNat_natCast, true_and, and_true]
      rw [w5, if_neg r4, w8, eh, w55, if_neg r4]
    have n2 : ∀ id, id ≠ 85 → h2 id = g1 id := fun id a => by rw [← eh, zst_if, if_neg a, zst_if, if_neg a, zst_if, if_neg a]
    have n3 : ∀ id, id ≠ 85 → id ≠ 88 → id ≠ 90 → h2 id = h8 id := fun id a b c => (n2 id a).trans (u3.1 id a b c)
    refine ⟨h2, zcas_of hF hG, zInv_tx hI ht (fun id a0 a1 a2 a3 a4 a5 a6 a7 a8 a9 => (n3 id a6 a8 a9).trans (n8 id a0 a2 a3 a4 a5)) ?_ ?_ ?_ ?_ ?_ ?_ ?_ ?_ ?_⟩
    · rw [n3 0 (by decide) (by decide) (by decide), r5.1 0 (by decide) (by decide) (by decide) (by decide), zst_if, if_pos rfl, zup1_eq]
    · rw [← eh, zst_if, if_pos rfl, zup1_eq]
    · rw [n3 67 (by decide) (by decide) (by decide), r2, ← eh]; simp (disch := omega) only [zst_if, zup1_ne, zup1_eq, w32_s, rget_in, rput_in, zgrd, Nat.reduceEqDiff, Nat.reduceAdd, ↓reduceIte, Int.reduceToNat, zb1_some, zb2_some, zb3_some, zb4_some, zb5_some, Int.toNat_natCast, true_and, and_true]
    · rw [n3 67 (by decide) (by decide) (by decide), r3, ← eh]; simp (disch := omega) only [zst_if, zup1_ne, zup1_eq, w32_s, rget_in, rput_in, zgrd, Nat.reduceEqDiff, Nat.reduceAdd, ↓reduceIte, Int.reduceToNat, zb1_some, zb2_some, zb3_some, zb4_some, zb5_some, Int.toNat_natCast, true_and, and_true]
    · intro j hj
      rw [n3 28 (by decide) (by decide) (by decide), r5.2.1 j hj, zst_if, if_neg (by decide)]
    · intro j hj
      rw [n3 30 (by decide) (by decide) (by decide), n3 32 (by decide) (by decide) (by decide), (r5.2.2 j hj).1, (r5.2.2 j hj).2, zst_if, if_neg (by decide), zst_if, if_neg (by decide)]
      exact ⟨rfl, rfl⟩
    · intro j hj
      rw [n2 88 (by decide), u3.2.1 j hj, n8 88 (by decide) (by decide) (by decide) (by decide) (by decide)]
    · rw [n3 86 (by decide) (by decide) (by decide), n8 86 (by decide) (by decide) (by decide) (by decide) (by decide)]
      exact ⟨zYc_eq0 hy (fun id a b => (n3 id (by omega) (by omega) (by omega)).trans (n8 id (by omega) (by omega) (by omega) (by omega) (by omega))), hk⟩
    · rw [n3 86 (by decide) (by decide) (by decide), n8 86 (by decide) (by decide) (by decide) (by decide) (by decide)]
      exact Or.inl ht
  | inr F' =>
    rw [hr] at hC
    obtain ⟨h8, c', r1, ⟨r2, r3⟩, r4, r6, r7, r5⟩ := hC
    have n8 : ∀ id, id ≠ 0 → id ≠ 28 → id ≠ 30 → id ≠ 32 → id ≠ 67 → h8 id = h id := fun id a0 a b c d => by rw [r5.1 id a b c d, zst_if, if_neg a0]
    obtain ⟨h9, e9⟩ : ∃ x, zst h8 1 12 ((t + 1 : Nat) : Int) = x := ⟨_, rfl⟩
    have n9 : ∀ id, id ≠ 1 → h9 id = h8 id := fun id a => by rw [← e9, zst_if, if_neg a]
    have n98 : ∀ id, id ≠ 0 → id ≠ 1 → id ≠ 28 → id ≠ 30 → id ≠ 32 → id ≠ 67 → h9 id = h id := fun id a0 a1 a b c d => (n9 id a1).trans (n8 id a0 a b c d)
    have hq := hR h9 (n98 85 (by decide) (by decide) (by decide) (by decide) (by decide) (by decide)) (n98 86 (by decide) (by decide) (by decide) (by decide) (by decide) (by decide)) (n98 89 (by decide) (by decide) (by decide) (by decide) (by decide) (by decide))
    rw [hr] at hq
    obtain ⟨g1, c2, u1, u2, u4, u3⟩ := hq
    have hF : sh_Ox_text N h = some ((t : Int), h9) := by
      unfold sh_Ox_text
      rw [if_pos (by omega), r1]
      simp only [zb2_some]
      rw [if_neg (by decide), e112, ew, e9]
    have e86 : g1 86 4 = t := by rw [u3.1 86 (by decide) (by decide) (by decide), n98 86 (by decide) (by decide) (by decide) (by decide) (by decide) (by decide)]; exact ht
    obtain ⟨g2, eg⟩ : ∃ x, zst (zst (zst g1 85 5 0) 85 6 (-1)) 85 4 0 = x := ⟨_, rfl⟩
    obtain ⟨h2, eh⟩ : ∃ x, zst g2 86 4 ((t + 1 : Nat) : Int) = x := ⟨_, rfl⟩
    have hG : sh_Mo_text N h9 = some ((t : Int), h2) := by
      unfold sh_Mo_text
      rw [if_neg (by rw [n98 86 (by decide) (by decide) (by decide) (by decide) (by decide) (by decide)]; omega), u1]
      simp only [zb2_some]
      have w5 : zst g1 85 5 0 85 5 = 0 := by rw [zst_if, if_pos rfl, zup1_eq]
      have w55 : g2 85 5 = 0 := by rw [← eg]; simp (disch := omega) only [zst_if, zup1_ne, zup1_eq, w32_s, rget_in, rput_in, zgrd, Nat.reduceEqDiff, Nat.reduceAdd, ↓reduceIte, Int.reduceToNat, zb1_some, zb2_some, zb3_some, zb4_some, zb5_some, Int.toNat_natCast, true_and, and_true]
      have w86 : g2 86 4 = t := by rw [← eg, zst_if, if_neg (by decide), zst_if, if_neg (by decide), zst_if, if_neg (by decide)]; exact e86
      have w87 : h2 86 4 = ((t + 1 : Nat) : Int) := by rw [← eh, zst_if, if_pos rfl, zup1_eq]
      rw [w5, if_pos rfl, eg, w55, if_pos rfl, w86, ew, eh, w87, show w32 (((t + 1 : Nat) : Int) - 1) = (t : Int) by rw [w32_s (by omega) (by omega)]; omega]
    have n2 : ∀ id, id ≠ 85 → id ≠ 86 → h2 id = g1 id := fun id a b => by rw [← eh, zst_if, if_neg b, ← eg, zst_if, if_neg a, zst_if, if_neg a, zst_if, if_neg a]
    have n3 : ∀ id, id ≠ 85 → id ≠ 86 → id ≠ 88 → id ≠ 90 → h2 id = h9 id := fun id a d b c => (n2 id a d).trans (u3.1 id a b c)
    have n85 : h2 85 = g2 85 := by rw [← eh, zst_if, if_neg (by decide)]
    have n86 : h2 86 = zup1 (h 86) 4 ((t + 1 : Nat) : Int) := by
      have : g2 86 = h 86 := by rw [← eg, zst_if, if_neg (by decide), zst_if, if_neg (by decide), zst_if, if_neg (by decide), u3.1 86 (by decide) (by decide) (by decide), n98 86 (by decide) (by decide) (by decide) (by decide) (by decide) (by decide)]
      rw [← eh, zst_if, if_pos rfl, this]
    have n1 : h2 1 = zup1 (h 1) 12 ((t + 1 : Nat) : Int) := by
      rw [n3 1 (by decide) (by decide) (by decide) (by decide), ← e9, zst_if, if_pos rfl, n8 1 (by decide) (by decide) (by decide) (by decide) (by decide)]
    refine ⟨h2, zcas_of hF hG, zInv_tx hI ht (fun id a0 a1 a2 a3 a4 a5 a6 a7 a8 a9 => (n3 id a6 a7 a8 a9).trans (n98 id a0 a1 a2 a3 a4 a5)) ?_ ?_ ?_ ?_ ?_ ?_ ?_ ?_ (Or.inr ⟨?_, ht3, F', c', c2, ?_, r6, ?_, u4, r7⟩)⟩
    · rw [n3 0 (by decide) (by decide) (by decide) (by decide), n9 0 (by decide), r5.1 0 (by decide) (by decide) (by decide) (by decide), zst_if, if_pos rfl, zup1_eq]
    · rw [n85, ← eg, zst_if, if_pos rfl, zup1_eq]
    · rw [n3 67 (by decide) (by decide) (by decide) (by decide), n9 67 (by decide), r2, n85, ← eg]; simp (disch := omega) only [zst_if, zup1_ne, zup1_eq, w32_s, rget_in, rput_in, zgrd, Nat.reduceEqDiff, Nat.reduceAdd, ↓reduceIte, Int.reduceToNat, zb1_some, zb2_some, zb3_some, zb4_some, zb5_some, Int.toNat_natCast, true_and, and_true]
    · rw [n3 67 (by decide) (by decide) (by decide) (by decide), n9 67 (by decide), r3, n85, ← eg]; simp (disch := omega) only [zst_if, zup1_ne, zup1_eq, w32_s, rget_in, rput_in, zgrd, Nat.reduceEqDiff, Nat.reduceAdd, ↓reduceIte, Int.reduceToNat, zb1_some, zb2_some, zb3_some, zb4_some, zb5_some, Int.toNat_natCast, true_and, and_true]
    · intro j hj
      rw [n3 28 (by decide) (by decide) (by decide) (by decide), n9 28 (by decide), r5.2.1 j hj, zst_if, if_neg (by decide)]
    · intro j hj
      rw [n3 30 (by decide) (by decide) (by decide) (by decide), n3 32 (by decide) (by decide) (by decide) (by decide), n9 30 (by decide), n9 32 (by decide), (r5.2.2 j hj).1, (r5.2.2 j hj).2, zst_if, if_neg (by decide), zst_if, if_neg (by decide)]
      exact ⟨rfl, rfl⟩
    · intro j hj
      rw [n2 88 (by decide) (by decide), u3.2.1 j hj, n98 88 (by decide) (by decide) (by decide) (by decide) (by decide) (by decide)]
    · rw [n86]
      have na : ∀ j, j = 0 ∨ j = 1 ∨ j = 2 ∨ j = 3 ∨ 7 ≤ j → zup1 (h 86) 4 ((t + 1 : Nat) : Int) j = h 86 j := fun j hj => zup1_ne _ _ (by omega)
      refine ⟨zYc_hd hy (fun id a b => (n3 id (by omega) (by omega) (by omega) (by omega)).trans (n98 id (by omega) (by omega) (by omega) (by omega) (by omega) (by omega))) na ?_ ?_ ?_ ?_, zOk_hd hk na ?_ ?_ ?_⟩
      · rw [n1, zup1_ne _ _ (by decide)]
      · rw [n1, zup1_eq, zup1_eq]
      · rw [n1, zup1_ne _ _ (by decide), zup1_ne _ _ (by decide)]; exact hy.1.2.2.2.2.2.1
      · rw [n1, zup1_ne _ _ (by decide), zup1_ne _ _ (by decide)]; exact hy.1.2.2.2.2.2.2.1
      · rw [zup1_eq]; omega
      · rw [zup1_eq, zup1_ne _ _ (by decide)]; omega
      · rw [zup1_ne _ _ (by decide)]; omega
    · rw [n86, zup1_eq]
    · exact zLc_e r4 (by rw [n3 28 (by decide) (by decide) (by decide) (by decide), n9 28 (by decide)]) (by rw [n3 30 (by decide) (by decide) (by decide) (by decide), n9 30 (by decide)]) (by rw [n3 32 (by decide) (by decide) (by decide) (by decide), n9 32 (by decide)])
    · exact zLr_e u2 (n2 88 (by decide) (by decide))
