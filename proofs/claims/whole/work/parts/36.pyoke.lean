/-! PURE: yoke, loose, drive, sell -/
theorem zOk_ox {a a1 : zFn} (hk : zOk a) (e : ∀ j, (j < 41 ∨ 105 ≤ j) → a1 j = a j) (w : ∀ o, o < 8 → a1 (42 + 8 * o) = a (42 + 8 * o) ∧ a1 (43 + 8 * o) = a (43 + 8 * o) ∧ a1 (44 + 8 * o) = a (44 + 8 * o))
    (hx : ∀ o : Nat, (o : Int) < a 2 → zOx (a 0) (a 1) (a 2) o (a1 (41 + 8 * o)) (a1 (45 + 8 * o)) (a1 (46 + 8 * o)) (a1 (47 + 8 * o)) (a1 (48 + 8 * o))) : zOk a1 := by
  obtain ⟨k1, k2, k3, k4, k5, k6⟩ := hk
  refine ⟨?_, ?_, ?_, ?_, ?_, zOs_grow k6 (e 7 (by omega)) (fun j hj => e j (by omega)) ?_ ?_ ?_⟩
  · rw [e 0 (by omega), e 1 (by omega), e 2 (by omega), e 3 (by omega), e 4 (by omega), e 5 (by omega), e 6 (by omega), e 7 (by omega)]; exact k1
  · intro k hk
    rw [e _ (by omega), e _ (by omega), e _ (by omega)]; exact k2 k hk
  · intro k hk
    rw [e _ (by omega), e _ (by omega), e _ (by omega), e _ (by omega)]; exact k3 k hk
  · intro o ho
    rw [e 2 (by omega)] at ho
    obtain ⟨w1, w2, w3⟩ := w o (by omega)
    rw [e 0 (by omega), e 1 (by omega), e 2 (by omega), w1, w2, w3]
    exact ⟨hx o ho, (k4 o ho).2⟩
  · intro k hk
    rw [e 6 (by omega)] at hk
    rw [e 0 (by omega), e _ (by omega), e _ (by omega)]; exact k5 k hk
  · rw [e 0 (by omega)]; exact Int.le_refl _
  · rw [e 1 (by omega)]; exact Int.le_refl _
  · rw [e 2 (by omega)]; exact Int.le_refl _
theorem zYc_ox {h h1 : zHp} {a a1 : zFn} (hy : zYc 0 h a) (hk : zOk a) (ei : ∀ id, id ≠ 16 → 1 ≤ id → id ≤ 23 → h1 id = h id) (e7 : ∀ j, j < 7 → h1 16 j = h 16 j) (e : ∀ j, (j < 41 ∨ 105 ≤ j) → a1 j = a j)
    (w : ∀ o, o < 8 → a1 (42 + 8 * o) = a (42 + 8 * o) ∧ a1 (43 + 8 * o) = a (43 + 8 * o) ∧ a1 (44 + 8 * o) = a (44 + 8 * o)) (hx : ∀ o, o < 8 → ∀ v, v < 8 → h1 16 (7 + 8 * o + v) = a1 (41 + 8 * o + v)) : zYc 0 h1 a1 := by
  obtain ⟨y1, y2, y3, y4, y5, y6⟩ := hy
  simp only [Nat.reduceAdd] at y1 y2 y3 y4 y5 y6
  refine ⟨?_, ?_, ?_, ?_, ?_, ?_⟩ <;> simp only [Nat.reduceAdd]
  · rw [ei 1 (by omega) (by omega) (by omega), ei 17 (by omega) (by omega) (by omega), e7 0 (by omega), e7 1 (by omega), e7 2 (by omega), e 0 (by omega), e 1 (by omega), e 2 (by omega), e 3 (by omega), e 4 (by omega), e 5 (by omega), e 6 (by omega), e 7 (by omega)]; exact y1
  · intro k hk
    rw [ei 3 (by omega) (by omega) (by omega), ei 5 (by omega) (by omega) (by omega), ei 7 (by omega) (by omega) (by omega), e _ (by omega), e _ (by omega), e _ (by omega)]; exact y2 k hk
  · intro k hk
    rw [ei 9 (by omega) (by omega) (by omega), ei 11 (by omega) (by omega) (by omega), ei 13 (by omega) (by omega) (by omega), e7 _ (by omega), e _ (by omega), e _ (by omega), e _ (by omega), e _ (by omega)]; exact y3 k hk
  · exact hx
  · intro k hk
    rw [ei 21 (by omega) (by omega) (by omega), ei 23 (by omega) (by omega) (by omega), e _ (by omega), e _ (by omega)]; exact y5 k hk
  · intro k hk0
    rw [e 7 (by omega)] at hk0 ⊢
    rw [ei 17 (by omega) (by omega) (by omega), ei 19 (by omega) (by omega) (by omega)]
    have hr := (hk.s k hk0).1.2.2
    have h2 := hk.1.2.2.1
    refine zSp_mv (y6 k hk0) (fun _ _ => rfl) (fun j hj => e _ (by omega)) (fun o ho v v1 v2 => ?_) ?_
    · rw [show 121 + 47 * k + 2 = 123 + 47 * k by omega] at ho
      obtain ⟨w1, w2, w3⟩ := w o (by omega)
      have : v = 1 ∨ v = 2 ∨ v = 3 := by omega
      rcases this with rfl | rfl | rfl
      · rw [show 41 + 8 * o + 1 = 42 + 8 * o by omega]; exact w1
      · rw [show 41 + 8 * o + 2 = 43 + 8 * o by omega]; exact w2
      · rw [show 41 + 8 * o + 3 = 44 + 8 * o by omega]; exact w3
    · rw [show 121 + 47 * k + 2 = 123 + 47 * k by omega]; omega
/-- a put into one ox, on both sides -/
theorem zYc_put {h : zHp} {a : zFn} {x w : Nat} {v : Int} (hy : ∀ o, o < 8 → ∀ u, u < 8 → h 16 (7 + 8 * o + u) = a (41 + 8 * o + u)) (hx : x < 8) (hw : w < 8) : ∀ o, o < 8 → ∀ u, u < 8 → zup1 (h 16) (7 + 8 * x + w) v (7 + 8 * o + u) = zup1 a (41 + 8 * x + w) v (41 + 8 * o + u) := by
  intro o ho u hu
  by_cases q : o = x ∧ u = w
  · obtain ⟨rfl, rfl⟩ := q
    rw [zup1_eq, zup1_eq]
  · rw [zup1_ne _ _ (by intro r; apply q; omega), zup1_ne _ _ (by intro r; apply q; omega)]
    exact hy o ho u hu
theorem zc_drive {h : zHp} (x y : Int) (hI : zInv h) {N : Nat} (hN : 1000 ≤ N) : ∃ h2, zcas (sh_Ox_drive x y) (sh_Mo_drive N x y) h = some (1, h2) ∧ zInv h2 := by
  have hI' := hI
  obtain ⟨⟨hy, hk⟩, -⟩ := hI'
  have e0 : h 16 2 = h 86 2 := hy.1.2.2.1
  have e9 : h 1 0 = h 86 0 := hy.1.1
  have k0 := hk.1.2.2.1
  have k9 := hk.1.1
  have y4 := hy.2.2.2.1
  simp only [Nat.reduceAdd] at y4
  by_cases c : (0 ≤ x ∧ x < h 86 2) ∧ (0 ≤ y ∧ y < h 86 0)
  · obtain ⟨cx, cy⟩ := c
    obtain ⟨n, rfl⟩ : ∃ n : Nat, x = n := ⟨x.toNat, by omega⟩
    have hox := (hk.2.2.2.1 n cx.2).1
    have hm : h 16 (7 + 8 * n + 7) = h 86 (48 + 8 * n) := by rw [y4 n (by omega) 7 (by omega)]; congr 1; omega
    by_cases d : h 86 (48 + 8 * n) < 0
    · obtain ⟨h1, p1, z1, f16, f1⟩ := zkeep_c hy hk
      have hkk := zkeep_ok hk
      have lo : ∀ j, j < 121 → j ≠ 7 → zkeep (h 86) j = h 86 j := fun j h1 h2 => zkeep_lo h1 h2
      obtain ⟨g1, q1, q2, q3⟩ := zkeep_r N hN (h := zst h1 16 (7 + 8 * n + 6) y) (by rw [zst_if, if_neg (by decide), f1 86 (by decide) (by decide)]; exact hk.1.2.2.2.2.2.2.2)
      refine ⟨zst g1 86 (41 + 8 * n + 6) y, zcas_of (r := 1) (h1 := zst h1 16 (7 + 8 * n + 6) y) ?_ ?_, ?_⟩
      · unfold sh_Ox_drive
        simp only [isOx_z (h := h) (x := (n : Int)) (by omega), isFarm_z (h := h) (x := y) (by omega), e0, e9]
        rw [if_neg (by omega), if_neg (by omega), if_pos (by simp (disch := omega) only [zst_if, zup1_ne, zup1_eq, w32_s, rget_in, rput_in, zgrd, Nat.reduceEqDiff, Nat.reduceAdd, ↓reduceIte, Int.reduceToNat, zb1_some, zb2_some, zb3_some, zb4_some, zb5_some, Int.toNat_natCast, true_and, and_true, get_s, hm]; unfold zOx at hox; omega), p1]
        simp (disch := omega) only [zst_if, zup1_ne, zup1_eq, w32_s, rget_in, rput_in, zgrd, Nat.reduceEqDiff, Nat.reduceAdd, ↓reduceIte, Int.reduceToNat, zb1_some, zb2_some, zb3_some, zb4_some, zb5_some, Int.toNat_natCast, true_and, and_true, put_s]
      · unfold sh_Mo_drive
        have q : (sh_Mo_isFarm y (zst h1 16 (7 + 8 * n + 6) y) = 0) = ¬ (0 ≤ y ∧ y < h 86 0) := by
          rw [isFarmR_z (by rw [zst_if, if_neg (by decide), f1 86 (by decide) (by decide)]; omega), zst_if, if_neg (by decide), f1 86 (by decide) (by decide)]
        have qq : (sh_Mo_isOx n (zst h1 16 (7 + 8 * n + 6) y) = 0) = ¬ (0 ≤ (n : Int) ∧ n < h 86 2) := by
          rw [isOxR_z (by rw [zst_if, if_neg (by decide), f1 86 (by decide) (by decide)]; omega), zst_if, if_neg (by decide), f1 86 (by decide) (by decide)]
        simp only [q, qq]
        rw [if_neg (by omega), if_neg (by omega)]
        simp (disch := omega) only [zst_if, zup1_ne, zup1_eq, w32_s, rget_in, rput_in, zgrd, Nat.reduceEqDiff, Nat.reduceAdd, ↓reduceIte, Int.reduceToNat, zb1_some, zb2_some, zb3_some, zb4_some, zb5_some, Int.toNat_natCast, true_and, and_true, told_s]
        rw [f1 86 (by decide) (by decide), show 41 + 8 * n + 7 = 48 + 8 * n by omega, if_pos d, q1]
        simp (disch := omega) only [zst_if, zup1_ne, zup1_eq, w32_s, rget_in, rput_in, zgrd, Nat.reduceEqDiff, Nat.reduceAdd, ↓reduceIte, Int.reduceToNat, zb1_some, zb2_some, zb3_some, zb4_some, zb5_some, Int.toNat_natCast, true_and, and_true, make_s]
      · refine zmut hI (h1 := zst h1 16 (7 + 8 * n + 6) y) (a := zup1 (zkeep (h 86)) (41 + 8 * n + 6) y) ?_ ?_ ?_ ?_ ?_ ?_
        · exact (show zMc h h1 from fun id _ r => f1 id (by omega) (by omega)).st (by omega)
        · refine zYc_ox z1 hkk (fun id u _ _ => by rw [zst_if, if_neg u]) (fun j hj => by simp (disch := omega) only [zst_if, zup1_ne, zup1_eq, w32_s, rget_in, rput_in, zgrd, Nat.reduceEqDiff, Nat.reduceAdd, ↓reduceIte, Int.reduceToNat, zb1_some, zb2_some, zb3_some, zb4_some, zb5_some, Int.toNat_natCast, true_and, and_true]) (fun j hj => by simp (disch := omega) only [zst_if, zup1_ne, zup1_eq, w32_s, rget_in, rput_in, zgrd, Nat.reduceEqDiff, Nat.reduceAdd, ↓reduceIte, Int.reduceToNat, zb1_some, zb2_some, zb3_some, zb4_some, zb5_some, Int.toNat_natCast, true_and, and_true]) (fun o ho => by simp (disch := omega) only [zst_if, zup1_ne, zup1_eq, w32_s, rget_in, rput_in, zgrd, Nat.reduceEqDiff, Nat.reduceAdd, ↓reduceIte, Int.reduceToNat, zb1_some, zb2_some, zb3_some, zb4_some, zb5_some, Int.toNat_natCast, true_and, and_true]) ?_
          rw [zst_if, if_pos rfl]
          have z4 := z1.2.2.2.1
          simp only [Nat.reduceAdd] at z4
          exact zYc_put z4 (by omega) (by decide)
        · exact zMr.st (fun id u v => q3 id v)
        · rw [zst_if, if_pos rfl, q2, zst_if, if_neg (by decide), f1 86 (by decide) (by decide)]
        · refine zOk_ox hkk (fun j hj => by simp (disch := omega) only [zst_if, zup1_ne, zup1_eq, w32_s, rget_in, rput_in, zgrd, Nat.reduceEqDiff, Nat.reduceAdd, ↓reduceIte, Int.reduceToNat, zb1_some, zb2_some, zb3_some, zb4_some, zb5_some, Int.toNat_natCast, true_and, and_true]) (fun o ho => by simp (disch := omega) only [zst_if, zup1_ne, zup1_eq, w32_s, rget_in, rput_in, zgrd, Nat.reduceEqDiff, Nat.reduceAdd, ↓reduceIte, Int.reduceToNat, zb1_some, zb2_some, zb3_some, zb4_some, zb5_some, Int.toNat_natCast, true_and, and_true]) (fun o ho => ?_)
          have ho2 : (o : Int) < h 86 2 := by rw [lo 2 (by omega) (by omega)] at ho; exact ho
          have hx := (hkk.2.2.2.1 o ho).1
          by_cases q : o = n
          · subst q
            simp (disch := omega) only [zst_if, zup1_ne, zup1_eq, w32_s, rget_in, rput_in, zgrd, Nat.reduceEqDiff, Nat.reduceAdd, ↓reduceIte, Int.reduceToNat, zb1_some, zb2_some, zb3_some, zb4_some, zb5_some, Int.toNat_natCast, true_and, and_true, zup1_e]
            rw [lo 0 (by omega) (by omega), lo 1 (by omega) (by omega), lo 2 (by omega) (by omega), lo (41 + 8 * o) (by omega) (by omega), lo (45 + 8 * o) (by omega) (by omega), lo (46 + 8 * o) (by omega) (by omega), lo (48 + 8 * o) (by omega) (by omega)]
            unfold zOx at hox ⊢
            refine ⟨hox.1, hox.2.1, hox.2.2.1, Or.inl ⟨(by omega), (by omega)⟩, hox.2.2.2.2.1, hox.2.2.2.2.2.1, hox.2.2.2.2.2.2.1, fun q => (by omega)⟩
          · simp (disch := omega) only [zst_if, zup1_ne, zup1_eq, w32_s, rget_in, rput_in, zgrd, Nat.reduceEqDiff, Nat.reduceAdd, ↓reduceIte, Int.reduceToNat, zb1_some, zb2_some, zb3_some, zb4_some, zb5_some, Int.toNat_natCast, true_and, and_true]
            exact hx
        · rw [zup1_ne _ _ (by omega), lo 4 (by omega) (by omega)]
    · refine ⟨h, zcas_of (r := 0) (h1 := h) ?_ ?_, hI⟩
      · unfold sh_Ox_drive
        simp only [isOx_z (h := h) (x := (n : Int)) (by omega), isFarm_z (h := h) (x := y) (by omega), e0, e9]
        rw [if_neg (by omega), if_neg (by omega), if_neg (by simp (disch := omega) only [zst_if, zup1_ne, zup1_eq, w32_s, rget_in, rput_in, zgrd, Nat.reduceEqDiff, Nat.reduceAdd, ↓reduceIte, Int.reduceToNat, zb1_some, zb2_some, zb3_some, zb4_some, zb5_some, Int.toNat_natCast, true_and, and_true, get_s, hm]; omega)]
      · unfold sh_Mo_drive
        simp only [isOxR_z (h := h) (x := (n : Int)) (by omega), isFarmR_z (h := h) (x := y) (by omega)]
        rw [if_neg (by omega), if_neg (by omega)]
        simp (disch := omega) only [zst_if, zup1_ne, zup1_eq, w32_s, rget_in, rput_in, zgrd, Nat.reduceEqDiff, Nat.reduceAdd, ↓reduceIte, Int.reduceToNat, zb1_some, zb2_some, zb3_some, zb4_some, zb5_some, Int.toNat_natCast, true_and, and_true, told_s]
        rw [show 41 + 8 * n + 7 = 48 + 8 * n by omega, if_neg d]
  · refine ⟨h, zcas_of (r := 0) (h1 := h) ?_ ?_, hI⟩
    · unfold sh_Ox_drive
      simp only [isOx_z (h := h) (x := x) (by omega), isFarm_z (h := h) (x := y) (by omega), e0, e9]
      by_cases cx : 0 ≤ x ∧ x < h 86 2
      · rw [if_neg (by omega), if_pos (by omega)]
      · rw [if_pos (by omega)]
    · unfold sh_Mo_drive
      simp only [isOxR_z (h := h) (x := x) (by omega), isFarmR_z (h := h) (x := y) (by omega)]
      by_cases cx : 0 ≤ x ∧ x < h 86 2
      · rw [if_neg (by omega), if_pos (by omega)]
      · rw [if_pos (by omega)]
theorem zc_sell {h : zHp} (x y : Int) (hI : zInv h) {N : Nat} (hN : 1000 ≤ N) : ∃ h2, zcas (sh_Ox_sell x y) (sh_Mo_sell N x y) h = some (1, h2) ∧ zInv h2 := by
  have hI' := hI
  obtain ⟨⟨hy, hk⟩, -⟩ := hI'
  have e0 : h 16 2 = h 86 2 := hy.1.2.2.1
  have e9 : h 1 0 = h 86 0 := hy.1.1
  have k0 := hk.1.2.2.1
  have k9 := hk.1.1
  have y4 := hy.2.2.2.1
  simp only [Nat.reduceAdd] at y4
  by_cases c : (0 ≤ x ∧ x < h 86 2) ∧ (0 ≤ y ∧ y < h 86 0)
  · obtain ⟨cx, cy⟩ := c
    obtain ⟨n, rfl⟩ : ∃ n : Nat, x = n := ⟨x.toNat, by omega⟩
    have hox := (hk.2.2.2.1 n cx.2).1
    have hm : h 16 (7 + 8 * n + 4) = h 86 (45 + 8 * n) := by rw [y4 n (by omega) 4 (by omega)]; congr 1; omega
    by_cases d : h 86 (45 + 8 * n) = y
    · refine ⟨h, zcas_of (r := 0) (h1 := h) ?_ ?_, hI⟩
      · unfold sh_Ox_sell
        simp only [isOx_z (h := h) (x := (n : Int)) (by omega), isFarm_z (h := h) (x := y) (by omega), e0, e9]
        rw [if_neg (by omega), if_neg (by omega), if_pos (by simp (disch := omega) only [zst_if, zup1_ne, zup1_eq, w32_s, rget_in, rput_in, zgrd, Nat.reduceEqDiff, Nat.reduceAdd, ↓reduceIte, Int.reduceToNat, zb1_some, zb2_some, zb3_some, zb4_some, zb5_some, Int.toNat_natCast, true_and, and_true, get_s, hm]; omega)]
      · unfold sh_Mo_sell
        simp only [isOxR_z (h := h) (x := (n : Int)) (by omega), isFarmR_z (h := h) (x := y) (by omega)]
        rw [if_neg (by omega), if_neg (by omega)]
        simp (disch := omega) only [zst_if, zup1_ne, zup1_eq, w32_s, rget_in, rput_in, zgrd, Nat.reduceEqDiff, Nat.reduceAdd, ↓reduceIte, Int.reduceToNat, zb1_some, zb2_some, zb3_some, zb4_some, zb5_some, Int.toNat_natCast, true_and, and_true, told_s]
        rw [show 41 + 8 * n + 4 = 45 + 8 * n by omega, if_pos d]
    · obtain ⟨h1, p1, z1, f16, f1⟩ := zkeep_c hy hk
      have hkk := zkeep_ok hk
      have lo : ∀ j, j < 121 → j ≠ 7 → zkeep (h 86) j = h 86 j := fun j h1 h2 => zkeep_lo h1 h2
      have f86 : zst (zst h1 16 (7 + 8 * n + 4) y) 16 (7 + 8 * n + 5) 0 86 = h 86 := by rw [zst_if, if_neg (by decide), zst_if, if_neg (by decide), f1 86 (by decide) (by decide)]
      obtain ⟨g1, q1, q2, q3⟩ := zkeep_r N hN (h := zst (zst h1 16 (7 + 8 * n + 4) y) 16 (7 + 8 * n + 5) 0) (by rw [f86]; exact hk.1.2.2.2.2.2.2.2)
      refine ⟨zst (zst g1 86 (41 + 8 * n + 4) y) 86 (41 + 8 * n + 5) 0, zcas_of (r := 1) (h1 := zst (zst h1 16 (7 + 8 * n + 4) y) 16 (7 + 8 * n + 5) 0) ?_ ?_, ?_⟩
      · unfold sh_Ox_sell
        simp only [isOx_z (h := h) (x := (n : Int)) (by omega), isFarm_z (h := h) (x := y) (by omega), e0, e9]
        rw [if_neg (by omega), if_neg (by omega), if_neg (by simp (disch := omega) only [zst_if, zup1_ne, zup1_eq, w32_s, rget_in, rput_in, zgrd, Nat.reduceEqDiff, Nat.reduceAdd, ↓reduceIte, Int.reduceToNat, zb1_some, zb2_some, zb3_some, zb4_some, zb5_some, Int.toNat_natCast, true_and, and_true, get_s, hm]; omega), p1]
        simp (disch := omega) only [zst_if, zup1_ne, zup1_eq, w32_s, rget_in, rput_in, zgrd, Nat.reduceEqDiff, Nat.reduceAdd, ↓reduceIte, Int.reduceToNat, zb1_some, zb2_some, zb3_some, zb4_some, zb5_some, Int.toNat_natCast, true_and, and_true, put_s]
      · unfold sh_Mo_sell
        have q : (sh_Mo_isFarm y (zst (zst h1 16 (7 + 8 * n + 4) y) 16 (7 + 8 * n + 5) 0) = 0) = ¬ (0 ≤ y ∧ y < h 86 0) := by
          rw [isFarmR_z (by rw [f86]; omega), f86]
        have qq : (sh_Mo_isOx n (zst (zst h1 16 (7 + 8 * n + 4) y) 16 (7 + 8 * n + 5) 0) = 0) = ¬ (0 ≤ (n : Int) ∧ n < h 86 2) := by
          rw [isOxR_z (by rw [f86]; omega), f86]
        simp only [q, qq]
        rw [if_neg (by omega), if_neg (by omega), told_s (by omega) (by omega) (by omega) (by omega), f86]
        simp only [zb1_some]
        rw [if_neg (by simp (disch := omega) only [zst_if, zup1_ne, zup1_eq, w32_s, rget_in, rput_in, zgrd, Nat.reduceEqDiff, Nat.reduceAdd, ↓reduceIte, Int.reduceToNat, zb1_some, zb2_some, zb3_some, zb4_some, zb5_some, Int.toNat_natCast, true_and, and_true]; rw [show 41 + 8 * n + 4 = 45 + 8 * n by omega]; exact d), q1]
        simp (disch := omega) only [zst_if, zup1_ne, zup1_eq, w32_s, rget_in, rput_in, zgrd, Nat.reduceEqDiff, Nat.reduceAdd, ↓reduceIte, Int.reduceToNat, zb1_some, zb2_some, zb3_some, zb4_some, zb5_some, Int.toNat_natCast, true_and, and_true, make_s]
      · refine zmut hI (h1 := zst (zst h1 16 (7 + 8 * n + 4) y) 16 (7 + 8 * n + 5) 0) (a := zup1 (zup1 (zkeep (h 86)) (41 + 8 * n + 4) y) (41 + 8 * n + 5) 0) ?_ ?_ ?_ ?_ ?_ ?_
        · exact ((show zMc h h1 from fun id _ r => f1 id (by omega) (by omega)).st (by omega)).st (by omega)
        · refine zYc_ox z1 hkk (fun id u _ _ => by rw [zst_if, if_neg u, zst_if, if_neg u]) (fun j hj => by simp (disch := omega) only [zst_if, zup1_ne, zup1_eq, w32_s, rget_in, rput_in, zgrd, Nat.reduceEqDiff, Nat.reduceAdd, ↓reduceIte, Int.reduceToNat, zb1_some, zb2_some, zb3_some, zb4_some, zb5_some, Int.toNat_natCast, true_and, and_true]) (fun j hj => by simp (disch := omega) only [zst_if, zup1_ne, zup1_eq, w32_s, rget_in, rput_in, zgrd, Nat.reduceEqDiff, Nat.reduceAdd, ↓reduceIte, Int.reduceToNat, zb1_some, zb2_some, zb3_some, zb4_some, zb5_some, Int.toNat_natCast, true_and, and_true]) (fun o ho => by simp (disch := omega) only [zst_if, zup1_ne, zup1_eq, w32_s, rget_in, rput_in, zgrd, Nat.reduceEqDiff, Nat.reduceAdd, ↓reduceIte, Int.reduceToNat, zb1_some, zb2_some, zb3_some, zb4_some, zb5_some, Int.toNat_natCast, true_and, and_true]) ?_
          rw [zst_if, if_pos rfl, zst_if, if_pos rfl]
          have z4 := z1.2.2.2.1
          simp only [Nat.reduceAdd] at z4
          have s1 := zYc_put (h := h1) (x := n) (w := 4) (v := y) z4 (by omega) (by decide)
          exact zYc_put (h := zst h1 16 (7 + 8 * n + 4) y) (by rw [zst_if, if_pos rfl]; exact s1) (by omega) (by decide) |> fun t => by rw [zst_if, if_pos rfl] at t; exact t
        · exact zMr.st (zMr.st (fun id u v => q3 id v))
        · rw [zst_if, if_pos rfl, zst_if, if_pos rfl, q2, f86]
        · refine zOk_ox hkk (fun j hj => by simp (disch := omega) only [zst_if, zup1_ne, zup1_eq, w32_s, rget_in, rput_in, zgrd, Nat.reduceEqDiff, Nat.reduceAdd, ↓reduceIte, Int.reduceToNat, zb1_some, zb2_some, zb3_some, zb4_some, zb5_some, Int.toNat_natCast, true_and, and_true]) (fun o ho => by simp (disch := omega) only [zst_if, zup1_ne, zup1_eq, w32_s, rget_in, rput_in, zgrd, Nat.reduceEqDiff, Nat.reduceAdd, ↓reduceIte, Int.reduceToNat, zb1_some, zb2_some, zb3_some, zb4_some, zb5_some, Int.toNat_natCast, true_and, and_true]) (fun o ho => ?_)
          have ho2 : (o : Int) < h 86 2 := by rw [lo 2 (by omega) (by omega)] at ho; exact ho
          have hx := (hkk.2.2.2.1 o ho).1
          by_cases q : o = n
          · subst q
            simp (disch := omega) only [zst_if, zup1_ne, zup1_eq, w32_s, rget_in, rput_in, zgrd, Nat.reduceEqDiff, Nat.reduceAdd, ↓reduceIte, Int.reduceToNat, zb1_some, zb2_some, zb3_some, zb4_some, zb5_some, Int.toNat_natCast, true_and, and_true, zup1_e]
            rw [lo 0 (by omega) (by omega), lo 1 (by omega) (by omega), lo 2 (by omega) (by omega), lo (41 + 8 * o) (by omega) (by omega), lo (47 + 8 * o) (by omega) (by omega), lo (48 + 8 * o) (by omega) (by omega)]
            unfold zOx at hox ⊢
            exact ⟨hox.1, cy, ⟨by decide, by decide⟩, hox.2.2.2⟩
          · simp (disch := omega) only [zst_if, zup1_ne, zup1_eq, w32_s, rget_in, rput_in, zgrd, Nat.reduceEqDiff, Nat.reduceAdd, ↓reduceIte, Int.reduceToNat, zb1_some, zb2_some, zb3_some, zb4_some, zb5_some, Int.toNat_natCast, true_and, and_true]
            exact hx
        · rw [zup1_ne _ _ (by omega), zup1_ne _ _ (by omega), lo 4 (by omega) (by omega)]
  · refine ⟨h, zcas_of (r := 0) (h1 := h) ?_ ?_, hI⟩
    · unfold sh_Ox_sell
      simp only [isOx_z (h := h) (x := x) (by omega), isFarm_z (h := h) (x := y) (by omega), e0, e9]
      by_cases cx : 0 ≤ x ∧ x < h 86 2
      · rw [if_neg (by omega), if_pos (by omega)]
      · rw [if_pos (by omega)]
    · unfold sh_Mo_sell
      simp only [isOxR_z (h := h) (x := x) (by omega), isFarmR_z (h := h) (x := y) (by omega)]
      by_cases cx : 0 ≤ x ∧ x < h 86 2
      · rw [if_neg (by omega), if_pos (by omega)]
      · rw [if_pos (by omega)]
/-- a yoke is none any more: on the numbers -/
def zprt (a : zFn) (n : Nat) : zFn := if a (48 + 8 * n) < 0 then a else zup1 (zup1 a (41 + 8 * (a (48 + 8 * n)).toNat + 7) (-1)) (41 + 8 * n + 7) (-1)
theorem zprt_c {h : zHp} {a : zFn} {n : Nat} (y4 : ∀ o, o < 8 → ∀ w, w < 8 → h 16 (7 + 8 * o + w) = a (41 + 8 * o + w)) (hn : n < 8) (hm : -1 ≤ a (48 + 8 * n) ∧ a (48 + 8 * n) < 8) : ∃ h1, sh_Herd_unyoke_14 n h = h1 ∧ (∀ o, o < 8 → ∀ w, w < 8 → h1 16 (7 + 8 * o + w) = zprt a n (41 + 8 * o + w)) ∧ (∀ j, j < 7 → h1 16 j = h 16 j) ∧ ∀ id, id ≠ 16 → h1 id = h id := by
  have e : h 16 (7 + 8 * n + 7) = a (48 + 8 * n) := by rw [y4 n hn 7 (by omega)]; congr 1; omega
  refine ⟨_, rfl, ?_⟩
  unfold sh_Herd_unyoke_14 zprt
  simp (disch := omega) only [zst_if, zup1_ne, zup1_eq, w32_s, rget_in, rput_in, zgrd, Nat.reduceEqDiff, Nat.reduceAdd, ↓reduceIte, Int.reduceToNat, zb1_some, zb2_some, zb3_some, zb4_some, zb5_some, Int.toNat_natCast, true_and, and_true, get_s]
  rw [e]
  by_cases c : a (48 + 8 * n) < 0
  · rw [if_pos (by omega), if_pos c]
    exact ⟨y4, fun _ _ => rfl, fun _ _ => rfl⟩
  · rw [if_neg (by omega), if_neg c]
    simp (disch := omega) only [zst_if, zup1_ne, zup1_eq, w32_s, rget_in, rput_in, zgrd, Nat.reduceEqDiff, Nat.reduceAdd, ↓reduceIte, Int.reduceToNat, zb1_some, zb2_some, zb3_some, zb4_some, zb5_some, Int.toNat_natCast, true_and, and_true, put_s]
    refine ⟨?_, fun j hj => by simp (disch := omega) only [zst_if, zup1_ne, zup1_eq, w32_s, rget_in, rput_in, zgrd, Nat.reduceEqDiff, Nat.reduceAdd, ↓reduceIte, Int.reduceToNat, zb1_some, zb2_some, zb3_some, zb4_some, zb5_some, Int.toNat_natCast, true_and, and_true], fun id q => by rw [if_neg q, if_neg q]⟩
    have s1 := zYc_put (h := h) (x := (a (48 + 8 * n)).toNat) (w := 7) (v := -1) y4 (by omega) (by decide)
    have s2 := zYc_put (h := zst h 16 (7 + 8 * (a (48 + 8 * n)).toNat + 7) (-1)) (x := n) (w := 7) (v := -1) (by rw [zst_if, if_pos rfl]; exact s1) hn (by decide)
    rw [zst_if, if_pos rfl] at s2
    exact s2
theorem zprt_r {N : Nat} {g : zHp} {n : Nat} (hn : n < 8) (hm : -1 ≤ g 86 (48 + 8 * n) ∧ g 86 (48 + 8 * n) < 8) : ∃ g1, sh_Mo_part N n g = some g1 ∧ g1 86 = zprt (g 86) n ∧ ∀ id, id ≠ 86 → g1 id = g id := by
  unfold sh_Mo_part zprt
  simp (disch := omega) only [zst_if, zup1_ne, zup1_eq, w32_s, rget_in, rput_in, zgrd, Nat.reduceEqDiff, Nat.reduceAdd, ↓reduceIte, Int.reduceToNat, zb1_some, zb2_some, zb3_some, zb4_some, zb5_some, Int.toNat_natCast, true_and, and_true, told_s]
  rw [show 41 + 8 * n + 7 = 48 + 8 * n by omega]
  by_cases c : g 86 (48 + 8 * n) < 0
  · rw [if_neg (by omega), if_pos c]
    exact ⟨g, rfl, rfl, fun _ _ => rfl⟩
  · rw [if_pos (by omega), if_neg c]
    simp (disch := omega) only [zst_if, zup1_ne, zup1_eq, w32_s, rget_in, rput_in, zgrd, Nat.reduceEqDiff, Nat.reduceAdd, ↓reduceIte, Int.reduceToNat, zb1_some, zb2_some, zb3_some, zb4_some, zb5_some, Int.toNat_natCast, true_and, and_true, make_s]
    refine ⟨_, rfl, ?_, fun id q => by rw [zst_if, if_neg q, zst_if, if_neg q]⟩
    simp (disch := omega) only [zst_if, zup1_ne, zup1_eq, w32_s, rget_in, rput_in, zgrd, Nat.reduceEqDiff, Nat.reduceAdd, ↓reduceIte, Int.reduceToNat, zb1_some, zb2_some, zb3_some, zb4_some, zb5_some, Int.toNat_natCast, true_and, and_true]
    rw [show 41 + 8 * n + 7 = 48 + 8 * n by omega]
theorem zprt_lo {a : zFn} {n j : Nat} (h : j < 41 ∨ 105 ≤ j ∨ (j - 41) % 8 ≠ 7) (hn : n < 8) (hm : a (48 + 8 * n) < 8) : zprt a n j = a j := by
  unfold zprt
  split
  · rfl
  · rw [zup1_ne _ _ (by omega), zup1_ne _ _ (by omega)]
theorem zprt_mt {a : zFn} {n : Nat} (o : Nat) (hm : -1 ≤ a (48 + 8 * n) ∧ a (48 + 8 * n) < 8) : zprt a n (48 + 8 * o) = a (48 + 8 * o) ∨ zprt a n (48 + 8 * o) = -1 := by
  unfold zprt
  split
  · exact Or.inl rfl
  · simp only [zup1_if]
    split
    · exact Or.inr rfl
    · split
      · exact Or.inr rfl
      · exact Or.inl rfl
theorem zprt_self {a : zFn} {n : Nat} (hm : -1 ≤ a (48 + 8 * n)) : zprt a n (48 + 8 * n) = -1 := by
  unfold zprt
  split
  · omega
  · rw [zup1_e _ _ (by omega)]
theorem zprt_ok {a : zFn} {n : Nat} (hk : zOk a) (hn : (n : Int) < a 2) : zOk (zprt a n) := by
  have h2 := hk.1.2.2.1
  have hx := (hk.2.2.2.1 n hn).1
  unfold zOx at hx
  refine zOk_ox hk (fun j hj => zprt_lo (by omega) (by omega) (by omega)) (fun o ho => ⟨zprt_lo (by omega) (by omega) (by omega), zprt_lo (by omega) (by omega) (by omega), zprt_lo (by omega) (by omega) (by omega)⟩) (fun o ho => ?_)
  have hy := (hk.2.2.2.1 o ho).1
  rw [zprt_lo (j := 41 + 8 * o) (by omega) (by omega) (by omega), zprt_lo (j := 45 + 8 * o) (by omega) (by omega) (by omega), zprt_lo (j := 46 + 8 * o) (by omega) (by omega) (by omega), zprt_lo (j := 47 + 8 * o) (by omega) (by omega) (by omega)]
  unfold zOx at hy ⊢
  rcases zprt_mt (a := a) (n := n) o ⟨(by omega), (by omega)⟩ with q | q
  · rw [q]; exact hy
  · rw [q]
    exact ⟨hy.1, hy.2.1, hy.2.2.1, hy.2.2.2.1, by decide, (by omega), (by omega), fun q => absurd q (by decide)⟩
theorem zc_loose {h : zHp} (x : Int) (hI : zInv h) {N : Nat} (hN : 1000 ≤ N) : ∃ h2, zcas (sh_Ox_loose x) (sh_Mo_loose N x) h = some (1, h2) ∧ zInv h2 := by
  have hI' := hI
  obtain ⟨⟨hy, hk⟩, -⟩ := hI'
  have e0 : h 16 2 = h 86 2 := hy.1.2.2.1
  have k0 := hk.1.2.2.1
  have y4 := hy.2.2.2.1
  simp only [Nat.reduceAdd] at y4
  by_cases cx : 0 ≤ x ∧ x < h 86 2
  · obtain ⟨n, rfl⟩ : ∃ n : Nat, x = n := ⟨x.toNat, by omega⟩
    have hox := (hk.2.2.2.1 n cx.2).1
    have hm : h 16 (7 + 8 * n + 7) = h 86 (48 + 8 * n) := by rw [y4 n (by omega) 7 (by omega)]; congr 1; omega
    have hb : -1 ≤ h 86 (48 + 8 * n) ∧ h 86 (48 + 8 * n) < 8 := by unfold zOx at hox; omega
    by_cases d : h 86 (48 + 8 * n) < 0
    · refine ⟨h, zcas_of (r := 0) (h1 := h) ?_ ?_, hI⟩
      · unfold sh_Ox_loose
        simp only [isOx_z (h := h) (x := (n : Int)) (by omega), e0]
        rw [if_neg (by omega), if_pos (by simp (disch := omega) only [zst_if, zup1_ne, zup1_eq, w32_s, rget_in, rput_in, zgrd, Nat.reduceEqDiff, Nat.reduceAdd, ↓reduceIte, Int.reduceToNat, zb1_some, zb2_some, zb3_some, zb4_some, zb5_some, Int.toNat_natCast, true_and, and_true, get_s, hm]; omega)]
      · unfold sh_Mo_loose
        simp only [isOxR_z (h := h) (x := (n : Int)) (by omega)]
        rw [if_neg (by omega)]
        simp (disch := omega) only [zst_if, zup1_ne, zup1_eq, w32_s, rget_in, rput_in, zgrd, Nat.reduceEqDiff, Nat.reduceAdd, ↓reduceIte, Int.reduceToNat, zb1_some, zb2_some, zb3_some, zb4_some, zb5_some, Int.toNat_natCast, true_and, and_true, told_s]
        rw [show 41 + 8 * n + 7 = 48 + 8 * n by omega, if_neg (by omega)]
    · obtain ⟨h1, p1, z1, f16, f1⟩ := zkeep_c hy hk
      have hkk := zkeep_ok hk
      have lo : ∀ j, j < 121 → j ≠ 7 → zkeep (h 86) j = h 86 j := fun j h1 h2 => zkeep_lo h1 h2
      have z4 := z1.2.2.2.1
      simp only [Nat.reduceAdd] at z4
      obtain ⟨h3, p3, u1, u2, u3⟩ := zprt_c (n := n) z4 (by omega) (by rw [lo _ (by omega) (by omega)]; exact hb)
      have f86 : h3 86 = h 86 := by rw [u3 86 (by decide), f1 86 (by decide) (by decide)]
      obtain ⟨g1, q1, q2, q3⟩ := zkeep_r N hN (h := h3) (by rw [f86]; exact hk.1.2.2.2.2.2.2.2)
      obtain ⟨g2, r1, r2, r3⟩ := zprt_r (N := N) (g := g1) (n := n) (by omega) (by rw [q2, f86, lo _ (by omega) (by omega)]; exact hb)
      refine ⟨g2, zcas_of (r := 1) (h1 := h3) ?_ ?_, ?_⟩
      · unfold sh_Ox_loose
        simp only [isOx_z (h := h) (x := (n : Int)) (by omega), e0]
        rw [if_neg (by omega), if_neg (by simp (disch := omega) only [zst_if, zup1_ne, zup1_eq, w32_s, rget_in, rput_in, zgrd, Nat.reduceEqDiff, Nat.reduceAdd, ↓reduceIte, Int.reduceToNat, zb1_some, zb2_some, zb3_some, zb4_some, zb5_some, Int.toNat_natCast, true_and, and_true, get_s, hm]; omega), p1, p3]
      · unfold sh_Mo_loose
        have qq : (sh_Mo_isOx n h3 = 0) = ¬ (0 ≤ (n : Int) ∧ n < h 86 2) := by
          rw [isOxR_z (by rw [f86]; omega), f86]
        simp only [qq]
        rw [if_neg (by omega), told_s (by omega) (by omega) (by omega) (by omega), f86]
        simp only [zb1_some]
        rw [if_pos (by simp (disch := omega) only [zst_if, zup1_ne, zup1_eq, w32_s, rget_in, rput_in, zgrd, Nat.reduceEqDiff, Nat.reduceAdd, ↓reduceIte, Int.reduceToNat, zb1_some, zb2_some, zb3_some, zb4_some, zb5_some, Int.toNat_natCast, true_and, and_true]; rw [show 41 + 8 * n + 7 = 48 + 8 * n by omega]; omega), q1]
        simp only [zb1_some]
        rw [r1]
        simp only [zb1_some]
      · refine zmut hI (h1 := h3) (a := zprt (zkeep (h 86)) n) ?_ ?_ ?_ ?_ ?_ ?_
        · exact fun id _ r => (u3 id (by omega)).trans (f1 id (by omega) (by omega))
        · have hmz : zkeep (h 86) (48 + 8 * n) < 8 := by rw [lo _ (by omega) (by omega)]; omega
          refine zYc_ox z1 hkk (fun id u _ _ => u3 id u) u2 (fun j hj => zprt_lo (by omega) (by omega) hmz) (fun o ho => ⟨zprt_lo (by omega) (by omega) hmz, zprt_lo (by omega) (by omega) hmz, zprt_lo (by omega) (by omega) hmz⟩) u1
        · exact fun id u v => (r3 id v).trans (q3 id v)
        · rw [r2, q2, f86]
        · exact zprt_ok hkk (by rw [lo 2 (by omega) (by omega)]; exact cx.2)
        · rw [zprt_lo (by omega) (by omega) (by rw [lo _ (by omega) (by omega)]; omega), lo 4 (by omega) (by omega)]
  · refine ⟨h, zcas_of (r := 0) (h1 := h) ?_ ?_, hI⟩
    · unfold sh_Ox_loose
      simp only [isOx_z (h := h) (x := x) (by omega), e0]
      rw [if_pos (by omega)]
    · unfold sh_Mo_loose
      simp only [isOxR_z (h := h) (x := x) (by omega)]
      rw [if_pos (by omega)]
theorem isPair_z {x y : Int} {h : zHp} (hb : 0 ≤ h 16 2 ∧ h 16 2 ≤ 8) : (sh_Ox_isPair x y h = 0) = ¬ (x ≠ y ∧ (0 ≤ x ∧ x < h 16 2) ∧ (0 ≤ y ∧ y < h 16 2)) := by
  unfold sh_Ox_isPair
  simp only [isOx_z (h := h) (x := x) hb, isOx_z (h := h) (x := y) hb]
  apply propext
  by_cases c1 : x = y
  · rw [if_pos c1]; exact ⟨fun _ q => q.1 c1, fun _ => rfl⟩
  · rw [if_neg c1]
    by_cases c2 : 0 ≤ x ∧ x < h 16 2
    · rw [if_neg (fun q => q c2)]
      by_cases c3 : 0 ≤ y ∧ y < h 16 2
      · rw [if_neg (fun q => q c3)]; exact ⟨fun q => absurd q (by decide), fun q => absurd ⟨c1, c2, c3⟩ q⟩
      · rw [if_pos c3]; exact ⟨fun _ q => c3 q.2.2, fun _ => rfl⟩
    · rw [if_pos c2]; exact ⟨fun _ q => c2 q.2.1, fun _ => rfl⟩
theorem zc_yoke {h : zHp} (x y f : Int) (hI : zInv h) {N : Nat} (hN : 1000 ≤ N) : ∃ h2, zcas (sh_Ox_yoke x y f) (sh_Mo_yoke N x y f) h = some (1, h2) ∧ zInv h2 := by
  have hI' := hI
  obtain ⟨⟨hy, hk⟩, -⟩ := hI'
  have e0 : h 16 2 = h 86 2 := hy.1.2.2.1
  have e1 : h 16 1 = h 86 1 := hy.1.2.1
  have k0 := hk.1.2.2.1
  have k1 := hk.1.2.1
  have y4 := hy.2.2.2.1
  simp only [Nat.reduceAdd] at y4
  have hcan : ∀ n : Nat, n < 8 → (sh_Ox_canBeYoked n f h = 0) = ¬ (h 86 (47 + 8 * n) < 10 ∨ (h 86 (47 + 8 * n) = w32 (10 + f) ∧ h 86 (48 + 8 * n) = -1)) := fun n hn => by
    unfold sh_Ox_canBeYoked
    simp (disch := omega) only [zst_if, zup1_ne, zup1_eq, w32_s, rget_in, rput_in, zgrd, Nat.reduceEqDiff, Nat.reduceAdd, ↓reduceIte, Int.reduceToNat, zb1_some, zb2_some, zb3_some, zb4_some, zb5_some, Int.toNat_natCast, true_and, and_true, get_s]
    rw [y4 n hn 6 (by omega), y4 n hn 7 (by omega), show 41 + 8 * n + 6 = 47 + 8 * n by omega, show 41 + 8 * n + 7 = 48 + 8 * n by omega]
    apply propext
    by_cases c1 : h 86 (47 + 8 * n) < 10
    · rw [if_pos c1]
      exact ⟨fun q => absurd q (by decide), fun q => absurd (Or.inl c1) q⟩
    · rw [if_neg c1]
      by_cases c2 : h 86 (47 + 8 * n) = w32 (10 + f)
      · rw [if_pos c2]
        by_cases c3 : h 86 (48 + 8 * n) = -1
        · rw [if_pos c3]
          exact ⟨fun q => absurd q (by decide), fun q => absurd (Or.inr ⟨c2, c3⟩) q⟩
        · rw [if_neg c3]
          exact ⟨fun _ q => q.elim c1 (fun q => c3 q.2), fun _ => rfl⟩
      · rw [if_neg c2]
        exact ⟨fun _ q => q.elim c1 (fun q => c2 q.1), fun _ => rfl⟩
  have hcom : ∀ (g : zHp) (n : Nat), g 86 = h 86 → (n : Int) < h 86 2 → sh_Mo_canCome N n f g = some (if h 86 (47 + 8 * n) < 10 ∨ (h 86 (47 + 8 * n) = w32 (10 + f) ∧ h 86 (48 + 8 * n) = -1) then 1 else 0) := fun g n eg hn => by
    have hox := (hk.2.2.2.1 n hn).1
    unfold zOx at hox
    unfold sh_Mo_canCome
    simp only [isOxR_z (h := g) (x := (n : Int)) (by rw [eg]; omega), eg]
    rw [if_neg (by omega)]
    simp (disch := omega) only [zst_if, zup1_ne, zup1_eq, w32_s, rget_in, rput_in, zgrd, Nat.reduceEqDiff, Nat.reduceAdd, ↓reduceIte, Int.reduceToNat, zb1_some, zb2_some, zb3_some, zb4_some, zb5_some, Int.toNat_natCast, true_and, and_true, told_s, eg]
    rw [show 41 + 8 * n + 6 = 47 + 8 * n by omega, show 41 + 8 * n + 7 = 48 + 8 * n by omega]
    by_cases c1 : h 86 (47 + 8 * n) < 10
    · rw [if_pos c1, if_pos (Or.inl c1)]
    · rw [if_neg c1]
      by_cases c2 : h 86 (47 + 8 * n) = w32 (10 + f)
      · rw [if_pos c2]
        by_cases c3 : h 86 (48 + 8 * n) = -1
        · rw [if_neg (by omega), if_pos (Or.inr ⟨c2, c3⟩)]
        · rw [if_pos (by omega), if_neg (fun q => q.elim c1 (fun q => c3 q.2))]
      · rw [if_neg c2, if_neg (fun q => q.elim c1 (fun q => c2 q.1))]
  by_cases c : (x ≠ y ∧ (0 ≤ x ∧ x < h 86 2) ∧ (0 ≤ y ∧ y < h 86 2)) ∧ (0 ≤ f ∧ f < h 86 1)
  · obtain ⟨⟨cn, cx, cy⟩, cf⟩ := c
    obtain ⟨n, rfl⟩ : ∃ n : Nat, x = n := ⟨x.toNat, by omega⟩
    obtain ⟨m, rfl⟩ : ∃ n : Nat, y = n := ⟨y.toNat, by omega⟩
    have hpair : ¬ sh_Ox_isPair n m h = 0 := by
      unfold sh_Ox_isPair
      simp only [isOx_z (h := h) (x := (n : Int)) (by omega), isOx_z (h := h) (x := (m : Int)) (by omega), e0]
      rw [if_neg cn, if_neg (by omega), if_neg (by omega)]; decide
    by_cases d : (h 86 (47 + 8 * n) < 10 ∨ (h 86 (47 + 8 * n) = w32 (10 + f) ∧ h 86 (48 + 8 * n) = -1)) ∧ (h 86 (47 + 8 * m) < 10 ∨ (h 86 (47 + 8 * m) = w32 (10 + f) ∧ h 86 (48 + 8 * m) = -1))
    · obtain ⟨h1, p1, z1, f16, f1⟩ := zkeep_c hy hk
      have hkk := zkeep_ok hk
      have lo : ∀ j, j < 121 → j ≠ 7 → zkeep (h 86) j = h 86 j := fun j h1 h2 => zkeep_lo h1 h2
      have z4 := z1.2.2.2.1
      simp only [Nat.reduceAdd] at z4
      have hoxn := (hk.2.2.2.1 n cx.2).1
      have hoxm := (hk.2.2.2.1 m cy.2).1
      have cc : ∃ h3, h3 = zst (zst (zst (zst h1 16 (7 + 8 * n + 6) (10 + f)) 16 (7 + 8 * m + 6) (10 + f)) 16 (7 + 8 * n + 7) m) 16 (7 + 8 * m + 7) n := ⟨_, rfl⟩
      obtain ⟨h3, d3⟩ := cc
      have fo : ∀ id, id ≠ 16 → h3 id = h1 id := fun id q => by rw [d3, zst_if, if_neg q, zst_if, if_neg q, zst_if, if_neg q, zst_if, if_neg q]
      have f86 : h3 86 = h 86 := by rw [fo 86 (by decide), f1 86 (by decide) (by decide)]
      obtain ⟨g1, q1, q2, q3⟩ := zkeep_r N hN (h := h3) (by rw [f86]; exact hk.1.2.2.2.2.2.2.2)
      refine ⟨zst (zst (zst (zst g1 86 (41 + 8 * n + 6) (10 + f)) 86 (41 + 8 * m + 6) (10 + f)) 86 (41 + 8 * n + 7) m) 86 (41 + 8 * m + 7) n, zcas_of (r := 1) (h1 := h3) ?_ ?_, ?_⟩
      · unfold sh_Ox_yoke
        simp only [isField_z (h := h) (x := f) (by omega), e1, hcan n (by omega), hcan m (by omega)]
        rw [if_neg hpair, if_neg (by omega), if_neg (fun q => q d.1), if_neg (fun q => q d.2), p1, d3]
        simp (disch := omega) only [zst_if, zup1_ne, zup1_eq, w32_s, rget_in, rput_in, zgrd, Nat.reduceEqDiff, Nat.reduceAdd, ↓reduceIte, Int.reduceToNat, zb1_some, zb2_some, zb3_some, zb4_some, zb5_some, Int.toNat_natCast, true_and, and_true, put_s]
      · unfold sh_Mo_yoke
        simp only [isFieldR_z (h := h3) (x := f) (by rw [f86]; omega), f86]
        rw [if_neg (by omega), if_neg cn, hcom h3 n f86 cx.2, if_pos d.1]
        simp only [zb1_some]
        rw [if_neg (by decide), hcom h3 m f86 cy.2, if_pos d.2]
        simp only [zb1_some]
        rw [if_neg (by decide), q1]
        simp (disch := omega) only [zst_if, zup1_ne, zup1_eq, w32_s, rget_in, rput_in, zgrd, Nat.reduceEqDiff, Nat.reduceAdd, ↓reduceIte, Int.reduceToNat, zb1_some, zb2_some, zb3_some, zb4_some, zb5_some, Int.toNat_natCast, true_and, and_true, make_s]
      · refine zmut hI (h1 := h3) (a := zup1 (zup1 (zup1 (zup1 (zkeep (h 86)) (41 + 8 * n + 6) (10 + f)) (41 + 8 * m + 6) (10 + f)) (41 + 8 * n + 7) m) (41 + 8 * m + 7) n) ?_ ?_ ?_ ?_ ?_ ?_
        · exact fun id _ r => (fo id (by omega)).trans (f1 id (by omega) (by omega))
        · refine zYc_ox z1 hkk (fun id u _ _ => fo id u) (fun j hj => by rw [d3]; simp (disch := omega) only [zst_if, zup1_ne, zup1_eq, w32_s, rget_in, rput_in, zgrd, Nat.reduceEqDiff, Nat.reduceAdd, ↓reduceIte, Int.reduceToNat, zb1_some, zb2_some, zb3_some, zb4_some, zb5_some, Int.toNat_natCast, true_and, and_true]) (fun j hj => by simp (disch := omega) only [zst_if, zup1_ne, zup1_eq, w32_s, rget_in, rput_in, zgrd, Nat.reduceEqDiff, Nat.reduceAdd, ↓reduceIte, Int.reduceToNat, zb1_some, zb2_some, zb3_some, zb4_some, zb5_some, Int.toNat_natCast, true_and, and_true]) (fun o ho => by simp (disch := omega) only [zst_if, zup1_ne, zup1_eq, w32_s, rget_in, rput_in, zgrd, Nat.reduceEqDiff, Nat.reduceAdd, ↓reduceIte, Int.reduceToNat, zb1_some, zb2_some, zb3_some, zb4_some, zb5_some, Int.toNat_natCast, true_and, and_true]) ?_
          rw [d3, zst_if, if_pos rfl]
          refine zYc_put ?_ (by omega) (by decide)
          rw [zst_if, if_pos rfl]
          refine zYc_put ?_ (by omega) (by decide)
          rw [zst_if, if_pos rfl]
          refine zYc_put ?_ (by omega) (by decide)
          rw [zst_if, if_pos rfl]
          exact zYc_put z4 (by omega) (by decide)
        · exact zMr.st (zMr.st (zMr.st (zMr.st (fun id u v => q3 id v))))
        · rw [zst_if, if_pos rfl, zst_if, if_pos rfl, zst_if, if_pos rfl, zst_if, if_pos rfl, q2, f86]
        · refine zOk_ox hkk (fun j hj => by simp (disch := omega) only [zst_if, zup1_ne, zup1_eq, w32_s, rget_in, rput_in, zgrd, Nat.reduceEqDiff, Nat.reduceAdd, ↓reduceIte, Int.reduceToNat, zb1_some, zb2_some, zb3_some, zb4_some, zb5_some, Int.toNat_natCast, true_and, and_true]) (fun o ho => by simp (disch := omega) only [zst_if, zup1_ne, zup1_eq, w32_s, rget_in, rput_in, zgrd, Nat.reduceEqDiff, Nat.reduceAdd, ↓reduceIte, Int.reduceToNat, zb1_some, zb2_some, zb3_some, zb4_some, zb5_some, Int.toNat_natCast, true_and, and_true]) (fun o ho => ?_)
          have ho2 : (o : Int) < h 86 2 := by rw [lo 2 (by omega) (by omega)] at ho; exact ho
          have hx := (hkk.2.2.2.1 o ho).1
          have l0 := lo 0 (by omega) (by omega)
          have l1 := lo 1 (by omega) (by omega)
          have l2 := lo 2 (by omega) (by omega)
          unfold zOx at hx hoxn hoxm ⊢
          by_cases q : o = n
          · subst q
            simp (disch := omega) only [zst_if, zup1_ne, zup1_eq, w32_s, rget_in, rput_in, zgrd, Nat.reduceEqDiff, Nat.reduceAdd, ↓reduceIte, Int.reduceToNat, zb1_some, zb2_some, zb3_some, zb4_some, zb5_some, Int.toNat_natCast, true_and, and_true, zup1_e]
            refine ⟨hx.1, hx.2.1, hx.2.2.1, Or.inr ⟨(by omega), (by omega)⟩, (by omega), (by omega), (by omega), fun _ => (by omega)⟩
          · by_cases q' : o = m
            · subst q'
              simp (disch := omega) only [zst_if, zup1_ne, zup1_eq, w32_s, rget_in, rput_in, zgrd, Nat.reduceEqDiff, Nat.reduceAdd, ↓reduceIte, Int.reduceToNat, zb1_some, zb2_some, zb3_some, zb4_some, zb5_some, Int.toNat_natCast, true_and, and_true, zup1_e]
              refine ⟨hx.1, hx.2.1, hx.2.2.1, Or.inr ⟨(by omega), (by omega)⟩, (by omega), (by omega), (by omega), fun _ => (by omega)⟩
            · simp (disch := omega) only [zst_if, zup1_ne, zup1_eq, w32_s, rget_in, rput_in, zgrd, Nat.reduceEqDiff, Nat.reduceAdd, ↓reduceIte, Int.reduceToNat, zb1_some, zb2_some, zb3_some, zb4_some, zb5_some, Int.toNat_natCast, true_and, and_true]
              exact hx
        · simp (disch := omega) only [zst_if, zup1_ne, zup1_eq, w32_s, rget_in, rput_in, zgrd, Nat.reduceEqDiff, Nat.reduceAdd, ↓reduceIte, Int.reduceToNat, zb1_some, zb2_some, zb3_some, zb4_some, zb5_some, Int.toNat_natCast, true_and, and_true, lo 4 (by omega) (by omega)]
    · refine ⟨h, zcas_of (r := 0) (h1 := h) ?_ ?_, hI⟩
      · unfold sh_Ox_yoke
        simp only [isField_z (h := h) (x := f) (by omega), e1, hcan n (by omega), hcan m (by omega)]
        rw [if_neg hpair, if_neg (by omega)]
        by_cases d1 : (h 86 (47 + 8 * n) < 10 ∨ (h 86 (47 + 8 * n) = w32 (10 + f) ∧ h 86 (48 + 8 * n) = -1))
        · rw [if_neg (fun q => q d1), if_pos (fun q => d ⟨d1, q⟩)]
        · rw [if_pos d1]
      · unfold sh_Mo_yoke
        simp only [isFieldR_z (h := h) (x := f) (by omega)]
        rw [if_neg (by omega), if_neg cn, hcom h n rfl cx.2, hcom h m rfl cy.2]
        simp only [zb1_some]
        by_cases d1 : (h 86 (47 + 8 * n) < 10 ∨ (h 86 (47 + 8 * n) = w32 (10 + f) ∧ h 86 (48 + 8 * n) = -1))
        · rw [if_pos d1, if_neg (by decide), if_neg (fun q => d ⟨d1, q⟩), if_pos rfl]
        · rw [if_neg d1, if_pos rfl]
  · refine ⟨h, zcas_of (r := 0) (h1 := h) ?_ ?_, hI⟩
    · unfold sh_Ox_yoke
      simp only [isPair_z (h := h) (x := x) (y := y) (by omega), isField_z (h := h) (x := f) (by omega), e0, e1]
      by_cases cp : x ≠ y ∧ (0 ≤ x ∧ x < h 86 2) ∧ (0 ≤ y ∧ y < h 86 2)
      · rw [if_neg (fun q => q cp), if_pos (fun q => c ⟨cp, q⟩)]
      · rw [if_pos cp]
    · unfold sh_Mo_yoke
      simp only [isFieldR_z (h := h) (x := f) (by omega)]
      by_cases cf : 0 ≤ f ∧ f < h 86 1
      · rw [if_neg (by omega)]
        by_cases cn : x = y
        · rw [if_pos cn]
        · rw [if_neg cn]
          have hno : ∀ z, ¬ (0 ≤ z ∧ z < h 86 2) → sh_Mo_canCome N z f h = some 0 := fun z hz => by
            unfold sh_Mo_canCome
            simp only [isOxR_z (h := h) (x := z) (by omega)]
            rw [if_pos hz]
          by_cases cx : 0 ≤ x ∧ x < h 86 2
          · obtain ⟨n, rfl⟩ : ∃ n : Nat, x = n := ⟨x.toNat, by omega⟩
            rw [hcom h n rfl cx.2, hno y (by omega)]
            simp only [zb1_some]
            by_cases d1 : (h 86 (47 + 8 * n) < 10 ∨ (h 86 (47 + 8 * n) = w32 (10 + f) ∧ h 86 (48 + 8 * n) = -1))
            · rw [if_pos d1, if_neg (by decide), if_pos trivial]
            · rw [if_neg d1, if_pos rfl]
          · rw [hno x cx]
            simp only [zb1_some]
            rw [if_pos trivial]
      · rw [if_pos (by omega)]
