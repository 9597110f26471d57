/-! PURE: image and back -/
theorem zOk_lt {a a1 : zFn} (hk : zOk a) (e : ∀ j, j < 1061 → a1 j = a j) : zOk a1 := by
  obtain ⟨k1, k2, k3, k4, k5, k6⟩ := hk
  refine ⟨?_, ?_, ?_, ?_, ?_, ?_⟩
  · rw [e 0 (by omega), e 1 (by omega), e 2 (by omega), e 3 (by omega), e 4 (by omega), e 5 (by omega), e 6 (by omega), e 7 (by omega)]; exact k1
  · intro k hk
    rw [e _ (by omega), e _ (by omega), e _ (by omega)]; exact k2 k hk
  · intro k hk
    rw [e _ (by omega), e _ (by omega), e _ (by omega), e _ (by omega)]; exact k3 k hk
  · intro o ho
    rw [e 2 (by omega)] at ho
    rw [e 0 (by omega), e 1 (by omega), e 2 (by omega), e (41 + 8 * o) (by omega), e (42 + 8 * o) (by omega), e (43 + 8 * o) (by omega), e (44 + 8 * o) (by omega), e (45 + 8 * o) (by omega), e (46 + 8 * o) (by omega), e (47 + 8 * o) (by omega), e (48 + 8 * o) (by omega)]
    exact k4 o ho
  · intro k hk
    rw [e 6 (by omega)] at hk
    rw [e 0 (by omega), e _ (by omega), e _ (by omega)]; exact k5 k hk
  · intro k hk
    rw [e 7 (by omega)] at hk
    obtain ⟨h1, h2, h3⟩ := k6 k hk
    have h8 := h1.2.2
    rw [e 0 (by omega), e 1 (by omega), e 2 (by omega), e (121 + 47 * k) (by omega), e (122 + 47 * k) (by omega), e (123 + 47 * k) (by omega)]
    refine ⟨h1, fun f hf => by rw [e _ (by omega)]; exact h2 f hf, fun o ho => ?_⟩
    rw [e (128 + 47 * k + 5 * o) (by omega), e (129 + 47 * k + 5 * o) (by omega), e (130 + 47 * k + 5 * o) (by omega), e (131 + 47 * k + 5 * o) (by omega), e (132 + 47 * k + 5 * o) (by omega)]
    exact h3 o ho
theorem zYc_lt {b : Nat} {h : zHp} {a a1 : zFn} (hk : zOk a) (hy : zYc b h a) (e : ∀ j, j < 1061 → a1 j = a j) : zYc b h a1 := by
  obtain ⟨y1, y2, y3, y4, y5, y6⟩ := hy
  refine ⟨?_, ?_, ?_, ?_, ?_, ?_⟩
  · rw [e 0 (by omega), e 1 (by omega), e 2 (by omega), e 3 (by omega), e 4 (by omega), e 5 (by omega), e 6 (by omega), e 7 (by omega)]; exact y1
  · intro k hk
    rw [e _ (by omega), e _ (by omega), e _ (by omega)]; exact y2 k hk
  · intro k hk
    rw [e _ (by omega), e _ (by omega), e _ (by omega), e _ (by omega)]; exact y3 k hk
  · intro o ho w hw
    rw [e _ (by omega)]; exact y4 o ho w hw
  · intro k hk
    rw [e _ (by omega), e _ (by omega)]; exact y5 k hk
  · intro k hk0
    rw [e 7 (by omega)] at hk0 ⊢
    have hr := (hk.s k hk0).1.2.2
    have h2 := hk.1.2.2.1
    have h7 := hk.1.2.2.2.2.2.2.2
    rw [show 123 + 47 * k = 121 + 47 * k + 2 by omega] at hr
    exact zSp_mv (y6 k hk0) (fun _ _ => rfl) (fun j hj => e _ (by omega)) (fun o ho v v1 v2 => e _ (by omega)) (by omega)
/-- one yard as the other -/
theorem zYc_cp {b b1 : Nat} {h h1 : zHp} {a : zFn} (hk : zOk a) (hy : zYc b h a) (e1 : h1 (1 + b1) 0 = h (1 + b) 0 ∧ h1 (1 + b1) 9 = h (1 + b) 9 ∧ h1 (1 + b1) 12 = h (1 + b) 12 ∧ h1 (1 + b1) 13 = h (1 + b) 13) (e17 : h1 (17 + b1) 1 = h (17 + b) 1 ∧ h1 (17 + b1) 2 = h (17 + b) 2)
    (e5 : ∀ k, k < 5 → h1 (3 + b1) k = h (3 + b) k ∧ h1 (5 + b1) k = h (5 + b) k ∧ h1 (7 + b1) k = h (7 + b) k) (e4 : ∀ k, k < 4 → h1 (9 + b1) k = h (9 + b) k ∧ h1 (11 + b1) k = h (11 + b) k ∧ h1 (13 + b1) k = h (13 + b) k) (e71 : ∀ k, k < 71 → h1 (16 + b1) k = h (16 + b) k) (e14 : ∀ k, k < 1420 → h1 (19 + b1) k = h (19 + b) k)
    (e8 : ∀ k, k < 8 → h1 (21 + b1) k = h (21 + b) k ∧ h1 (23 + b1) k = h (23 + b) k) : zYc b1 h1 a := by
  obtain ⟨y1, y2, y3, y4, y5, y6⟩ := hy
  refine ⟨?_, ?_, ?_, ?_, ?_, ?_⟩
  · rw [e1.1, e1.2.1, e1.2.2.1, e1.2.2.2, e17.1, e17.2, e71 0 (by omega), e71 1 (by omega), e71 2 (by omega)]; exact y1
  · intro k hk
    rw [(e5 k hk).1, (e5 k hk).2.1, (e5 k hk).2.2]; exact y2 k hk
  · intro k hk
    rw [(e4 k hk).1, (e4 k hk).2.1, (e4 k hk).2.2, e71 _ (by omega)]; exact y3 k hk
  · intro o ho w hw
    rw [e71 _ (by omega)]; exact y4 o ho w hw
  · intro k hk
    rw [(e8 k hk).1, (e8 k hk).2]; exact y5 k hk
  · intro k hk0
    rw [e17.1]
    have hr := (hk.s k hk0).1.2.2
    have h2 := hk.1.2.2.1
    rw [show 123 + 47 * k = 121 + 47 * k + 2 by omega] at hr
    exact zSp_mv (y6 k hk0) (fun j hj => e14 _ (by omega)) (fun _ _ => rfl) (fun _ _ _ _ _ => rfl) (by omega)
theorem rcopy_if (h : zHp) (a n b m p : Nat) : rcopy h a n b m p = if p = a then (fun j => if j < n ∧ j < m then h b j else h a j) else h p := by
  funext j
  unfold rcopy
  by_cases q : p = a
  · subst q
    rw [if_pos rfl]
    by_cases r : j < n ∧ j < m
    · rw [if_pos ⟨rfl, r⟩, if_pos r]
    · rw [if_neg (fun t => r t.2), if_neg r]
  · rw [if_neg (fun t => q t.1), if_neg q]
theorem zcpy_1 (N : Nat) : ∀ (d n k : Nat) (h : zHp), k + d = 1061 → d < n → ∃ h', sh_Mo_copy_86_87_L2 N n (k : Int) h = some h' ∧ (∀ j, h' 87 j = if k ≤ j ∧ j < 1061 then h 86 j else h 87 j) ∧ ∀ id, id ≠ 87 → h' id = h id := by
  intro d
  induction d with
  | zero =>
    intro n k h hk hn
    obtain ⟨n, rfl⟩ : ∃ m, n = m + 1 := ⟨n - 1, by omega⟩
    obtain rfl : k = 1061 := by omega
    exact ⟨h, by unfold sh_Mo_copy_86_87_L2; rw [if_pos (by decide)], fun j => by rw [if_neg (by omega)], fun _ _ => rfl⟩
  | succ d ih =>
    intro n k h hk hn
    obtain ⟨n, rfl⟩ : ∃ m, n = m + 1 := ⟨n - 1, by omega⟩
    have e3 : w32 ((k : Int) + 1) = ((k + 1 : Nat) : Int) := by rw [w32_s (by omega) (by omega)]; omega
    obtain ⟨h', p, q, r⟩ := ih n (k + 1) (zst h 87 k (h 86 k)) (by omega) (by omega)
    refine ⟨h', ?_, fun j => ?_, fun id hid => by rw [r id hid, zst_if, if_neg hid]⟩
    · unfold sh_Mo_copy_86_87_L2
      rw [if_neg (by omega), e3]
      simp (disch := omega) only [zst_if, zup1_ne, zup1_eq, w32_s, rget_in, rput_in, zgrd, Nat.reduceEqDiff, Nat.reduceAdd, ↓reduceIte, Int.reduceToNat, zb1_some, zb2_some, zb3_some, zb4_some, zb5_some, Int.toNat_natCast, true_and, and_true]
      exact p
    · rw [q j]
      simp only [zst_if, Nat.reduceEqDiff, ↓reduceIte, zup1_if]
      by_cases c : j = k
      · subst c; rw [if_neg (by omega), if_pos rfl, if_pos (by omega)]
      · by_cases c2 : k + 1 ≤ j ∧ j < 1061
        · rw [if_pos c2, if_pos (by omega)]
        · rw [if_neg c2, if_neg c, if_neg (by omega)]
theorem zcpy_2 (N : Nat) : ∀ (d n k : Nat) (h : zHp), k + d = 1061 → d < n → ∃ h', sh_Mo_copy_87_86_L2 N n (k : Int) h = some h' ∧ (∀ j, h' 86 j = if k ≤ j ∧ j < 1061 then h 87 j else h 86 j) ∧ ∀ id, id ≠ 86 → h' id = h id := by
  intro d
  induction d with
  | zero =>
    intro n k h hk hn
    obtain ⟨n, rfl⟩ : ∃ m, n = m + 1 := ⟨n - 1, by omega⟩
    obtain rfl : k = 1061 := by omega
    exact ⟨h, by unfold sh_Mo_copy_87_86_L2; rw [if_pos (by decide)], fun j => by rw [if_neg (by omega)], fun _ _ => rfl⟩
  | succ d ih =>
    intro n k h hk hn
    obtain ⟨n, rfl⟩ : ∃ m, n = m + 1 := ⟨n - 1, by omega⟩
    have e3 : w32 ((k : Int) + 1) = ((k + 1 : Nat) : Int) := by rw [w32_s (by omega) (by omega)]; omega
    obtain ⟨h', p, q, r⟩ := ih n (k + 1) (zst h 86 k (h 87 k)) (by omega) (by omega)
    refine ⟨h', ?_, fun j => ?_, fun id hid => by rw [r id hid, zst_if, if_neg hid]⟩
    · unfold sh_Mo_copy_87_86_L2
      rw [if_neg (by omega), e3]
      simp (disch := omega) only [zst_if, zup1_ne, zup1_eq, w32_s, rget_in, rput_in, zgrd, Nat.reduceEqDiff, Nat.reduceAdd, ↓reduceIte, Int.reduceToNat, zb1_some, zb2_some, zb3_some, zb4_some, zb5_some, Int.toNat_natCast, true_and, and_true]
      exact p
    · rw [q j]
      simp only [zst_if, Nat.reduceEqDiff, ↓reduceIte, zup1_if]
      by_cases c : j = k
      · subst c; rw [if_neg (by omega), if_pos rfl, if_pos (by omega)]
      · by_cases c2 : k + 1 ≤ j ∧ j < 1061
        · rw [if_pos c2, if_pos (by omega)]
        · rw [if_neg c2, if_neg c, if_neg (by omega)]
theorem zimg_c {h : zHp} {a : zFn} (hk : zOk a) (hy : zYc 0 h a) : ∃ h1, sh_Yard_copyFrom_41_1 h = h1 ∧ zYc 40 h1 a ∧ ∀ id, (id < 41 ∨ 63 < id) → h1 id = h id := by
  refine ⟨_, rfl, ?_, fun id hid => ?_⟩
  · refine zYc_cp (b := 0) hk hy ?_ ?_ (fun k hk => ?_) (fun k hk => ?_) (fun k hk => ?_) (fun k hk => ?_) (fun k hk => ?_) <;> unfold sh_Yard_copyFrom_41_1 sh_Steps_copyFrom_57_17 sh_Herd_copyFrom_54_14
    · simp (disch := omega) only [zst_if, zup1_ne, zup1_eq, w32_s, rget_in, rput_in, zgrd, Nat.reduceEqDiff, Nat.reduceAdd, ↓reduceIte, Int.reduceToNat, zb1_some, zb2_some, zb3_some, zb4_some, zb5_some, Int.toNat_natCast, true_and, and_true, rcopy_if, and_self]
    · simp (disch := omega) only [zst_if, zup1_ne, zup1_eq, w32_s, rget_in, rput_in, zgrd, Nat.reduceEqDiff, Nat.reduceAdd, ↓reduceIte, Int.reduceToNat, zb1_some, zb2_some, zb3_some, zb4_some, zb5_some, Int.toNat_natCast, true_and, and_true, rcopy_if, and_self]
    · simp (disch := omega) only [zst_if, zup1_ne, zup1_eq, w32_s, rget_in, rput_in, zgrd, Nat.reduceEqDiff, Nat.reduceAdd, ↓reduceIte, Int.reduceToNat, zb1_some, zb2_some, zb3_some, zb4_some, zb5_some, Int.toNat_natCast, true_and, and_true, within_z, isIn_z, if_pos, if_neg, rcopy_if, and_self]
    · simp (disch := omega) only [zst_if, zup1_ne, zup1_eq, w32_s, rget_in, rput_in, zgrd, Nat.reduceEqDiff, Nat.reduceAdd, ↓reduceIte, Int.reduceToNat, zb1_some, zb2_some, zb3_some, zb4_some, zb5_some, Int.toNat_natCast, true_and, and_true, within_z, isIn_z, if_pos, if_neg, rcopy_if, and_self]
    · simp (disch := omega) only [zst_if, zup1_ne, zup1_eq, w32_s, rget_in, rput_in, zgrd, Nat.reduceEqDiff, Nat.reduceAdd, ↓reduceIte, Int.reduceToNat, zb1_some, zb2_some, zb3_some, zb4_some, zb5_some, Int.toNat_natCast, true_and, and_true, within_z, isIn_z, if_pos, if_neg, rcopy_if, and_self]
    · simp (disch := omega) only [zst_if, zup1_ne, zup1_eq, w32_s, rget_in, rput_in, zgrd, Nat.reduceEqDiff, Nat.reduceAdd, ↓reduceIte, Int.reduceToNat, zb1_some, zb2_some, zb3_some, zb4_some, zb5_some, Int.toNat_natCast, true_and, and_true, within_z, isIn_z, if_pos, if_neg, rcopy_if, and_self]
    · simp (disch := omega) only [zst_if, zup1_ne, zup1_eq, w32_s, rget_in, rput_in, zgrd, Nat.reduceEqDiff, Nat.reduceAdd, ↓reduceIte, Int.reduceToNat, zb1_some, zb2_some, zb3_some, zb4_some, zb5_some, Int.toNat_natCast, true_and, and_true, within_z, isIn_z, if_pos, if_neg, rcopy_if, and_self]
  · unfold sh_Yard_copyFrom_41_1 sh_Steps_copyFrom_57_17 sh_Herd_copyFrom_54_14
    have n : ∀ q, 41 ≤ q → q ≤ 63 → id ≠ q := fun q a b => by omega
    rw [zst_if, if_neg (n _ (by decide) (by decide)), zst_if, if_neg (n _ (by decide) (by decide)), rcopy_if, if_neg (n _ (by decide) (by decide)), rcopy_if, if_neg (n _ (by decide) (by decide)), zst_if, if_neg (n _ (by decide) (by decide)), zst_if, if_neg (n _ (by decide) (by decide)), zst_if, if_neg (n _ (by decide) (by decide)), rcopy_if, if_neg (n _ (by decide) (by decide)), rcopy_if, if_neg (n _ (by decide) (by decide)), rcopy_if, if_neg (n _ (by decide) (by decide)), rcopy_if, if_neg (n _ (by decide) (by decide)), rcopy_if, if_neg (n _ (by decide) (by decide)), rcopy_if, if_neg (n _ (by decide) (by decide)), rcopy_if, if_neg (n _ (by decide) (by decide)), rcopy_if, if_neg (n _ (by decide) (by decide)), zst_if, if_neg (n _ (by decide) (by decide))]
theorem zbck_c {h : zHp} {a : zFn} (hk : zOk a) (hy : zYc 40 h a) : ∃ h1, sh_Yard_copyFrom_1_41 h = h1 ∧ zYc 0 h1 a ∧ ∀ id, (id < 1 ∨ 23 < id) → h1 id = h id := by
  refine ⟨_, rfl, ?_, fun id hid => ?_⟩
  · refine zYc_cp (b := 40) hk hy ?_ ?_ (fun k hk => ?_) (fun k hk => ?_) (fun k hk => ?_) (fun k hk => ?_) (fun k hk => ?_) <;> unfold sh_Yard_copyFrom_1_41 sh_Steps_copyFrom_17_57 sh_Herd_copyFrom_14_54
    · simp (disch := omega) only [zst_if, zup1_ne, zup1_eq, w32_s, rget_in, rput_in, zgrd, Nat.reduceEqDiff, Nat.reduceAdd, ↓reduceIte, Int.reduceToNat, zb1_some, zb2_some, zb3_some, zb4_some, zb5_some, Int.toNat_natCast, true_and, and_true, rcopy_if, and_self]
    · simp (disch := omega) only [zst_if, zup1_ne, zup1_eq, w32_s, rget_in, rput_in, zgrd, Nat.reduceEqDiff, Nat.reduceAdd, ↓reduceIte, Int.reduceToNat, zb1_some, zb2_some, zb3_some, zb4_some, zb5_some, Int.toNat_natCast, true_and, and_true, rcopy_if, and_self]
    · simp (disch := omega) only [zst_if, zup1_ne, zup1_eq, w32_s, rget_in, rput_in, zgrd, Nat.reduceEqDiff, Nat.reduceAdd, ↓reduceIte, Int.reduceToNat, zb1_some, zb2_some, zb3_some, zb4_some, zb5_some, Int.toNat_natCast, true_and, and_true, within_z, isIn_z, if_pos, if_neg, rcopy_if, and_self]
    · simp (disch := omega) only [zst_if, zup1_ne, zup1_eq, w32_s, rget_in, rput_in, zgrd, Nat.reduceEqDiff, Nat.reduceAdd, ↓reduceIte, Int.reduceToNat, zb1_some, zb2_some, zb3_some, zb4_some, zb5_some, Int.toNat_natCast, true_and, and_true, within_z, isIn_z, if_pos, if_neg, rcopy_if, and_self]
    · simp (disch := omega) only [zst_if, zup1_ne, zup1_eq, w32_s, rget_in, rput_in, zgrd, Nat.reduceEqDiff, Nat.reduceAdd, ↓reduceIte, Int.reduceToNat, zb1_some, zb2_some, zb3_some, zb4_some, zb5_some, Int.toNat_natCast, true_and, and_true, within_z, isIn_z, if_pos, if_neg, rcopy_if, and_self]
    · simp (disch := omega) only [zst_if, zup1_ne, zup1_eq, w32_s, rget_in, rput_in, zgrd, Nat.reduceEqDiff, Nat.reduceAdd, ↓reduceIte, Int.reduceToNat, zb1_some, zb2_some, zb3_some, zb4_some, zb5_some, Int.toNat_natCast, true_and, and_true, within_z, isIn_z, if_pos, if_neg, rcopy_if, and_self]
    · simp (disch := omega) only [zst_if, zup1_ne, zup1_eq, w32_s, rget_in, rput_in, zgrd, Nat.reduceEqDiff, Nat.reduceAdd, ↓reduceIte, Int.reduceToNat, zb1_some, zb2_some, zb3_some, zb4_some, zb5_some, Int.toNat_natCast, true_and, and_true, within_z, isIn_z, if_pos, if_neg, rcopy_if, and_self]
  · unfold sh_Yard_copyFrom_1_41 sh_Steps_copyFrom_17_57 sh_Herd_copyFrom_14_54
    have n : ∀ q, 1 ≤ q → q ≤ 23 → id ≠ q := fun q a b => by omega
    rw [zst_if, if_neg (n _ (by decide) (by decide)), zst_if, if_neg (n _ (by decide) (by decide)), rcopy_if, if_neg (n _ (by decide) (by decide)), rcopy_if, if_neg (n _ (by decide) (by decide)), zst_if, if_neg (n _ (by decide) (by decide)), zst_if, if_neg (n _ (by decide) (by decide)), zst_if, if_neg (n _ (by decide) (by decide)), rcopy_if, if_neg (n _ (by decide) (by decide)), rcopy_if, if_neg (n _ (by decide) (by decide)), rcopy_if, if_neg (n _ (by decide) (by decide)), rcopy_if, if_neg (n _ (by decide) (by decide)), rcopy_if, if_neg (n _ (by decide) (by decide)), rcopy_if, if_neg (n _ (by decide) (by decide)), rcopy_if, if_neg (n _ (by decide) (by decide)), rcopy_if, if_neg (n _ (by decide) (by decide)), zst_if, if_neg (n _ (by decide) (by decide))]
theorem zc_image {h : zHp} (hI : zInv h) {N : Nat} (hN : 1100 ≤ N) : ∃ h2, zcas sh_Ox_image (sh_Mo_image N) h = some (1, h2) ∧ zInv h2 := by
  obtain ⟨⟨hy, hk⟩, ⟨i1, i2⟩, i3, ⟨T, i4⟩, i5, i6, i7⟩ := hI
  obtain ⟨h1, p1, z1, f1⟩ := zimg_c hk hy
  obtain ⟨h2, p2, q2, f2⟩ := zcpy_1 N 1061 N 0 h1 rfl (by omega)
  have g86 : h1 86 = h 86 := f1 86 (by omega)
  have F : ∀ id, (id < 41 ∨ 63 < id) → id ≠ 87 → h2 id = h id := fun id a b => (f2 id b).trans (f1 id a)
  have e87 : ∀ j, j < 1061 → h2 87 j = h 86 j := fun j hj => by rw [q2 j, if_pos (by omega), g86]
  refine ⟨h2, zcas_of (r := h 86 3) (h1 := h1) ?_ ?_, ?_⟩
  · unfold sh_Ox_image
    rw [p1, hour_s, f1 16 (by omega)]
    have := hy.1.2.2.2.1
    simp only [Nat.reduceAdd] at this
    rw [this]
  · unfold sh_Mo_image sh_Mo_copy_86_87
    rw [show (0 : Int) = ((0 : Nat) : Int) from rfl, p2]
    simp only [zb1_some]
    rw [f2 86 (by decide), g86]
  · refine ⟨⟨?_, ?_⟩, ⟨?_, ?_⟩, ?_, ⟨T, ?_⟩, ?_, ?_, ?_⟩
    · rw [F 86 (by omega) (by decide)]
      exact zYc_eq0 hy (fun id a b => F id (by omega) (by omega))
    · rw [F 86 (by omega) (by decide)]; exact hk
    · refine zYc_lt hk ?_ e87
      exact zYc_eq4 z1 (fun id a b => f2 id (by omega))
    · exact zOk_lt hk e87
    · rw [e87 4 (by omega), F 86 (by omega) (by decide)]; exact Int.le_refl _
    · refine zTx_eq i4 (fun id q => F id (by omega) (by omega)) (by rw [F 86 (by omega) (by decide)]; exact Int.le_refl _)
    · rw [F 0 (by omega) (by decide), F 85 (by omega) (by decide), F 25 (by omega) (by decide), F 89 (by omega) (by decide)]; exact i5
    · rw [F 67 (by omega) (by decide), F 85 (by omega) (by decide)]; exact i6
    · rw [F 67 (by omega) (by decide), F 85 (by omega) (by decide)]; exact i7
theorem zc_back {h : zHp} (hI : zInv h) {N : Nat} (hN : 1100 ≤ N) : ∃ h2, zcas sh_Ox_back (sh_Mo_back N) h = some (1, h2) ∧ zInv h2 := by
  obtain ⟨⟨hy, hk⟩, ⟨i1, i2⟩, i3, ⟨T, i4⟩, i5, i6, i7⟩ := hI
  obtain ⟨h1, p1, z1, f1⟩ := zbck_c i2 i1
  obtain ⟨h2, p2, q2, f2⟩ := zcpy_2 N 1061 N 0 h1 rfl (by omega)
  have g87 : h1 87 = h 87 := f1 87 (by omega)
  have F : ∀ id, (id < 1 ∨ 23 < id) → id ≠ 86 → h2 id = h id := fun id a b => (f2 id b).trans (f1 id a)
  have e86 : ∀ j, j < 1061 → h2 86 j = h 87 j := fun j hj => by rw [q2 j, if_pos (by omega), g87]
  refine ⟨h2, zcas_of (r := h 87 3) (h1 := h1) ?_ ?_, ?_⟩
  · unfold sh_Ox_back
    rw [p1, hour_s]
    have := z1.1.2.2.2.1
    simp only [Nat.reduceAdd] at this
    rw [this]
  · unfold sh_Mo_back sh_Mo_copy_87_86
    rw [show (0 : Int) = ((0 : Nat) : Int) from rfl, p2]
    simp only [zb1_some]
    rw [e86 3 (by omega)]
  · refine ⟨⟨?_, ?_⟩, ⟨?_, ?_⟩, ?_, ⟨T, ?_⟩, ?_, ?_, ?_⟩
    · refine zYc_lt i2 ?_ e86
      exact zYc_eq0 z1 (fun id a b => f2 id (by omega))
    · exact zOk_lt i2 e86
    · rw [F 87 (by omega) (by decide)]
      exact zYc_eq4 i1 (fun id a b => F id (by omega) (by omega))
    · rw [F 87 (by omega) (by decide)]; exact i2
    · rw [e86 4 (by omega), F 87 (by omega) (by decide)]; exact Int.le_refl _
    · refine zTx_eq i4 (fun id q => F id (by omega) (by omega)) (by rw [e86 4 (by omega)]; exact i3)
    · rw [F 0 (by omega) (by decide), F 85 (by omega) (by decide), F 25 (by omega) (by decide), F 89 (by omega) (by decide)]; exact i5
    · rw [F 67 (by omega) (by decide), F 85 (by omega) (by decide)]; exact i6
    · rw [F 67 (by omega) (by decide), F 85 (by omega) (by decide)]; exact i7
