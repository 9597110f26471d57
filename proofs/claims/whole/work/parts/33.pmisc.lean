/-! PURE: end, fault, of, about -/
/-- the invariant's part that is not of the yard -/
theorem zInv_tape {h h2 : zHp} (hI : zInv h) (e : ∀ id, id ≠ 0 → id ≠ 25 → id ≠ 85 → id ≠ 89 → zScr id = false → h2 id = h id) (t : h2 0 1 = h2 85 4 ∧ 0 ≤ h2 85 4 ∧ h2 85 4 ≤ 300 ∧ ∀ i, i < 300 → h2 25 i = h2 89 i ∧ 0 ≤ h2 89 i ∧ h2 89 i ≤ 255) (e5 : h2 85 5 = h 85 5) (e6 : h2 85 6 = h 85 6) : zInv h2 := by
  obtain ⟨⟨a1, a2⟩, ⟨i1, i2⟩, i3, ⟨T, i4⟩, i5, i6, i7⟩ := hI
  have e86 := e 86 (by decide) (by decide) (by decide) (by decide) rfl
  have e87 := e 87 (by decide) (by decide) (by decide) (by decide) rfl
  refine ⟨⟨?_, ?_⟩, ⟨?_, ?_⟩, ?_, ⟨T, ?_⟩, t, ?_, ?_⟩
  · rw [e86]; exact zYc_eq0 a1 (fun id p q => e id (by omega) (by omega) (by omega) (by omega) (zScr_r p (by omega)))
  · rw [e86]; exact a2
  · rw [e87]; exact zYc_eq4 i1 (fun id p q => e id (by omega) (by omega) (by omega) (by omega) (zScr_k p q))
  · rw [e87]; exact i2
  · rw [e86, e87]; exact i3
  · refine zTx_eq i4 (fun id q => ?_) (by rw [e86]; exact Int.le_refl _)
    rcases q with rfl | rfl | rfl | rfl
    · exact e _ (by decide) (by decide) (by decide) (by decide) rfl
    · exact e _ (by decide) (by decide) (by decide) (by decide) rfl
    · exact e _ (by decide) (by decide) (by decide) (by decide) rfl
    · exact e _ (by decide) (by decide) (by decide) (by decide) rfl
  · rw [e5, e 67 (by decide) (by decide) (by decide) (by decide) rfl]; exact i6
  · rw [e6, e 67 (by decide) (by decide) (by decide) (by decide) rfl]; exact i7
theorem zc_end {h : zHp} (x : Int) (hI : zInv h) : ∃ h2, zcas (sh_Ox_end x) (sh_Mo_end x) h = some (1, h2) ∧ zInv h2 := by
  have hI' := hI
  obtain ⟨-, -, -, -, ⟨e0, k0, k1, k2⟩, -⟩ := hI'
  by_cases c : 0 ≤ x ∧ x ≤ h 85 4
  · refine ⟨_, zcas_of (r := x) (h1 := zst h 0 1 x) (h2 := zst (zst h 0 1 x) 85 4 x) ?_ ?_, ?_⟩
    · unfold sh_Ox_end
      simp only [within_z, e0]
      rw [if_neg (by omega)]
    · unfold sh_Mo_end
      simp only [isIn_z]
      rw [if_neg (by simp (disch := omega) only [zst_if, zup1_ne, zup1_eq, w32_s, rget_in, rput_in, zgrd, Nat.reduceEqDiff, Nat.reduceAdd, ↓reduceIte, Int.reduceToNat, zb1_some, zb2_some, zb3_some, zb4_some, zb5_some, Int.toNat_natCast, true_and, and_true]; omega)]
    · refine zInv_tape hI (fun id q1 q2 q3 q4 q5 => ?_) ?_ (by simp (disch := omega) only [zst_if, zup1_ne, zup1_eq, w32_s, rget_in, rput_in, zgrd, Nat.reduceEqDiff, Nat.reduceAdd, ↓reduceIte, Int.reduceToNat, zb1_some, zb2_some, zb3_some, zb4_some, zb5_some, Int.toNat_natCast, true_and, and_true]) (by simp (disch := omega) only [zst_if, zup1_ne, zup1_eq, w32_s, rget_in, rput_in, zgrd, Nat.reduceEqDiff, Nat.reduceAdd, ↓reduceIte, Int.reduceToNat, zb1_some, zb2_some, zb3_some, zb4_some, zb5_some, Int.toNat_natCast, true_and, and_true])
      · rw [zst_if, if_neg q3, zst_if, if_neg q1]
      · simp (disch := omega) only [zst_if, zup1_ne, zup1_eq, w32_s, rget_in, rput_in, zgrd, Nat.reduceEqDiff, Nat.reduceAdd, ↓reduceIte, Int.reduceToNat, zb1_some, zb2_some, zb3_some, zb4_some, zb5_some, Int.toNat_natCast, true_and, and_true]
        exact ⟨c.1, (by omega), k2⟩
  · refine ⟨h, zcas_of (r := -1) (h1 := h) ?_ ?_, hI⟩
    · unfold sh_Ox_end
      simp only [within_z, e0]
      rw [if_pos (by omega)]
    · unfold sh_Mo_end
      simp only [isIn_z]
      rw [if_pos (by omega)]
theorem zc_fault {h : zHp} (x : Int) (hI : zInv h) : sh_Ox_fault x h = sh_Mo_fault x h := by
  obtain ⟨-, -, -, -, -, i6, i7⟩ := hI
  unfold sh_Ox_fault sh_Mo_fault
  rw [i6, i7]
theorem w32_lo {a : Int} (h1 : -6000000000 ≤ a) (h2 : a < -2147483648) : w32 a = a + 4294967296 := by
  unfold w32
  rw [Int32.toInt_ofInt]
  show Int.bmod a 4294967296 = _
  unfold Int.bmod
  dsimp only
  split <;> omega
theorem zc_of {h : zHp} (x w : Int) (hI : zInv h) (N : Nat) : sh_Mo_of N x w h = some (sh_Ox_of x w h) := by
  obtain ⟨⟨hy, hk⟩, -⟩ := hI
  have e0 : h 16 2 = h 86 2 := hy.1.2.2.1
  have k0 := hk.1.2.2.1
  have y4 := hy.2.2.2.1
  unfold sh_Mo_of sh_Ox_of
  simp only [isOxR_z k0, isOx_z (h := h) (x := x) (by omega), within_z, isIn_z, e0]
  by_cases c : 0 ≤ x ∧ x < h 86 2
  · by_cases d : 0 ≤ w ∧ w ≤ 7
    · simp (disch := omega) only [zst_if, zup1_ne, zup1_eq, w32_s, rget_in, rput_in, zgrd, Nat.reduceEqDiff, Nat.reduceAdd, ↓reduceIte, Int.reduceToNat, zb1_some, zb2_some, zb3_some, zb4_some, zb5_some, Int.toNat_natCast, true_and, and_true, within_z, isIn_z, if_pos, if_neg, told_s, get_s]
      rw [y4 x.toNat (by omega) w.toNat (by omega)]
    · simp (disch := omega) only [zst_if, zup1_ne, zup1_eq, w32_s, rget_in, rput_in, zgrd, Nat.reduceEqDiff, Nat.reduceAdd, ↓reduceIte, Int.reduceToNat, zb1_some, zb2_some, zb3_some, zb4_some, zb5_some, Int.toNat_natCast, true_and, and_true, within_z, isIn_z, if_pos, if_neg]
  · simp (disch := omega) only [zst_if, zup1_ne, zup1_eq, w32_s, rget_in, rput_in, zgrd, Nat.reduceEqDiff, Nat.reduceAdd, ↓reduceIte, Int.reduceToNat, zb1_some, zb2_some, zb3_some, zb4_some, zb5_some, Int.toNat_natCast, true_and, and_true, within_z, isIn_z, if_pos, if_neg]
theorem zc_about {h : zHp} (x : Int) (hx : zI32 x) (hI : zInv h) (N : Nat) : sh_Mo_about N x h = some (sh_Ox_about x h) := by
  obtain ⟨⟨hy, hk⟩, -, -, -, ⟨e0, -⟩, -⟩ := hI
  obtain ⟨y1, y2, y3, y4, y5, y6⟩ := hy
  simp only [Nat.reduceAdd] at y1 y2 y3
  have k1 := hk.1
  unfold zI32 at hx
  unfold sh_Mo_about sh_Ox_about
  -- the row's place, with the machine's own wrap
  have wr : ∀ d : Int, 0 ≤ d → d ≤ 20 → ∀ m : Int, 0 ≤ m → m ≤ 5 → ((0 ≤ w32 (x - d) ∧ w32 (x - d) < m) ↔ (d ≤ x ∧ x ≤ d - 1 + m)) := by
    intro d d0 d1 m m0 m1
    by_cases c : -2147483648 ≤ x - d
    · rw [w32_s c (by omega)]
      constructor <;> intro q <;> omega
    · rw [w32_lo (by omega) (by omega)]
      constructor <;> intro q <;> omega
  simp only [isFarm_z (h := h) (x := w32 (x - 10)) (by omega), isField_z (h := h) (x := w32 (x - 20)) (by omega), y1.1, y1.2.1, isIn_z, w32_s (a := 9 + h 86 0) (by omega) (by omega), w32_s (a := 19 + h 86 1) (by omega) (by omega)]
  have w1 := wr 10 (by decide) (by decide) (h 86 0) (by omega) (by omega)
  have w2 := wr 20 (by decide) (by decide) (h 86 1) (by omega) (by omega)
  by_cases c1 : 10 ≤ x ∧ x ≤ 9 + h 86 0
  · unfold sh_Mo_pitchOf
    simp (disch := omega) only [zst_if, zup1_ne, zup1_eq, w32_s, rget_in, rput_in, zgrd, Nat.reduceEqDiff, Nat.reduceAdd, ↓reduceIte, Int.reduceToNat, zb1_some, zb2_some, zb3_some, zb4_some, zb5_some, Int.toNat_natCast, true_and, and_true, within_z, isIn_z, if_pos, if_neg]
    have e := (y2 (x - 10).toNat (by omega)).2.2
    rw [e]
    congr 2; omega
  · have n1 := fun q => c1 (w1.mp q)
    by_cases c2 : 20 ≤ x ∧ x ≤ 19 + h 86 1
    · simp (disch := omega) only [zst_if, zup1_ne, zup1_eq, w32_s, rget_in, rput_in, zgrd, Nat.reduceEqDiff, Nat.reduceAdd, ↓reduceIte, Int.reduceToNat, zb1_some, zb2_some, zb3_some, zb4_some, zb5_some, Int.toNat_natCast, true_and, and_true, within_z, isIn_z, if_pos, if_neg, furr_s]
      have e := (y3 (x - 20).toNat (by omega)).2.2.2
      rw [e]
      congr 2; omega
    · have n2 := fun q => c2 (w2.mp q)
      by_cases c3 : 0 ≤ x ∧ x ≤ 7
      · have hx8 : x = 0 ∨ x = 1 ∨ x = 2 ∨ x = 3 ∨ x = 4 ∨ x = 5 ∨ x = 6 ∨ x = 7 := by omega
        rw [if_pos (by omega), if_pos (by omega), if_neg (by omega), if_pos n1, if_pos n2]
        rw [zgrd (by omega) (by omega), oxen_s, fields_s, hour_s, show sh_Steps_count_17 h = h 17 2 from rfl, y1.2.1, y1.2.2.1, y1.2.2.2.1, y1.2.2.2.2.1, y1.2.2.2.2.2.1, y1.2.2.2.2.2.2.1, y1.2.2.2.2.2.2.2.1]
        rcases hx8 with rfl | rfl | rfl | rfl | rfl | rfl | rfl | rfl <;> rfl
      · rw [if_pos (by omega), if_pos (by omega), if_pos (by omega), if_pos n1, if_pos n2]
        rw [if_neg (show ¬ x = 0 by omega), if_neg (show ¬ x = 1 by omega), if_neg (show ¬ x = 2 by omega), if_neg (show ¬ x = 3 by omega), if_neg (show ¬ x = 4 by omega), if_neg (show ¬ x = 5 by omega), if_neg (show ¬ x = 6 by omega), if_neg (show ¬ x = 7 by omega), e0]
