/-! PURE: small reads and writes; field, ox, call, hush, by, end, fault, of, about -/
theorem zup1_e (a : zFn) {k : Nat} (v : Int) {j : Nat} (h : j = k) : zup1 a k v j = v := if_pos h
theorem get_s {x w : Int} {h : zHp} (h0 : 0 ≤ x) (h1 : x < 8) (h2 : 0 ≤ w) (h3 : w < 8) : sh_Herd_get_14 x w h = h 16 (7 + 8 * x.toNat + w.toNat) := by
  unfold sh_Herd_get_14
  simp (disch := omega) only [zst_if, zup1_ne, zup1_eq, w32_s, rget_in, rput_in, zgrd, Nat.reduceEqDiff, Nat.reduceAdd, ↓reduceIte, Int.reduceToNat, zb1_some, zb2_some, zb3_some, zb4_some, zb5_some, Int.toNat_natCast, true_and, and_true]
  congr 1; omega
theorem put_s {x w v : Int} {h : zHp} (h0 : 0 ≤ x) (h1 : x < 8) (h2 : 0 ≤ w) (h3 : w < 8) : sh_Herd_put_14 x w v h = zst h 16 (7 + 8 * x.toNat + w.toNat) v := by
  unfold sh_Herd_put_14
  simp (disch := omega) only [zst_if, zup1_ne, zup1_eq, w32_s, rget_in, rput_in, zgrd, Nat.reduceEqDiff, Nat.reduceAdd, ↓reduceIte, Int.reduceToNat, zb1_some, zb2_some, zb3_some, zb4_some, zb5_some, Int.toNat_natCast, true_and, and_true]
  congr 1; omega
theorem oxen_s {h : zHp} : sh_Herd_oxen_14 h = h 16 2 := rfl
theorem fields_s {h : zHp} : sh_Herd_fields_14 h = h 16 1 := rfl
theorem hour_s {h : zHp} : sh_Herd_hour_14 h = h 16 0 := rfl
theorem furr_s {x : Int} {h : zHp} (h0 : 0 ≤ x) (h1 : x < 4) : sh_Herd_furrows_14 x h = h 16 (3 + x.toNat) := by
  unfold sh_Herd_furrows_14
  simp (disch := omega) only [zst_if, zup1_ne, zup1_eq, w32_s, rget_in, rput_in, zgrd, Nat.reduceEqDiff, Nat.reduceAdd, ↓reduceIte, Int.reduceToNat, zb1_some, zb2_some, zb3_some, zb4_some, zb5_some, Int.toNat_natCast, true_and, and_true]
  congr 1; omega
theorem setf_s {x v : Int} {h : zHp} (h0 : 0 ≤ x) (h1 : x < 4) : sh_Herd_setFurrows_14 x v h = zst h 16 (3 + x.toNat) v := by
  unfold sh_Herd_setFurrows_14
  simp (disch := omega) only [zst_if, zup1_ne, zup1_eq, w32_s, rget_in, rput_in, zgrd, Nat.reduceEqDiff, Nat.reduceAdd, ↓reduceIte, Int.reduceToNat, zb1_some, zb2_some, zb3_some, zb4_some, zb5_some, Int.toNat_natCast, true_and, and_true]
  congr 1; omega
theorem seth_s {v : Int} {h : zHp} : sh_Herd_setHour_14 v h = zst h 16 0 v := rfl
theorem told_s {N : Nat} {x w : Int} {h : zHp} (h0 : 0 ≤ x) (h1 : x < 8) (h2 : 0 ≤ w) (h3 : w < 8) : sh_Mo_told N x w h = some (h 86 (41 + 8 * x.toNat + w.toNat)) := by
  unfold sh_Mo_told
  simp (disch := omega) only [zst_if, zup1_ne, zup1_eq, w32_s, rget_in, rput_in, zgrd, Nat.reduceEqDiff, Nat.reduceAdd, ↓reduceIte, Int.reduceToNat, zb1_some, zb2_some, zb3_some, zb4_some, zb5_some, Int.toNat_natCast, true_and, and_true]
  congr 2; omega
theorem make_s {N : Nat} {x w v : Int} {h : zHp} (h0 : 0 ≤ x) (h1 : x < 8) (h2 : 0 ≤ w) (h3 : w < 8) : sh_Mo_make N x w v h = some (zst h 86 (41 + 8 * x.toNat + w.toNat) v) := by
  unfold sh_Mo_make
  simp (disch := omega) only [zst_if, zup1_ne, zup1_eq, w32_s, rget_in, rput_in, zgrd, Nat.reduceEqDiff, Nat.reduceAdd, ↓reduceIte, Int.reduceToNat, zb1_some, zb2_some, zb3_some, zb4_some, zb5_some, Int.toNat_natCast, true_and, and_true]
  congr 2; omega
theorem isOx_z {x : Int} {h : zHp} (hb : 0 ≤ h 16 2 ∧ h 16 2 ≤ 8) : (sh_Ox_isOx x h = 0) = ¬ (0 ≤ x ∧ x < h 16 2) := by
  unfold sh_Ox_isOx
  rw [oxen_s, within_z, w32_s (by omega) (by omega)]
  apply propext; constructor <;> intro q <;> omega
theorem isField_z {x : Int} {h : zHp} (hb : 0 ≤ h 16 1 ∧ h 16 1 ≤ 4) : (sh_Ox_isField x h = 0) = ¬ (0 ≤ x ∧ x < h 16 1) := by
  unfold sh_Ox_isField
  rw [fields_s, within_z, w32_s (by omega) (by omega)]
  apply propext; constructor <;> intro q <;> omega
theorem isFarm_z {x : Int} {h : zHp} (hb : 0 ≤ h 1 0 ∧ h 1 0 ≤ 5) : (sh_Ox_isFarm x h = 0) = ¬ (0 ≤ x ∧ x < h 1 0) := by
  unfold sh_Ox_isFarm
  rw [within_z, w32_s (by omega) (by omega)]
  apply propext; constructor <;> intro q <;> omega
theorem isOxR_z {x : Int} {h : zHp} (hb : 0 ≤ h 86 2 ∧ h 86 2 ≤ 8) : (sh_Mo_isOx x h = 0) = ¬ (0 ≤ x ∧ x < h 86 2) := by
  unfold sh_Mo_isOx
  rw [isIn_z, w32_s (by omega) (by omega)]
  apply propext; constructor <;> intro q <;> omega
theorem isFieldR_z {x : Int} {h : zHp} (hb : 0 ≤ h 86 1 ∧ h 86 1 ≤ 4) : (sh_Mo_isField x h = 0) = ¬ (0 ≤ x ∧ x < h 86 1) := by
  unfold sh_Mo_isField
  rw [isIn_z, w32_s (by omega) (by omega)]
  apply propext; constructor <;> intro q <;> omega
theorem isFarmR_z {x : Int} {h : zHp} (hb : 0 ≤ h 86 0 ∧ h 86 0 ≤ 5) : (sh_Mo_isFarm x h = 0) = ¬ (0 ≤ x ∧ x < h 86 0) := by
  unfold sh_Mo_isFarm
  rw [isIn_z, w32_s (by omega) (by omega)]
  apply propext; constructor <;> intro q <;> omega
theorem zc_field {h : zHp} (x y p f : Int) (hI : zInv h) (N : Nat) : ∃ h2, zcas (sh_Ox_field x y p f) (sh_Mo_field N x y p f) h = some (1, h2) ∧ zInv h2 := by
  have hI' := hI
  obtain ⟨⟨hy, hk⟩, -⟩ := hI'
  have e0 : h 16 1 = h 86 1 := hy.1.2.1
  have k0 := hk.1.2.1
  by_cases c : h 86 1 < 4 ∧ (0 ≤ x ∧ x ≤ 19) ∧ (0 ≤ y ∧ y ≤ 19) ∧ (0 ≤ p ∧ p ≤ 9) ∧ (0 ≤ f ∧ f ≤ 99)
  · obtain ⟨c0, cx, cy, cp, cf⟩ := c
    obtain ⟨n, hn⟩ : ∃ n : Nat, h 86 1 = n := ⟨(h 86 1).toNat, by omega⟩
    have hF : sh_Ox_field x y p f h = some ((n : Int), zst (zst (zst (zst (zst h 9 n x) 11 n y) 13 n p) 16 (3 + n) f) 16 1 (n + 1)) := by
      unfold sh_Ox_field sh_Ox_isDigit sh_Herd_addField_14
      simp only [within_z, isPlace_z, fields_s, e0, hn]
      rw [if_neg (by omega), if_neg (by omega), if_neg (by omega), if_neg (by omega)]
      simp (disch := omega) only [zst_if, zup1_ne, zup1_eq, w32_s, rget_in, rput_in, zgrd, Nat.reduceEqDiff, Nat.reduceAdd, ↓reduceIte, Int.reduceToNat, zb1_some, zb2_some, zb3_some, zb4_some, zb5_some, Int.toNat_natCast, true_and, and_true, fields_s, e0, hn, setf_s]
    have e1 : ((25 : Int) + 4 * n).toNat = 25 + 4 * n := by omega
    have e2 : ((25 : Int) + 4 * n + 1).toNat = 26 + 4 * n := by omega
    have e3 : ((25 : Int) + 4 * n + 2).toNat = 27 + 4 * n := by omega
    have e5 : ((25 : Int) + 4 * n + 3).toNat = 28 + 4 * n := by omega
    have e4 : (n : Int) + 1 - 1 = n := by omega
    refine ⟨_, zcas_of hF (h2 := ?_) ?_, ?_⟩
    · exact zst (zst (zst (zst (zst (zst (zst (zst (zst (zst h 9 n x) 11 n y) 13 n p) 16 (3 + n) f) 16 1 (n + 1)) 86 (25 + 4 * n) x) 86 (26 + 4 * n) y) 86 (27 + 4 * n) p) 86 (28 + 4 * n) f) 86 1 (n + 1)
    · unfold sh_Mo_field
      simp only [isIn_z]
      rw [if_neg (by omega), if_neg (by omega), if_neg (by omega), if_neg (by omega), if_neg (by simp (disch := omega) only [zst_if, zup1_ne, zup1_eq, w32_s, rget_in, rput_in, zgrd, Nat.reduceEqDiff, Nat.reduceAdd, ↓reduceIte, Int.reduceToNat, zb1_some, zb2_some, zb3_some, zb4_some, zb5_some, Int.toNat_natCast, true_and, and_true]; omega)]
      simp (disch := omega) only [zst_if, zup1_ne, zup1_eq, w32_s, rget_in, rput_in, zgrd, Nat.reduceEqDiff, Nat.reduceAdd, ↓reduceIte, Int.reduceToNat, zb1_some, zb2_some, zb3_some, zb4_some, zb5_some, Int.toNat_natCast, true_and, and_true, hn, e1, e2, e3, e4, e5]
    · refine zmut hI (h1 := zst (zst (zst (zst (zst h 9 n x) 11 n y) 13 n p) 16 (3 + n) f) 16 1 (n + 1)) (a := zup1 (zup1 (zup1 (zup1 (zup1 (h 86) (25 + 4 * n) x) (26 + 4 * n) y) (27 + 4 * n) p) (28 + 4 * n) f) 1 (n + 1)) ?_ ?_ ?_ ?_ ?_ ?_
      · exact (((((zMc.refl h).st (by omega)).st (by omega)).st (by omega)).st (by omega)).st (by omega)
      · obtain ⟨y1, y2, y3, y4, y5, y6⟩ := hy
        simp only [Nat.reduceAdd] at y1 y2 y3 y4 y5 y6
        refine ⟨?_, ?_, ?_, ?_, ?_, ?_⟩
        · simp (disch := omega) only [zst_if, zup1_ne, zup1_eq, w32_s, rget_in, rput_in, zgrd, Nat.reduceEqDiff, Nat.reduceAdd, ↓reduceIte, Int.reduceToNat, zb1_some, zb2_some, zb3_some, zb4_some, zb5_some, Int.toNat_natCast, true_and, and_true]
          exact ⟨y1.1, y1.2.2⟩
        · intro k hk
          simp (disch := omega) only [zst_if, zup1_ne, zup1_eq, w32_s, rget_in, rput_in, zgrd, Nat.reduceEqDiff, Nat.reduceAdd, ↓reduceIte, Int.reduceToNat, zb1_some, zb2_some, zb3_some, zb4_some, zb5_some, Int.toNat_natCast, true_and, and_true]
          exact y2 k hk
        · intro k hk
          by_cases q : k = n
          · subst q
            simp (disch := omega) only [zst_if, zup1_ne, zup1_eq, w32_s, rget_in, rput_in, zgrd, Nat.reduceEqDiff, Nat.reduceAdd, ↓reduceIte, Int.reduceToNat, zb1_some, zb2_some, zb3_some, zb4_some, zb5_some, Int.toNat_natCast, true_and, and_true]
          · simp (disch := omega) only [zst_if, zup1_ne, zup1_eq, w32_s, rget_in, rput_in, zgrd, Nat.reduceEqDiff, Nat.reduceAdd, ↓reduceIte, Int.reduceToNat, zb1_some, zb2_some, zb3_some, zb4_some, zb5_some, Int.toNat_natCast, true_and, and_true]
            exact y3 k hk
        · intro o ho w hw
          simp (disch := omega) only [zst_if, zup1_ne, zup1_eq, w32_s, rget_in, rput_in, zgrd, Nat.reduceEqDiff, Nat.reduceAdd, ↓reduceIte, Int.reduceToNat, zb1_some, zb2_some, zb3_some, zb4_some, zb5_some, Int.toNat_natCast, true_and, and_true]
          exact y4 o ho w hw
        · intro k hk
          simp (disch := omega) only [zst_if, zup1_ne, zup1_eq, w32_s, rget_in, rput_in, zgrd, Nat.reduceEqDiff, Nat.reduceAdd, ↓reduceIte, Int.reduceToNat, zb1_some, zb2_some, zb3_some, zb4_some, zb5_some, Int.toNat_natCast, true_and, and_true]
          exact y5 k hk
        · intro k hk
          simp (disch := omega) only [zst_if, zup1_ne, zup1_eq, w32_s, rget_in, rput_in, zgrd, Nat.reduceEqDiff, Nat.reduceAdd, ↓reduceIte, Int.reduceToNat, zb1_some, zb2_some, zb3_some, zb4_some, zb5_some, Int.toNat_natCast, true_and, and_true] at hk ⊢
          exact zSp_hi (y6 k hk) (by omega) (fun j hj => by simp (disch := omega) only [zst_if, zup1_ne, zup1_eq, w32_s, rget_in, rput_in, zgrd, Nat.reduceEqDiff, Nat.reduceAdd, ↓reduceIte, Int.reduceToNat, zb1_some, zb2_some, zb3_some, zb4_some, zb5_some, Int.toNat_natCast, true_and, and_true])
      · exact (((((zMr.refl _).st).st).st).st).st
      · simp (disch := omega) only [zst_if, zup1_ne, zup1_eq, w32_s, rget_in, rput_in, zgrd, Nat.reduceEqDiff, Nat.reduceAdd, ↓reduceIte, Int.reduceToNat, zb1_some, zb2_some, zb3_some, zb4_some, zb5_some, Int.toNat_natCast, true_and, and_true]
      · obtain ⟨k1, k2, k3, k4, k5, k6⟩ := hk
        refine ⟨?_, ?_, ?_, ?_, ?_, zOs_grow k6 ?_ ?_ ?_ ?_ ?_⟩
        · simp (disch := omega) only [zst_if, zup1_ne, zup1_eq, w32_s, rget_in, rput_in, zgrd, Nat.reduceEqDiff, Nat.reduceAdd, ↓reduceIte, Int.reduceToNat, zb1_some, zb2_some, zb3_some, zb4_some, zb5_some, Int.toNat_natCast, true_and, and_true]
          refine ⟨k1.1, ⟨by omega, by omega⟩, k1.2.2⟩
        · intro k hk
          simp (disch := omega) only [zst_if, zup1_ne, zup1_eq, w32_s, rget_in, rput_in, zgrd, Nat.reduceEqDiff, Nat.reduceAdd, ↓reduceIte, Int.reduceToNat, zb1_some, zb2_some, zb3_some, zb4_some, zb5_some, Int.toNat_natCast, true_and, and_true]
          exact k2 k hk
        · intro k hk
          by_cases q : k = n
          · subst q
            simp (disch := omega) only [zst_if, zup1_ne, zup1_eq, w32_s, rget_in, rput_in, zgrd, Nat.reduceEqDiff, Nat.reduceAdd, ↓reduceIte, Int.reduceToNat, zb1_some, zb2_some, zb3_some, zb4_some, zb5_some, Int.toNat_natCast, true_and, and_true]
            exact ⟨cx, cy, cp, cf⟩
          · simp (disch := omega) only [zst_if, zup1_ne, zup1_eq, w32_s, rget_in, rput_in, zgrd, Nat.reduceEqDiff, Nat.reduceAdd, ↓reduceIte, Int.reduceToNat, zb1_some, zb2_some, zb3_some, zb4_some, zb5_some, Int.toNat_natCast, true_and, and_true]
            exact k3 k hk
        · intro o ho
          simp (disch := omega) only [zst_if, zup1_ne, zup1_eq, w32_s, rget_in, rput_in, zgrd, Nat.reduceEqDiff, Nat.reduceAdd, ↓reduceIte, Int.reduceToNat, zb1_some, zb2_some, zb3_some, zb4_some, zb5_some, Int.toNat_natCast, true_and, and_true] at ho ⊢
          have := k4 o ho
          exact ⟨zOx_mono this.1 (by omega) (by omega) (by omega), this.2⟩
        · intro k hk
          simp (disch := omega) only [zst_if, zup1_ne, zup1_eq, w32_s, rget_in, rput_in, zgrd, Nat.reduceEqDiff, Nat.reduceAdd, ↓reduceIte, Int.reduceToNat, zb1_some, zb2_some, zb3_some, zb4_some, zb5_some, Int.toNat_natCast, true_and, and_true] at hk ⊢
          exact k5 k hk
        · simp (disch := omega) only [zst_if, zup1_ne, zup1_eq, w32_s, rget_in, rput_in, zgrd, Nat.reduceEqDiff, Nat.reduceAdd, ↓reduceIte, Int.reduceToNat, zb1_some, zb2_some, zb3_some, zb4_some, zb5_some, Int.toNat_natCast, true_and, and_true]
        · intro j hj
          simp (disch := omega) only [zst_if, zup1_ne, zup1_eq, w32_s, rget_in, rput_in, zgrd, Nat.reduceEqDiff, Nat.reduceAdd, ↓reduceIte, Int.reduceToNat, zb1_some, zb2_some, zb3_some, zb4_some, zb5_some, Int.toNat_natCast, true_and, and_true]
        · simp (disch := omega) only [zst_if, zup1_ne, zup1_eq, w32_s, rget_in, rput_in, zgrd, Nat.reduceEqDiff, Nat.reduceAdd, ↓reduceIte, Int.reduceToNat, zb1_some, zb2_some, zb3_some, zb4_some, zb5_some, Int.toNat_natCast, true_and, and_true]; omega
        · simp (disch := omega) only [zst_if, zup1_ne, zup1_eq, w32_s, rget_in, rput_in, zgrd, Nat.reduceEqDiff, Nat.reduceAdd, ↓reduceIte, Int.reduceToNat, zb1_some, zb2_some, zb3_some, zb4_some, zb5_some, Int.toNat_natCast, true_and, and_true]; omega
        · simp (disch := omega) only [zst_if, zup1_ne, zup1_eq, w32_s, rget_in, rput_in, zgrd, Nat.reduceEqDiff, Nat.reduceAdd, ↓reduceIte, Int.reduceToNat, zb1_some, zb2_some, zb3_some, zb4_some, zb5_some, Int.toNat_natCast, true_and, and_true]; omega
      · simp (disch := omega) only [zst_if, zup1_ne, zup1_eq, w32_s, rget_in, rput_in, zgrd, Nat.reduceEqDiff, Nat.reduceAdd, ↓reduceIte, Int.reduceToNat, zb1_some, zb2_some, zb3_some, zb4_some, zb5_some, Int.toNat_natCast, true_and, and_true]
  · have hF : sh_Ox_field x y p f h = some (-1, h) := by
      unfold sh_Ox_field sh_Ox_isDigit
      simp only [within_z, isPlace_z, fields_s, e0]
      repeat' split
      all_goals first
        | rfl
        | (exfalso; omega)
    have hG : sh_Mo_field N x y p f h = some (-1, h) := by
      unfold sh_Mo_field
      simp only [isIn_z]
      by_cases c1 : (0 ≤ x ∧ x ≤ 19) ∧ (0 ≤ y ∧ y ≤ 19) ∧ (0 ≤ p ∧ p ≤ 9) ∧ (0 ≤ f ∧ f ≤ 99)
      · rw [if_neg (by omega), if_neg (by omega), if_neg (by omega), if_neg (by omega), if_pos (by omega)]
      · split
        · rfl
        · split
          · rfl
          · split
            · rfl
            · split
              · rfl
              · exfalso; omega
    exact ⟨h, zcas_of hF hG, hI⟩
theorem zc_ox {h : zHp} (x y p f : Int) (hI : zInv h) (N : Nat) : ∃ h2, zcas (sh_Ox_ox x y p f) (sh_Mo_ox N x y p f) h = some (1, h2) ∧ zInv h2 := by
  have hI' := hI
  obtain ⟨⟨hy, hk⟩, -⟩ := hI'
  have e0 : h 16 2 = h 86 2 := hy.1.2.2.1
  have e9 : h 1 0 = h 86 0 := hy.1.1
  have k0 := hk.1.2.2.1
  have k9 := hk.1.1
  by_cases c : h 86 2 < 8 ∧ (0 ≤ x ∧ x < h 86 0) ∧ (-1 ≤ y ∧ y < h 86 0) ∧ (1 ≤ p ∧ p ≤ 9) ∧ (0 ≤ f ∧ f ≤ 9)
  · obtain ⟨c0, cx, cy, cp, cf⟩ := c
    obtain ⟨n, hn⟩ : ∃ n : Nat, h 86 2 = n := ⟨(h 86 2).toNat, by omega⟩
    have hn8 : n < 8 := by omega
    have hF : sh_Ox_ox x y p f h = some ((n : Int), zst (zst (zst (zst (zst (zst (zst (zst (zst h 16 (7 + 8 * n + 0) x) 16 (7 + 8 * n + 1) y) 16 (7 + 8 * n + 2) p) 16 (7 + 8 * n + 3) f) 16 (7 + 8 * n + 4) x) 16 (7 + 8 * n + 5) 0) 16 (7 + 8 * n + 6) x) 16 (7 + 8 * n + 7) (-1)) 16 2 (n + 1)) := by
      unfold sh_Ox_ox sh_Ox_isDigit sh_Ox_isFarmOrNone sh_Herd_addOx_14
      simp only [within_z, isFarm_z (h := h) (x := x) (by omega), isFarm_z (h := h) (x := y) (by omega), oxen_s, e0, e9, hn]
      rw [if_neg (by omega), if_neg (by omega), if_neg (by
        by_cases q : y = -1
        · rw [if_pos q]; decide
        · rw [if_neg q, if_neg (by omega)]; decide), if_neg (by omega), if_neg (by omega)]
      simp (disch := omega) only [zst_if, zup1_ne, zup1_eq, w32_s, rget_in, rput_in, zgrd, Nat.reduceEqDiff, Nat.reduceAdd, ↓reduceIte, Int.reduceToNat, zb1_some, zb2_some, zb3_some, zb4_some, zb5_some, Int.toNat_natCast, true_and, and_true, put_s, Int.reduceToNat]
    have e4 : (n : Int) + 1 - 1 = n := by omega
    refine ⟨_, zcas_of hF (h2 := ?_) ?_, ?_⟩
    · exact zst (zst (zst (zst (zst (zst (zst (zst (zst (zst (zst (zst (zst (zst (zst (zst (zst (zst h 16 (7 + 8 * n + 0) x) 16 (7 + 8 * n + 1) y) 16 (7 + 8 * n + 2) p) 16 (7 + 8 * n + 3) f) 16 (7 + 8 * n + 4) x) 16 (7 + 8 * n + 5) 0) 16 (7 + 8 * n + 6) x) 16 (7 + 8 * n + 7) (-1)) 16 2 (n + 1)) 86 (41 + 8 * n + 0) x) 86 (41 + 8 * n + 1) y) 86 (41 + 8 * n + 2) p) 86 (41 + 8 * n + 3) f) 86 (41 + 8 * n + 4) x) 86 (41 + 8 * n + 5) 0) 86 (41 + 8 * n + 6) x) 86 (41 + 8 * n + 7) (-1)) 86 2 (n + 1)
    · unfold sh_Mo_ox
      have q : ∀ z, (sh_Mo_isFarm z (zst (zst (zst (zst (zst (zst (zst (zst (zst h 16 (7 + 8 * n + 0) x) 16 (7 + 8 * n + 1) y) 16 (7 + 8 * n + 2) p) 16 (7 + 8 * n + 3) f) 16 (7 + 8 * n + 4) x) 16 (7 + 8 * n + 5) 0) 16 (7 + 8 * n + 6) x) 16 (7 + 8 * n + 7) (-1)) 16 2 (n + 1)) = 0) = ¬ (0 ≤ z ∧ z < h 86 0) := fun z => by
        rw [isFarmR_z (by simp (disch := omega) only [zst_if, zup1_ne, zup1_eq, w32_s, rget_in, rput_in, zgrd, Nat.reduceEqDiff, Nat.reduceAdd, ↓reduceIte, Int.reduceToNat, zb1_some, zb2_some, zb3_some, zb4_some, zb5_some, Int.toNat_natCast, true_and, and_true]; omega)]
        simp (disch := omega) only [zst_if, zup1_ne, zup1_eq, w32_s, rget_in, rput_in, zgrd, Nat.reduceEqDiff, Nat.reduceAdd, ↓reduceIte, Int.reduceToNat, zb1_some, zb2_some, zb3_some, zb4_some, zb5_some, Int.toNat_natCast, true_and, and_true]
      simp only [isIn_z, q]
      simp (disch := omega) only [zst_if, zup1_ne, zup1_eq, w32_s, rget_in, rput_in, zgrd, Nat.reduceEqDiff, Nat.reduceAdd, ↓reduceIte, Int.reduceToNat, zb1_some, zb2_some, zb3_some, zb4_some, zb5_some, Int.toNat_natCast, true_and, and_true, hn, make_s, Int.reduceToNat]
      by_cases qy : y = -1
      · rw [if_neg (by omega), if_pos qy, if_neg (by omega), if_neg (by omega), if_neg (by omega)]
      · rw [if_neg (by omega), if_neg qy, if_neg (by omega), if_neg (by omega), if_neg (by omega), if_neg (by omega)]
    · refine zmut hI (h1 := zst (zst (zst (zst (zst (zst (zst (zst (zst h 16 (7 + 8 * n + 0) x) 16 (7 + 8 * n + 1) y) 16 (7 + 8 * n + 2) p) 16 (7 + 8 * n + 3) f) 16 (7 + 8 * n + 4) x) 16 (7 + 8 * n + 5) 0) 16 (7 + 8 * n + 6) x) 16 (7 + 8 * n + 7) (-1)) 16 2 (n + 1)) (a := zup1 (zup1 (zup1 (zup1 (zup1 (zup1 (zup1 (zup1 (zup1 (h 86) (41 + 8 * n + 0) x) (41 + 8 * n + 1) y) (41 + 8 * n + 2) p) (41 + 8 * n + 3) f) (41 + 8 * n + 4) x) (41 + 8 * n + 5) 0) (41 + 8 * n + 6) x) (41 + 8 * n + 7) (-1)) 2 (n + 1)) ?_ ?_ ?_ ?_ ?_ ?_
      · exact (((((((((zMc.refl h).st (by omega)).st (by omega)).st (by omega)).st (by omega)).st (by omega)).st (by omega)).st (by omega)).st (by omega)).st (by omega)
      · obtain ⟨y1, y2, y3, y4, y5, y6⟩ := hy
        simp only [Nat.reduceAdd] at y1 y2 y3 y4 y5 y6
        refine ⟨?_, ?_, ?_, ?_, ?_, ?_⟩
        · simp (disch := omega) only [zst_if, zup1_ne, zup1_eq, w32_s, rget_in, rput_in, zgrd, Nat.reduceEqDiff, Nat.reduceAdd, ↓reduceIte, Int.reduceToNat, zb1_some, zb2_some, zb3_some, zb4_some, zb5_some, Int.toNat_natCast, true_and, and_true]
          exact ⟨y1.1, y1.2.1, y1.2.2.2⟩
        · intro k hk
          simp (disch := omega) only [zst_if, zup1_ne, zup1_eq, w32_s, rget_in, rput_in, zgrd, Nat.reduceEqDiff, Nat.reduceAdd, ↓reduceIte, Int.reduceToNat, zb1_some, zb2_some, zb3_some, zb4_some, zb5_some, Int.toNat_natCast, true_and, and_true]
          exact y2 k hk
        · intro k hk
          simp (disch := omega) only [zst_if, zup1_ne, zup1_eq, w32_s, rget_in, rput_in, zgrd, Nat.reduceEqDiff, Nat.reduceAdd, ↓reduceIte, Int.reduceToNat, zb1_some, zb2_some, zb3_some, zb4_some, zb5_some, Int.toNat_natCast, true_and, and_true]
          exact y3 k hk
        · intro o ho w hw
          by_cases q : o = n
          · subst q
            have hw8 : w = 0 ∨ w = 1 ∨ w = 2 ∨ w = 3 ∨ w = 4 ∨ w = 5 ∨ w = 6 ∨ w = 7 := by omega
            rcases hw8 with rfl | rfl | rfl | rfl | rfl | rfl | rfl | rfl <;> simp (disch := omega) only [zst_if, zup1_ne, zup1_eq, w32_s, rget_in, rput_in, zgrd, Nat.reduceEqDiff, Nat.reduceAdd, ↓reduceIte, Int.reduceToNat, zb1_some, zb2_some, zb3_some, zb4_some, zb5_some, Int.toNat_natCast, true_and, and_true, zup1_e]
          · simp (disch := omega) only [zst_if, zup1_ne, zup1_eq, w32_s, rget_in, rput_in, zgrd, Nat.reduceEqDiff, Nat.reduceAdd, ↓reduceIte, Int.reduceToNat, zb1_some, zb2_some, zb3_some, zb4_some, zb5_some, Int.toNat_natCast, true_and, and_true]
            exact y4 o ho w hw
        · intro k hk
          simp (disch := omega) only [zst_if, zup1_ne, zup1_eq, w32_s, rget_in, rput_in, zgrd, Nat.reduceEqDiff, Nat.reduceAdd, ↓reduceIte, Int.reduceToNat, zb1_some, zb2_some, zb3_some, zb4_some, zb5_some, Int.toNat_natCast, true_and, and_true]
          exact y5 k hk
        · intro k hk0
          simp (disch := omega) only [zst_if, zup1_ne, zup1_eq, w32_s, rget_in, rput_in, zgrd, Nat.reduceEqDiff, Nat.reduceAdd, ↓reduceIte, Int.reduceToNat, zb1_some, zb2_some, zb3_some, zb4_some, zb5_some, Int.toNat_natCast, true_and, and_true] at hk0 ⊢
          obtain ⟨s1, s2, s3, s4⟩ := y6 k hk0
          have hk2 : h 86 (121 + 47 * k + 2) ≤ h 86 2 := by rw [show 121 + 47 * k + 2 = 123 + 47 * k by omega]; exact (hk.s k hk0).1.2.2.2
          refine ⟨?_, ?_, ?_, ?_⟩
          · simp (disch := omega) only [zst_if, zup1_ne, zup1_eq, w32_s, rget_in, rput_in, zgrd, Nat.reduceEqDiff, Nat.reduceAdd, ↓reduceIte, Int.reduceToNat, zb1_some, zb2_some, zb3_some, zb4_some, zb5_some, Int.toNat_natCast, true_and, and_true]; exact s1
          · intro f hf; simp (disch := omega) only [zst_if, zup1_ne, zup1_eq, w32_s, rget_in, rput_in, zgrd, Nat.reduceEqDiff, Nat.reduceAdd, ↓reduceIte, Int.reduceToNat, zb1_some, zb2_some, zb3_some, zb4_some, zb5_some, Int.toNat_natCast, true_and, and_true]; exact s2 f hf
          · intro o ho
            refine ⟨by simp (disch := omega) only [zst_if, zup1_ne, zup1_eq, w32_s, rget_in, rput_in, zgrd, Nat.reduceEqDiff, Nat.reduceAdd, ↓reduceIte, Int.reduceToNat, zb1_some, zb2_some, zb3_some, zb4_some, zb5_some, Int.toNat_natCast, true_and, and_true]; exact (s3 o ho).1, fun e he => by simp (disch := omega) only [zst_if, zup1_ne, zup1_eq, w32_s, rget_in, rput_in, zgrd, Nat.reduceEqDiff, Nat.reduceAdd, ↓reduceIte, Int.reduceToNat, zb1_some, zb2_some, zb3_some, zb4_some, zb5_some, Int.toNat_natCast, true_and, and_true]; exact (s3 o ho).2 e he⟩
          · intro o ho w w1 w2
            simp (disch := omega) only [zst_if, zup1_ne, zup1_eq, w32_s, rget_in, rput_in, zgrd, Nat.reduceEqDiff, Nat.reduceAdd, ↓reduceIte, Int.reduceToNat, zb1_some, zb2_some, zb3_some, zb4_some, zb5_some, Int.toNat_natCast, true_and, and_true] at ho
            have ho2 : (o : Int) < n := by omega
            simp (disch := omega) only [zst_if, zup1_ne, zup1_eq, w32_s, rget_in, rput_in, zgrd, Nat.reduceEqDiff, Nat.reduceAdd, ↓reduceIte, Int.reduceToNat, zb1_some, zb2_some, zb3_some, zb4_some, zb5_some, Int.toNat_natCast, true_and, and_true]
            exact s4 o ho w w1 w2
      · exact (((((((((zMr.refl _).st).st).st).st).st).st).st).st).st
      · simp (disch := omega) only [zst_if, zup1_ne, zup1_eq, w32_s, rget_in, rput_in, zgrd, Nat.reduceEqDiff, Nat.reduceAdd, ↓reduceIte, Int.reduceToNat, zb1_some, zb2_some, zb3_some, zb4_some, zb5_some, Int.toNat_natCast, true_and, and_true]
      · obtain ⟨k1, k2, k3, k4, k5, k6⟩ := hk
        refine ⟨?_, ?_, ?_, ?_, ?_, zOs_grow k6 ?_ ?_ ?_ ?_ ?_⟩
        · simp (disch := omega) only [zst_if, zup1_ne, zup1_eq, w32_s, rget_in, rput_in, zgrd, Nat.reduceEqDiff, Nat.reduceAdd, ↓reduceIte, Int.reduceToNat, zb1_some, zb2_some, zb3_some, zb4_some, zb5_some, Int.toNat_natCast, true_and, and_true]
          refine ⟨k1.1, k1.2.1, ⟨by omega, by omega⟩, k1.2.2.2⟩
        · intro k hk
          simp (disch := omega) only [zst_if, zup1_ne, zup1_eq, w32_s, rget_in, rput_in, zgrd, Nat.reduceEqDiff, Nat.reduceAdd, ↓reduceIte, Int.reduceToNat, zb1_some, zb2_some, zb3_some, zb4_some, zb5_some, Int.toNat_natCast, true_and, and_true]
          exact k2 k hk
        · intro k hk
          simp (disch := omega) only [zst_if, zup1_ne, zup1_eq, w32_s, rget_in, rput_in, zgrd, Nat.reduceEqDiff, Nat.reduceAdd, ↓reduceIte, Int.reduceToNat, zb1_some, zb2_some, zb3_some, zb4_some, zb5_some, Int.toNat_natCast, true_and, and_true]
          exact k3 k hk
        · intro o ho
          simp (disch := omega) only [zst_if, zup1_ne, zup1_eq, w32_s, rget_in, rput_in, zgrd, Nat.reduceEqDiff, Nat.reduceAdd, ↓reduceIte, Int.reduceToNat, zb1_some, zb2_some, zb3_some, zb4_some, zb5_some, Int.toNat_natCast, true_and, and_true] at ho
          by_cases q : o = n
          · subst q
            simp (disch := omega) only [zst_if, zup1_ne, zup1_eq, w32_s, rget_in, rput_in, zgrd, Nat.reduceEqDiff, Nat.reduceAdd, ↓reduceIte, Int.reduceToNat, zb1_some, zb2_some, zb3_some, zb4_some, zb5_some, Int.toNat_natCast, true_and, and_true, zup1_e]
            unfold zOx
            refine ⟨⟨⟨?_, ?_⟩, ⟨?_, ?_⟩, ⟨?_, ?_⟩, ?_, ?_, ?_, ?_, ?_⟩, ⟨?_, ?_⟩, ⟨?_, ?_⟩, ?_, ?_⟩ <;> omega
          · simp (disch := omega) only [zst_if, zup1_ne, zup1_eq, w32_s, rget_in, rput_in, zgrd, Nat.reduceEqDiff, Nat.reduceAdd, ↓reduceIte, Int.reduceToNat, zb1_some, zb2_some, zb3_some, zb4_some, zb5_some, Int.toNat_natCast, true_and, and_true]
            have := k4 o (by omega)
            exact ⟨zOx_mono this.1 (by omega) (by omega) (by omega), this.2⟩
        · intro k hk
          simp (disch := omega) only [zst_if, zup1_ne, zup1_eq, w32_s, rget_in, rput_in, zgrd, Nat.reduceEqDiff, Nat.reduceAdd, ↓reduceIte, Int.reduceToNat, zb1_some, zb2_some, zb3_some, zb4_some, zb5_some, Int.toNat_natCast, true_and, and_true] at hk ⊢
          exact k5 k hk
        · simp (disch := omega) only [zst_if, zup1_ne, zup1_eq, w32_s, rget_in, rput_in, zgrd, Nat.reduceEqDiff, Nat.reduceAdd, ↓reduceIte, Int.reduceToNat, zb1_some, zb2_some, zb3_some, zb4_some, zb5_some, Int.toNat_natCast, true_and, and_true]
        · intro j hj
          simp (disch := omega) only [zst_if, zup1_ne, zup1_eq, w32_s, rget_in, rput_in, zgrd, Nat.reduceEqDiff, Nat.reduceAdd, ↓reduceIte, Int.reduceToNat, zb1_some, zb2_some, zb3_some, zb4_some, zb5_some, Int.toNat_natCast, true_and, and_true]
        · simp (disch := omega) only [zst_if, zup1_ne, zup1_eq, w32_s, rget_in, rput_in, zgrd, Nat.reduceEqDiff, Nat.reduceAdd, ↓reduceIte, Int.reduceToNat, zb1_some, zb2_some, zb3_some, zb4_some, zb5_some, Int.toNat_natCast, true_and, and_true]; omega
        · simp (disch := omega) only [zst_if, zup1_ne, zup1_eq, w32_s, rget_in, rput_in, zgrd, Nat.reduceEqDiff, Nat.reduceAdd, ↓reduceIte, Int.reduceToNat, zb1_some, zb2_some, zb3_some, zb4_some, zb5_some, Int.toNat_natCast, true_and, and_true]; omega
        · simp (disch := omega) only [zst_if, zup1_ne, zup1_eq, w32_s, rget_in, rput_in, zgrd, Nat.reduceEqDiff, Nat.reduceAdd, ↓reduceIte, Int.reduceToNat, zb1_some, zb2_some, zb3_some, zb4_some, zb5_some, Int.toNat_natCast, true_and, and_true]; omega
      · simp (disch := omega) only [zst_if, zup1_ne, zup1_eq, w32_s, rget_in, rput_in, zgrd, Nat.reduceEqDiff, Nat.reduceAdd, ↓reduceIte, Int.reduceToNat, zb1_some, zb2_some, zb3_some, zb4_some, zb5_some, Int.toNat_natCast, true_and, and_true]
  · have hF : sh_Ox_ox x y p f h = some (-1, h) := by
      unfold sh_Ox_ox sh_Ox_isDigit sh_Ox_isFarmOrNone
      simp only [within_z, isFarm_z (h := h) (x := x) (by omega), isFarm_z (h := h) (x := y) (by omega), oxen_s, e0, e9]
      by_cases q : y = -1
      · rw [if_pos q]
        repeat' split
        all_goals first
          | rfl
          | (exfalso; omega)
      · rw [if_neg q]
        by_cases q2 : ¬ (0 ≤ y ∧ y < h 86 0)
        · rw [if_pos q2]
          repeat' split
          all_goals first
            | rfl
            | (exfalso; omega)
        · rw [if_neg q2]
          repeat' split
          all_goals first
            | rfl
            | (exfalso; omega)
    have hG : sh_Mo_ox N x y p f h = some (-1, h) := by
      unfold sh_Mo_ox
      simp only [isIn_z, isFarmR_z (h := h) (x := x) (by omega), isFarmR_z (h := h) (x := y) (by omega)]
      by_cases c1 : 0 ≤ x ∧ x < h 86 0
      · rw [if_neg (by omega)]
        by_cases q : y = -1
        · rw [if_pos q]
          by_cases c2 : 1 ≤ p ∧ p ≤ 9
          · by_cases c3 : 0 ≤ f ∧ f ≤ 9
            · rw [if_neg (by omega), if_neg (by omega), if_pos (by omega)]
            · rw [if_neg (by omega), if_pos (by omega)]
          · rw [if_pos (by omega)]
        · rw [if_neg q]
          by_cases c4 : 0 ≤ y ∧ y < h 86 0
          · rw [if_neg (by omega)]
            by_cases c2 : 1 ≤ p ∧ p ≤ 9
            · by_cases c3 : 0 ≤ f ∧ f ≤ 9
              · rw [if_neg (by omega), if_neg (by omega), if_pos (by omega)]
              · rw [if_neg (by omega), if_pos (by omega)]
            · rw [if_pos (by omega)]
          · rw [if_pos (by omega)]
      · rw [if_pos (by omega)]
    exact ⟨h, zcas_of hF hG, hI⟩
theorem zc_call {h : zHp} (x y : Int) (hI : zInv h) (N : Nat) : ∃ h2, zcas (sh_Ox_call x y) (sh_Mo_call N x y) h = some (1, h2) ∧ zInv h2 := by
  have hI' := hI
  obtain ⟨⟨hy, hk⟩, -⟩ := hI'
  have hk2 := hk
  have e0 : h 1 9 = h 86 6 := hy.1.2.2.2.2.2.2.1
  have e9 : h 1 0 = h 86 0 := hy.1.1
  have k0 := hk.1.2.2.2.2.2.2.1
  have k9 := hk.1.1
  by_cases c : h 86 6 < 8 ∧ (0 ≤ x ∧ x ≤ 23) ∧ (0 ≤ y ∧ y < h 86 0)
  · obtain ⟨c0, cx, cy⟩ := c
    obtain ⟨n, hn⟩ : ∃ n : Nat, h 86 6 = n := ⟨(h 86 6).toNat, by omega⟩
    have hF : sh_Ox_call x y h = some ((n : Int) + 1, zst (zst (zst h 21 n x) 23 n y) 1 9 (n + 1)) := by
      unfold sh_Ox_call sh_Ox_isHour
      simp only [within_z, isFarm_z (h := h) (x := y) (by omega), e0, e9, hn]
      rw [if_neg (by omega), if_neg (by omega), if_neg (by omega)]
      simp (disch := omega) only [zst_if, zup1_ne, zup1_eq, w32_s, rget_in, rput_in, zgrd, Nat.reduceEqDiff, Nat.reduceAdd, ↓reduceIte, Int.reduceToNat, zb1_some, zb2_some, zb3_some, zb4_some, zb5_some, Int.toNat_natCast, true_and, and_true, e0, hn]
    have e1 : ((105 : Int) + 2 * n).toNat = 105 + 2 * n := by omega
    have e2 : ((105 : Int) + 2 * n + 1).toNat = 106 + 2 * n := by omega
    refine ⟨_, zcas_of hF (h2 := ?_) ?_, ?_⟩
    · exact zst (zst (zst (zst (zst (zst h 21 n x) 23 n y) 1 9 (n + 1)) 86 (105 + 2 * n) x) 86 (106 + 2 * n) y) 86 6 (n + 1)
    · unfold sh_Mo_call
      have q : (sh_Mo_isFarm y (zst (zst (zst h 21 n x) 23 n y) 1 9 (n + 1)) = 0) = ¬ (0 ≤ y ∧ y < h 86 0) := by
        rw [isFarmR_z (by simp (disch := omega) only [zst_if, zup1_ne, zup1_eq, w32_s, rget_in, rput_in, zgrd, Nat.reduceEqDiff, Nat.reduceAdd, ↓reduceIte, Int.reduceToNat, zb1_some, zb2_some, zb3_some, zb4_some, zb5_some, Int.toNat_natCast, true_and, and_true]; omega)]
        simp (disch := omega) only [zst_if, zup1_ne, zup1_eq, w32_s, rget_in, rput_in, zgrd, Nat.reduceEqDiff, Nat.reduceAdd, ↓reduceIte, Int.reduceToNat, zb1_some, zb2_some, zb3_some, zb4_some, zb5_some, Int.toNat_natCast, true_and, and_true]
      simp only [isIn_z, q]
      rw [if_neg (by omega), if_neg (by omega), if_neg (by simp (disch := omega) only [zst_if, zup1_ne, zup1_eq, w32_s, rget_in, rput_in, zgrd, Nat.reduceEqDiff, Nat.reduceAdd, ↓reduceIte, Int.reduceToNat, zb1_some, zb2_some, zb3_some, zb4_some, zb5_some, Int.toNat_natCast, true_and, and_true]; omega)]
      simp (disch := omega) only [zst_if, zup1_ne, zup1_eq, w32_s, rget_in, rput_in, zgrd, Nat.reduceEqDiff, Nat.reduceAdd, ↓reduceIte, Int.reduceToNat, zb1_some, zb2_some, zb3_some, zb4_some, zb5_some, Int.toNat_natCast, true_and, and_true, hn, e1, e2]
    · refine zmut hI (h1 := zst (zst (zst h 21 n x) 23 n y) 1 9 (n + 1)) (a := zup1 (zup1 (zup1 (h 86) (105 + 2 * n) x) (106 + 2 * n) y) 6 (n + 1)) ?_ ?_ ?_ ?_ ?_ ?_
      · exact (((zMc.refl h).st (by omega)).st (by omega)).st (by omega)
      · obtain ⟨y1, y2, y3, y4, y5, y6⟩ := hy
        simp only [Nat.reduceAdd] at y1 y2 y3 y4 y5 y6
        refine ⟨?_, ?_, ?_, ?_, ?_, ?_⟩
        · simp (disch := omega) only [zst_if, zup1_ne, zup1_eq, w32_s, rget_in, rput_in, zgrd, Nat.reduceEqDiff, Nat.reduceAdd, ↓reduceIte, Int.reduceToNat, zb1_some, zb2_some, zb3_some, zb4_some, zb5_some, Int.toNat_natCast, true_and, and_true]
          exact ⟨y1.1, y1.2.1, y1.2.2.1, y1.2.2.2.1, y1.2.2.2.2.1, y1.2.2.2.2.2.1, y1.2.2.2.2.2.2.2⟩
        · intro k hk
          simp (disch := omega) only [zst_if, zup1_ne, zup1_eq, w32_s, rget_in, rput_in, zgrd, Nat.reduceEqDiff, Nat.reduceAdd, ↓reduceIte, Int.reduceToNat, zb1_some, zb2_some, zb3_some, zb4_some, zb5_some, Int.toNat_natCast, true_and, and_true]
          exact y2 k hk
        · intro k hk
          simp (disch := omega) only [zst_if, zup1_ne, zup1_eq, w32_s, rget_in, rput_in, zgrd, Nat.reduceEqDiff, Nat.reduceAdd, ↓reduceIte, Int.reduceToNat, zb1_some, zb2_some, zb3_some, zb4_some, zb5_some, Int.toNat_natCast, true_and, and_true]
          exact y3 k hk
        · intro o ho w hw
          simp (disch := omega) only [zst_if, zup1_ne, zup1_eq, w32_s, rget_in, rput_in, zgrd, Nat.reduceEqDiff, Nat.reduceAdd, ↓reduceIte, Int.reduceToNat, zb1_some, zb2_some, zb3_some, zb4_some, zb5_some, Int.toNat_natCast, true_and, and_true]
          exact y4 o ho w hw
        · intro k hk
          by_cases q : k = n
          · subst q
            simp (disch := omega) only [zst_if, zup1_ne, zup1_eq, w32_s, rget_in, rput_in, zgrd, Nat.reduceEqDiff, Nat.reduceAdd, ↓reduceIte, Int.reduceToNat, zb1_some, zb2_some, zb3_some, zb4_some, zb5_some, Int.toNat_natCast, true_and, and_true]
          · simp (disch := omega) only [zst_if, zup1_ne, zup1_eq, w32_s, rget_in, rput_in, zgrd, Nat.reduceEqDiff, Nat.reduceAdd, ↓reduceIte, Int.reduceToNat, zb1_some, zb2_some, zb3_some, zb4_some, zb5_some, Int.toNat_natCast, true_and, and_true]
            exact y5 k hk
        · intro k hk
          simp (disch := omega) only [zst_if, zup1_ne, zup1_eq, w32_s, rget_in, rput_in, zgrd, Nat.reduceEqDiff, Nat.reduceAdd, ↓reduceIte, Int.reduceToNat, zb1_some, zb2_some, zb3_some, zb4_some, zb5_some, Int.toNat_natCast, true_and, and_true] at hk ⊢
          obtain ⟨s1, s2, s3, s4⟩ := y6 k hk
          refine ⟨?_, ?_, ?_, ?_⟩
          · simp (disch := omega) only [zst_if, zup1_ne, zup1_eq, w32_s, rget_in, rput_in, zgrd, Nat.reduceEqDiff, Nat.reduceAdd, ↓reduceIte, Int.reduceToNat, zb1_some, zb2_some, zb3_some, zb4_some, zb5_some, Int.toNat_natCast, true_and, and_true]; exact s1
          · intro f hf; simp (disch := omega) only [zst_if, zup1_ne, zup1_eq, w32_s, rget_in, rput_in, zgrd, Nat.reduceEqDiff, Nat.reduceAdd, ↓reduceIte, Int.reduceToNat, zb1_some, zb2_some, zb3_some, zb4_some, zb5_some, Int.toNat_natCast, true_and, and_true]; exact s2 f hf
          · intro o ho
            refine ⟨by simp (disch := omega) only [zst_if, zup1_ne, zup1_eq, w32_s, rget_in, rput_in, zgrd, Nat.reduceEqDiff, Nat.reduceAdd, ↓reduceIte, Int.reduceToNat, zb1_some, zb2_some, zb3_some, zb4_some, zb5_some, Int.toNat_natCast, true_and, and_true]; exact (s3 o ho).1, fun e he => by simp (disch := omega) only [zst_if, zup1_ne, zup1_eq, w32_s, rget_in, rput_in, zgrd, Nat.reduceEqDiff, Nat.reduceAdd, ↓reduceIte, Int.reduceToNat, zb1_some, zb2_some, zb3_some, zb4_some, zb5_some, Int.toNat_natCast, true_and, and_true]; exact (s3 o ho).2 e he⟩
          · intro o ho w w1 w2
            simp (disch := omega) only [zst_if, zup1_ne, zup1_eq, w32_s, rget_in, rput_in, zgrd, Nat.reduceEqDiff, Nat.reduceAdd, ↓reduceIte, Int.reduceToNat, zb1_some, zb2_some, zb3_some, zb4_some, zb5_some, Int.toNat_natCast, true_and, and_true] at ho
            have ho2 : (o : Int) < 8 := by
              have k1 := (hk2.s k hk).1.2.2
              have k2 := hk2.1.2.2.1
              rw [show 123 + 47 * k = 121 + 47 * k + 2 by omega] at k1
              omega
            simp (disch := omega) only [zst_if, zup1_ne, zup1_eq, w32_s, rget_in, rput_in, zgrd, Nat.reduceEqDiff, Nat.reduceAdd, ↓reduceIte, Int.reduceToNat, zb1_some, zb2_some, zb3_some, zb4_some, zb5_some, Int.toNat_natCast, true_and, and_true]
            exact s4 o ho w w1 w2
      · exact (((zMr.refl _).st).st).st
      · simp (disch := omega) only [zst_if, zup1_ne, zup1_eq, w32_s, rget_in, rput_in, zgrd, Nat.reduceEqDiff, Nat.reduceAdd, ↓reduceIte, Int.reduceToNat, zb1_some, zb2_some, zb3_some, zb4_some, zb5_some, Int.toNat_natCast, true_and, and_true]
      · obtain ⟨k1, k2, k3, k4, k5, k6⟩ := hk
        refine ⟨?_, ?_, ?_, ?_, ?_, zOs_grow k6 ?_ ?_ ?_ ?_ ?_⟩
        · simp (disch := omega) only [zst_if, zup1_ne, zup1_eq, w32_s, rget_in, rput_in, zgrd, Nat.reduceEqDiff, Nat.reduceAdd, ↓reduceIte, Int.reduceToNat, zb1_some, zb2_some, zb3_some, zb4_some, zb5_some, Int.toNat_natCast, true_and, and_true]
          refine ⟨k1.1, k1.2.1, k1.2.2.1, k1.2.2.2.1, k1.2.2.2.2.1, k1.2.2.2.2.2.1, ⟨by omega, by omega⟩, k1.2.2.2.2.2.2.2⟩
        · intro k hk
          simp (disch := omega) only [zst_if, zup1_ne, zup1_eq, w32_s, rget_in, rput_in, zgrd, Nat.reduceEqDiff, Nat.reduceAdd, ↓reduceIte, Int.reduceToNat, zb1_some, zb2_some, zb3_some, zb4_some, zb5_some, Int.toNat_natCast, true_and, and_true]
          exact k2 k hk
        · intro k hk
          simp (disch := omega) only [zst_if, zup1_ne, zup1_eq, w32_s, rget_in, rput_in, zgrd, Nat.reduceEqDiff, Nat.reduceAdd, ↓reduceIte, Int.reduceToNat, zb1_some, zb2_some, zb3_some, zb4_some, zb5_some, Int.toNat_natCast, true_and, and_true]
          exact k3 k hk
        · intro o ho
          simp (disch := omega) only [zst_if, zup1_ne, zup1_eq, w32_s, rget_in, rput_in, zgrd, Nat.reduceEqDiff, Nat.reduceAdd, ↓reduceIte, Int.reduceToNat, zb1_some, zb2_some, zb3_some, zb4_some, zb5_some, Int.toNat_natCast, true_and, and_true] at ho
          simp (disch := omega) only [zst_if, zup1_ne, zup1_eq, w32_s, rget_in, rput_in, zgrd, Nat.reduceEqDiff, Nat.reduceAdd, ↓reduceIte, Int.reduceToNat, zb1_some, zb2_some, zb3_some, zb4_some, zb5_some, Int.toNat_natCast, true_and, and_true]
          exact k4 o ho
        · intro k hk
          simp (disch := omega) only [zst_if, zup1_ne, zup1_eq, w32_s, rget_in, rput_in, zgrd, Nat.reduceEqDiff, Nat.reduceAdd, ↓reduceIte, Int.reduceToNat, zb1_some, zb2_some, zb3_some, zb4_some, zb5_some, Int.toNat_natCast, true_and, and_true] at hk
          by_cases q : k = n
          · subst q
            simp (disch := omega) only [zst_if, zup1_ne, zup1_eq, w32_s, rget_in, rput_in, zgrd, Nat.reduceEqDiff, Nat.reduceAdd, ↓reduceIte, Int.reduceToNat, zb1_some, zb2_some, zb3_some, zb4_some, zb5_some, Int.toNat_natCast, true_and, and_true]
            exact ⟨cx, cy⟩
          · simp (disch := omega) only [zst_if, zup1_ne, zup1_eq, w32_s, rget_in, rput_in, zgrd, Nat.reduceEqDiff, Nat.reduceAdd, ↓reduceIte, Int.reduceToNat, zb1_some, zb2_some, zb3_some, zb4_some, zb5_some, Int.toNat_natCast, true_and, and_true]
            exact k5 k (by omega)
        · simp (disch := omega) only [zst_if, zup1_ne, zup1_eq, w32_s, rget_in, rput_in, zgrd, Nat.reduceEqDiff, Nat.reduceAdd, ↓reduceIte, Int.reduceToNat, zb1_some, zb2_some, zb3_some, zb4_some, zb5_some, Int.toNat_natCast, true_and, and_true]
        · intro j hj
          simp (disch := omega) only [zst_if, zup1_ne, zup1_eq, w32_s, rget_in, rput_in, zgrd, Nat.reduceEqDiff, Nat.reduceAdd, ↓reduceIte, Int.reduceToNat, zb1_some, zb2_some, zb3_some, zb4_some, zb5_some, Int.toNat_natCast, true_and, and_true]
        · simp (disch := omega) only [zst_if, zup1_ne, zup1_eq, w32_s, rget_in, rput_in, zgrd, Nat.reduceEqDiff, Nat.reduceAdd, ↓reduceIte, Int.reduceToNat, zb1_some, zb2_some, zb3_some, zb4_some, zb5_some, Int.toNat_natCast, true_and, and_true]; omega
        · simp (disch := omega) only [zst_if, zup1_ne, zup1_eq, w32_s, rget_in, rput_in, zgrd, Nat.reduceEqDiff, Nat.reduceAdd, ↓reduceIte, Int.reduceToNat, zb1_some, zb2_some, zb3_some, zb4_some, zb5_some, Int.toNat_natCast, true_and, and_true]; omega
        · simp (disch := omega) only [zst_if, zup1_ne, zup1_eq, w32_s, rget_in, rput_in, zgrd, Nat.reduceEqDiff, Nat.reduceAdd, ↓reduceIte, Int.reduceToNat, zb1_some, zb2_some, zb3_some, zb4_some, zb5_some, Int.toNat_natCast, true_and, and_true]; omega
      · simp (disch := omega) only [zst_if, zup1_ne, zup1_eq, w32_s, rget_in, rput_in, zgrd, Nat.reduceEqDiff, Nat.reduceAdd, ↓reduceIte, Int.reduceToNat, zb1_some, zb2_some, zb3_some, zb4_some, zb5_some, Int.toNat_natCast, true_and, and_true]
  · have hF : sh_Ox_call x y h = some (-1, h) := by
      unfold sh_Ox_call sh_Ox_isHour
      simp only [within_z, isFarm_z (h := h) (x := y) (by omega), e0, e9]
      repeat' split
      all_goals first
        | rfl
        | (exfalso; omega)
    have hG : sh_Mo_call N x y h = some (-1, h) := by
      unfold sh_Mo_call
      simp only [isIn_z, isFarmR_z (h := h) (x := y) (by omega)]
      by_cases c1 : 0 ≤ x ∧ x ≤ 23
      · by_cases c2 : 0 ≤ y ∧ y < h 86 0
        · rw [if_neg (by omega), if_neg (by omega), if_pos (by omega)]
        · rw [if_neg (by omega), if_pos (by omega)]
      · rw [if_pos (by omega)]
    exact ⟨h, zcas_of hF hG, hI⟩
/-- a cell that only the header knows -/
theorem zYc_hd {h h1 : zHp} {a a1 : zFn} (hy : zYc 0 h a) (e : ∀ id, 1 < id → id ≤ 23 → h1 id = h id) (ea : ∀ j, j = 0 ∨ j = 1 ∨ j = 2 ∨ j = 3 ∨ 7 ≤ j → a1 j = a j) (e0 : h1 1 0 = h 1 0) (e4 : h1 1 12 = a1 4) (e5 : h1 1 13 = a1 5) (e6 : h1 1 9 = a1 6) : zYc 0 h1 a1 := by
  obtain ⟨y1, y2, y3, y4, y5, y6⟩ := hy
  simp only [Nat.reduceAdd] at y1 y2 y3 y4 y5 y6
  refine ⟨?_, ?_, ?_, ?_, ?_, ?_⟩ <;> simp only [Nat.reduceAdd]
  · rw [e 16 (by omega) (by omega), e 17 (by omega) (by omega), e0, e4, e5, e6, ea 0 (by omega), ea 1 (by omega), ea 2 (by omega), ea 3 (by omega), ea 7 (by omega)]
    exact ⟨y1.1, y1.2.1, y1.2.2.1, y1.2.2.2.1, rfl, rfl, rfl, y1.2.2.2.2.2.2.2⟩
  · intro k hk
    rw [e 3 (by omega) (by omega), e 5 (by omega) (by omega), e 7 (by omega) (by omega), ea _ (by omega), ea _ (by omega), ea _ (by omega)]
    exact y2 k hk
  · intro k hk
    rw [e 9 (by omega) (by omega), e 11 (by omega) (by omega), e 13 (by omega) (by omega), e 16 (by omega) (by omega), ea _ (by omega), ea _ (by omega), ea _ (by omega), ea _ (by omega)]
    exact y3 k hk
  · intro o ho w hw
    rw [e 16 (by omega) (by omega), ea _ (by omega)]
    exact y4 o ho w hw
  · intro k hk
    rw [e 21 (by omega) (by omega), e 23 (by omega) (by omega), ea _ (by omega), ea _ (by omega)]
    exact y5 k hk
  · intro k hk
    rw [ea 7 (by omega)] at hk ⊢
    rw [e 17 (by omega) (by omega), e 19 (by omega) (by omega)]
    exact zSp_hi (y6 k hk) (by omega) (fun j hj => ea j (by omega))
theorem zOk_hd {a a1 : zFn} (hk : zOk a) (ea : ∀ j, j = 0 ∨ j = 1 ∨ j = 2 ∨ j = 3 ∨ 7 ≤ j → a1 j = a j) (h4 : 0 ≤ a1 4 ∧ a1 4 ≤ 4) (h5 : -1 ≤ a1 5 ∧ a1 5 < a1 4) (h6 : 0 ≤ a1 6 ∧ a1 6 ≤ a 6) : zOk a1 := by
  obtain ⟨k1, k2, k3, k4, k5, k6⟩ := hk
  refine ⟨?_, ?_, ?_, ?_, ?_, zOs_grow k6 (ea 7 (by omega)) (fun j hj => ea j (by omega)) (by rw [ea 0 (by omega)]; exact Int.le_refl _) (by rw [ea 1 (by omega)]; exact Int.le_refl _) (by rw [ea 2 (by omega)]; exact Int.le_refl _)⟩
  · rw [ea 0 (by omega), ea 1 (by omega), ea 2 (by omega), ea 3 (by omega), ea 7 (by omega)]
    exact ⟨k1.1, k1.2.1, k1.2.2.1, k1.2.2.2.1, h4, h5, ⟨h6.1, by omega⟩, k1.2.2.2.2.2.2.2⟩
  · intro k hk
    rw [ea _ (by omega), ea _ (by omega), ea _ (by omega)]
    exact k2 k hk
  · intro k hk
    rw [ea _ (by omega), ea _ (by omega), ea _ (by omega), ea _ (by omega)]
    exact k3 k hk
  · intro o ho
    rw [ea 2 (by omega)] at ho
    rw [ea 0 (by omega), ea 1 (by omega), ea 2 (by omega), ea (41 + 8 * o) (by omega), ea (42 + 8 * o) (by omega), ea (43 + 8 * o) (by omega), ea (44 + 8 * o) (by omega), ea (45 + 8 * o) (by omega), ea (46 + 8 * o) (by omega), ea (47 + 8 * o) (by omega), ea (48 + 8 * o) (by omega)]
    exact k4 o ho
  · intro k hk
    rw [ea 0 (by omega), ea _ (by omega), ea _ (by omega)]
    exact k5 k (by omega)
theorem zc_hush {h : zHp} (hI : zInv h) : ∃ h2, zcas sh_Ox_hush sh_Mo_hush h = some (1, h2) ∧ zInv h2 := by
  have hI' := hI
  obtain ⟨⟨hy, hk⟩, -⟩ := hI'
  have hk2 := hk
  have e0 : h 1 9 = h 86 6 := hy.1.2.2.2.2.2.2.1
  refine ⟨_, zcas_of (r := h 86 6) (h1 := zst h 1 9 0) (h2 := zst (zst h 1 9 0) 86 6 0) ?_ ?_, ?_⟩
  · unfold sh_Ox_hush; rw [e0]
  · unfold sh_Mo_hush; simp (disch := omega) only [zst_if, zup1_ne, zup1_eq, w32_s, rget_in, rput_in, zgrd, Nat.reduceEqDiff, Nat.reduceAdd, ↓reduceIte, Int.reduceToNat, zb1_some, zb2_some, zb3_some, zb4_some, zb5_some, Int.toNat_natCast, true_and, and_true]
  · refine zmut hI (h1 := zst h 1 9 0) (a := zup1 (h 86) 6 0) ((zMc.refl h).st (by omega)) ?_ ((zMr.refl _).st) (by simp (disch := omega) only [zst_if, zup1_ne, zup1_eq, w32_s, rget_in, rput_in, zgrd, Nat.reduceEqDiff, Nat.reduceAdd, ↓reduceIte, Int.reduceToNat, zb1_some, zb2_some, zb3_some, zb4_some, zb5_some, Int.toNat_natCast, true_and, and_true]) ?_ (by simp (disch := omega) only [zst_if, zup1_ne, zup1_eq, w32_s, rget_in, rput_in, zgrd, Nat.reduceEqDiff, Nat.reduceAdd, ↓reduceIte, Int.reduceToNat, zb1_some, zb2_some, zb3_some, zb4_some, zb5_some, Int.toNat_natCast, true_and, and_true])
    · refine zYc_hd hy (fun id q r => by rw [zst_if, if_neg (by omega)]) (fun j hj => by simp (disch := omega) only [zst_if, zup1_ne, zup1_eq, w32_s, rget_in, rput_in, zgrd, Nat.reduceEqDiff, Nat.reduceAdd, ↓reduceIte, Int.reduceToNat, zb1_some, zb2_some, zb3_some, zb4_some, zb5_some, Int.toNat_natCast, true_and, and_true]) (by simp (disch := omega) only [zst_if, zup1_ne, zup1_eq, w32_s, rget_in, rput_in, zgrd, Nat.reduceEqDiff, Nat.reduceAdd, ↓reduceIte, Int.reduceToNat, zb1_some, zb2_some, zb3_some, zb4_some, zb5_some, Int.toNat_natCast, true_and, and_true]) ?_ ?_ (by simp (disch := omega) only [zst_if, zup1_ne, zup1_eq, w32_s, rget_in, rput_in, zgrd, Nat.reduceEqDiff, Nat.reduceAdd, ↓reduceIte, Int.reduceToNat, zb1_some, zb2_some, zb3_some, zb4_some, zb5_some, Int.toNat_natCast, true_and, and_true])
      · simp (disch := omega) only [zst_if, zup1_ne, zup1_eq, w32_s, rget_in, rput_in, zgrd, Nat.reduceEqDiff, Nat.reduceAdd, ↓reduceIte, Int.reduceToNat, zb1_some, zb2_some, zb3_some, zb4_some, zb5_some, Int.toNat_natCast, true_and, and_true]; exact hy.1.2.2.2.2.1
      · simp (disch := omega) only [zst_if, zup1_ne, zup1_eq, w32_s, rget_in, rput_in, zgrd, Nat.reduceEqDiff, Nat.reduceAdd, ↓reduceIte, Int.reduceToNat, zb1_some, zb2_some, zb3_some, zb4_some, zb5_some, Int.toNat_natCast, true_and, and_true]; exact hy.1.2.2.2.2.2.1
    · have := hk.1
      refine zOk_hd hk (fun j hj => by simp (disch := omega) only [zst_if, zup1_ne, zup1_eq, w32_s, rget_in, rput_in, zgrd, Nat.reduceEqDiff, Nat.reduceAdd, ↓reduceIte, Int.reduceToNat, zb1_some, zb2_some, zb3_some, zb4_some, zb5_some, Int.toNat_natCast, true_and, and_true]) ?_ ?_ ?_
      · simp (disch := omega) only [zst_if, zup1_ne, zup1_eq, w32_s, rget_in, rput_in, zgrd, Nat.reduceEqDiff, Nat.reduceAdd, ↓reduceIte, Int.reduceToNat, zb1_some, zb2_some, zb3_some, zb4_some, zb5_some, Int.toNat_natCast, true_and, and_true]; omega
      · simp (disch := omega) only [zst_if, zup1_ne, zup1_eq, w32_s, rget_in, rput_in, zgrd, Nat.reduceEqDiff, Nat.reduceAdd, ↓reduceIte, Int.reduceToNat, zb1_some, zb2_some, zb3_some, zb4_some, zb5_some, Int.toNat_natCast, true_and, and_true]; omega
      · simp (disch := omega) only [zst_if, zup1_ne, zup1_eq, w32_s, rget_in, rput_in, zgrd, Nat.reduceEqDiff, Nat.reduceAdd, ↓reduceIte, Int.reduceToNat, zb1_some, zb2_some, zb3_some, zb4_some, zb5_some, Int.toNat_natCast, true_and, and_true]; omega
theorem zc_by {h : zHp} (x : Int) (hI : zInv h) : ∃ h2, zcas (sh_Ox_by x) (sh_Mo_by x) h = some (1, h2) ∧ zInv h2 := by
  have hI' := hI
  obtain ⟨⟨hy, hk⟩, -⟩ := hI'
  have e0 : h 1 12 = h 86 4 := hy.1.2.2.2.2.1
  have k0 := hk.1
  by_cases c : -1 ≤ x ∧ x < h 86 4
  · refine ⟨_, zcas_of (r := 1) (h1 := zst h 1 13 x) (h2 := zst (zst h 1 13 x) 86 5 x) ?_ ?_, ?_⟩
    · unfold sh_Ox_by
      simp only [within_z, e0]
      rw [if_neg (by simp (disch := omega) only [zst_if, zup1_ne, zup1_eq, w32_s, rget_in, rput_in, zgrd, Nat.reduceEqDiff, Nat.reduceAdd, ↓reduceIte, Int.reduceToNat, zb1_some, zb2_some, zb3_some, zb4_some, zb5_some, Int.toNat_natCast, true_and, and_true]; omega)]
    · unfold sh_Mo_by
      simp only [isIn_z]
      rw [if_neg (by simp (disch := omega) only [zst_if, zup1_ne, zup1_eq, w32_s, rget_in, rput_in, zgrd, Nat.reduceEqDiff, Nat.reduceAdd, ↓reduceIte, Int.reduceToNat, zb1_some, zb2_some, zb3_some, zb4_some, zb5_some, Int.toNat_natCast, true_and, and_true]; omega)]
    · refine zmut hI (h1 := zst h 1 13 x) (a := zup1 (h 86) 5 x) ((zMc.refl h).st (by omega)) ?_ ((zMr.refl _).st) (by simp (disch := omega) only [zst_if, zup1_ne, zup1_eq, w32_s, rget_in, rput_in, zgrd, Nat.reduceEqDiff, Nat.reduceAdd, ↓reduceIte, Int.reduceToNat, zb1_some, zb2_some, zb3_some, zb4_some, zb5_some, Int.toNat_natCast, true_and, and_true]) ?_ (by simp (disch := omega) only [zst_if, zup1_ne, zup1_eq, w32_s, rget_in, rput_in, zgrd, Nat.reduceEqDiff, Nat.reduceAdd, ↓reduceIte, Int.reduceToNat, zb1_some, zb2_some, zb3_some, zb4_some, zb5_some, Int.toNat_natCast, true_and, and_true])
      · refine zYc_hd hy (fun id q r => by rw [zst_if, if_neg (by omega)]) (fun j hj => by simp (disch := omega) only [zst_if, zup1_ne, zup1_eq, w32_s, rget_in, rput_in, zgrd, Nat.reduceEqDiff, Nat.reduceAdd, ↓reduceIte, Int.reduceToNat, zb1_some, zb2_some, zb3_some, zb4_some, zb5_some, Int.toNat_natCast, true_and, and_true]) (by simp (disch := omega) only [zst_if, zup1_ne, zup1_eq, w32_s, rget_in, rput_in, zgrd, Nat.reduceEqDiff, Nat.reduceAdd, ↓reduceIte, Int.reduceToNat, zb1_some, zb2_some, zb3_some, zb4_some, zb5_some, Int.toNat_natCast, true_and, and_true]) ?_ (by simp (disch := omega) only [zst_if, zup1_ne, zup1_eq, w32_s, rget_in, rput_in, zgrd, Nat.reduceEqDiff, Nat.reduceAdd, ↓reduceIte, Int.reduceToNat, zb1_some, zb2_some, zb3_some, zb4_some, zb5_some, Int.toNat_natCast, true_and, and_true]) ?_
        · simp (disch := omega) only [zst_if, zup1_ne, zup1_eq, w32_s, rget_in, rput_in, zgrd, Nat.reduceEqDiff, Nat.reduceAdd, ↓reduceIte, Int.reduceToNat, zb1_some, zb2_some, zb3_some, zb4_some, zb5_some, Int.toNat_natCast, true_and, and_true]; exact hy.1.2.2.2.2.1
        · simp (disch := omega) only [zst_if, zup1_ne, zup1_eq, w32_s, rget_in, rput_in, zgrd, Nat.reduceEqDiff, Nat.reduceAdd, ↓reduceIte, Int.reduceToNat, zb1_some, zb2_some, zb3_some, zb4_some, zb5_some, Int.toNat_natCast, true_and, and_true]; exact hy.1.2.2.2.2.2.2.1
      · refine zOk_hd hk (fun j hj => by simp (disch := omega) only [zst_if, zup1_ne, zup1_eq, w32_s, rget_in, rput_in, zgrd, Nat.reduceEqDiff, Nat.reduceAdd, ↓reduceIte, Int.reduceToNat, zb1_some, zb2_some, zb3_some, zb4_some, zb5_some, Int.toNat_natCast, true_and, and_true]) ?_ ?_ ?_
        · simp (disch := omega) only [zst_if, zup1_ne, zup1_eq, w32_s, rget_in, rput_in, zgrd, Nat.reduceEqDiff, Nat.reduceAdd, ↓reduceIte, Int.reduceToNat, zb1_some, zb2_some, zb3_some, zb4_some, zb5_some, Int.toNat_natCast, true_and, and_true]; omega
        · simp (disch := omega) only [zst_if, zup1_ne, zup1_eq, w32_s, rget_in, rput_in, zgrd, Nat.reduceEqDiff, Nat.reduceAdd, ↓reduceIte, Int.reduceToNat, zb1_some, zb2_some, zb3_some, zb4_some, zb5_some, Int.toNat_natCast, true_and, and_true]; omega
        · simp (disch := omega) only [zst_if, zup1_ne, zup1_eq, w32_s, rget_in, rput_in, zgrd, Nat.reduceEqDiff, Nat.reduceAdd, ↓reduceIte, Int.reduceToNat, zb1_some, zb2_some, zb3_some, zb4_some, zb5_some, Int.toNat_natCast, true_and, and_true]; omega
  · refine ⟨h, zcas_of (r := 0) (h1 := h) ?_ ?_, hI⟩
    · unfold sh_Ox_by
      simp only [within_z, e0]
      rw [if_pos (by simp (disch := omega) only [zst_if, zup1_ne, zup1_eq, w32_s, rget_in, rput_in, zgrd, Nat.reduceEqDiff, Nat.reduceAdd, ↓reduceIte, Int.reduceToNat, zb1_some, zb2_some, zb3_some, zb4_some, zb5_some, Int.toNat_natCast, true_and, and_true]; omega)]
    · unfold sh_Mo_by
      simp only [isIn_z]
      rw [if_pos (by simp (disch := omega) only [zst_if, zup1_ne, zup1_eq, w32_s, rget_in, rput_in, zgrd, Nat.reduceEqDiff, Nat.reduceAdd, ↓reduceIte, Int.reduceToNat, zb1_some, zb2_some, zb3_some, zb4_some, zb5_some, Int.toNat_natCast, true_and, and_true]; omega)]
