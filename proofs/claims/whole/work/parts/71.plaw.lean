/-! PURE: the law's cases keep the invariant -/
theorem zcas_inv {F G : zHp → Option (Int × zHp)} {h h2 : zHp} (e : zcas F G h = some (1, h2)) : ∃ r h1, F h = some (r, h1) ∧ G h1 = some (r, h2) := by
  unfold zcas at e
  cases hF : F h with
  | none => rw [hF] at e; cases e
  | some q =>
    obtain ⟨r, h1⟩ := q
    rw [hF] at e
    simp only [zb2_some] at e
    cases hG : G h1 with
    | none => rw [hG] at e; cases e
    | some q2 =>
      obtain ⟨r2, h3⟩ := q2
      rw [hG] at e
      simp only [zb2_some] at e
      by_cases c : r = r2
      · rw [if_pos c] at e
        cases e
        exact ⟨r, h1, rfl, by rw [c]; exact hG⟩
      · rw [if_neg c] at e
        cases e
theorem zlw_0 {N : Nat} (hN : 300000 ≤ N) {E : zE} (hz : ∀ a, zI32 (zsx E a)) (x3 : Int) {h : zHp} (hI : zInv h) : ∃ h1, sh_La_c0 N E x3 h = some (1, h1) ∧ zInv h1 := by
  unfold sh_La_c0
  exact zc_farm (zsx E (w32 (x3 + 1))) (zsx E (w32 (x3 + 2))) (zsx E (w32 (x3 + 3))) hI N
theorem zlw_1 {N : Nat} (hN : 300000 ≤ N) {E : zE} (hz : ∀ a, zI32 (zsx E a)) (x3 : Int) {h : zHp} (hI : zInv h) : ∃ h1, sh_La_c1 N E x3 h = some (1, h1) ∧ zInv h1 := by
  unfold sh_La_c1
  exact zc_field (zsx E (w32 (x3 + 1))) (zsx E (w32 (x3 + 2))) (zsx E (w32 (x3 + 3))) (zsx E (w32 (x3 + 4))) hI N
theorem zlw_2 {N : Nat} (hN : 300000 ≤ N) {E : zE} (hz : ∀ a, zI32 (zsx E a)) (x3 : Int) {h : zHp} (hI : zInv h) : ∃ h1, sh_La_c2 N E x3 h = some (1, h1) ∧ zInv h1 := by
  unfold sh_La_c2
  exact zc_ox (zsx E (w32 (x3 + 1))) (zsx E (w32 (x3 + 2))) (zsx E (w32 (x3 + 3))) (zsx E (w32 (x3 + 4))) hI N
theorem zlw_3 {N : Nat} (hN : 300000 ≤ N) {E : zE} (hz : ∀ a, zI32 (zsx E a)) (x3 : Int) {h : zHp} (hI : zInv h) : ∃ h1, sh_La_c3 N E x3 h = some (1, h1) ∧ zInv h1 := by
  unfold sh_La_c3
  exact zc_feed (zsx E (w32 (x3 + 1))) (zsx E (w32 (x3 + 2))) (zsx E (w32 (x3 + 3))) (zsx E (w32 (x3 + 4))) (zsx E (w32 (x3 + 5))) hI (by omega)
theorem zlw_4 {N : Nat} (hN : 300000 ≤ N) {E : zE} (hz : ∀ a, zI32 (zsx E a)) (x3 : Int) {h : zHp} (hI : zInv h) : ∃ h1, sh_La_c4 N E x3 h = some (1, h1) ∧ zInv h1 := by
  unfold sh_La_c4
  exact zc_end (zsx E (w32 (x3 + 1))) hI
theorem zlw_5 {N : Nat} (hN : 300000 ≤ N) {E : zE} (hz : ∀ a, zI32 (zsx E a)) (x3 : Int) {h : zHp} (hI : zInv h) : ∃ h1, sh_La_c5 N E x3 h = some (1, h1) ∧ zInv h1 := by
  unfold sh_La_c5
  exact zc_text (by omega) hI
theorem zlw_6 {N : Nat} (hN : 300000 ≤ N) {E : zE} (hz : ∀ a, zI32 (zsx E a)) (x3 : Int) {h : zHp} (hI : zInv h) : ∃ h1, sh_La_c6 N E x3 h = some (1, h1) ∧ zInv h1 := by
  unfold sh_La_c6
  rw [zc_fault (zsx E (w32 (x3 + 1))) hI, if_pos rfl]
  exact ⟨h, rfl, hI⟩
theorem zlw_7 {N : Nat} (hN : 300000 ≤ N) {E : zE} (hz : ∀ a, zI32 (zsx E a)) (x3 : Int) {h : zHp} (hI : zInv h) : ∃ h1, sh_La_c7 N E x3 h = some (1, h1) ∧ zInv h1 := by
  unfold sh_La_c7
  exact zc_by (zsx E (w32 (x3 + 1))) hI
theorem zlw_8 {N : Nat} (hN : 300000 ≤ N) {E : zE} (hz : ∀ a, zI32 (zsx E a)) (x3 : Int) {h : zHp} (hI : zInv h) : ∃ h1, sh_La_c8 N E x3 h = some (1, h1) ∧ zInv h1 := by
  unfold sh_La_c8
  exact zc_yoke (zsx E (w32 (x3 + 1))) (zsx E (w32 (x3 + 2))) (zsx E (w32 (x3 + 3))) hI (by omega)
theorem zlw_9 {N : Nat} (hN : 300000 ≤ N) {E : zE} (hz : ∀ a, zI32 (zsx E a)) (x3 : Int) {h : zHp} (hI : zInv h) : ∃ h1, sh_La_c9 N E x3 h = some (1, h1) ∧ zInv h1 := by
  unfold sh_La_c9
  exact zc_loose (zsx E (w32 (x3 + 1))) hI (by omega)
theorem zlw_10 {N : Nat} (hN : 300000 ≤ N) {E : zE} (hz : ∀ a, zI32 (zsx E a)) (x3 : Int) {h : zHp} (hI : zInv h) : ∃ h1, sh_La_c10 N E x3 h = some (1, h1) ∧ zInv h1 := by
  unfold sh_La_c10
  exact zc_drive (zsx E (w32 (x3 + 1))) (zsx E (w32 (x3 + 2))) hI (by omega)
theorem zlw_11 {N : Nat} (hN : 300000 ≤ N) {E : zE} (hz : ∀ a, zI32 (zsx E a)) (x3 : Int) {h : zHp} (hI : zInv h) : ∃ h1, sh_La_c11 N E x3 h = some (1, h1) ∧ zInv h1 := by
  unfold sh_La_c11
  exact zc_sell (zsx E (w32 (x3 + 1))) (zsx E (w32 (x3 + 2))) hI (by omega)
theorem zlw_12 {N : Nat} (hN : 300000 ≤ N) {E : zE} (hz : ∀ a, zI32 (zsx E a)) (x3 : Int) {h : zHp} (hI : zInv h) : ∃ h1, sh_La_c12 N E x3 h = some (1, h1) ∧ zInv h1 := by
  unfold sh_La_c12
  exact zc_whistle (zsx E (w32 (x3 + 1))) hI (by omega)
theorem zlw_13 {N : Nat} (hN : 300000 ≤ N) {E : zE} (hz : ∀ a, zI32 (zsx E a)) (x3 : Int) {h : zHp} (hI : zInv h) : ∃ h1, sh_La_c13 N E x3 h = some (1, h1) ∧ zInv h1 := by
  unfold sh_La_c13
  exact zc_plough hI (by omega)
theorem zlw_14 {N : Nat} (hN : 300000 ≤ N) {E : zE} (hz : ∀ a, zI32 (zsx E a)) (x3 : Int) {h : zHp} (hI : zInv h) : ∃ h1, sh_La_c14 N E x3 h = some (1, h1) ∧ zInv h1 := by
  unfold sh_La_c14
  exact zc_night hI (by omega)
theorem zlw_15 {N : Nat} (hN : 300000 ≤ N) {E : zE} (hz : ∀ a, zI32 (zsx E a)) (x3 : Int) {h : zHp} (hI : zInv h) : ∃ h1, sh_La_c15 N E x3 h = some (1, h1) ∧ zInv h1 := by
  unfold sh_La_c15
  exact zc_undo hI (by omega)
theorem zlw_16 {N : Nat} (hN : 300000 ≤ N) {E : zE} (hz : ∀ a, zI32 (zsx E a)) (x3 : Int) {h : zHp} (hI : zInv h) : ∃ h1, sh_La_c16 N E x3 h = some (1, h1) ∧ zInv h1 := by
  unfold sh_La_c16
  rw [zc_of (zsx E (w32 (x3 + 1))) (zsx E (w32 (x3 + 2))) hI N]
  simp only [zb1_some]
  rw [if_pos trivial]
  exact ⟨h, rfl, hI⟩
theorem zlw_17 {N : Nat} (hN : 300000 ≤ N) {E : zE} (hz : ∀ a, zI32 (zsx E a)) (x3 : Int) {h : zHp} (hI : zInv h) : ∃ h1, sh_La_c17 N E x3 h = some (1, h1) ∧ zInv h1 := by
  unfold sh_La_c17
  exact zc_heeds (zsx E (w32 (x3 + 1))) (zsx E (w32 (x3 + 2))) (zsx E (w32 (x3 + 3))) (zsx E (w32 (x3 + 4))) (if zsx E (w32 (x3 + 5)) = 0 then 0 else 1 : Int) hI (by omega)
theorem zlw_18 {N : Nat} (hN : 300000 ≤ N) {E : zE} (hz : ∀ a, zI32 (zsx E a)) (x3 : Int) {h : zHp} (hI : zInv h) : ∃ h1, sh_La_c18 N E x3 h = some (1, h1) ∧ zInv h1 := by
  unfold sh_La_c18
  exact zc_call (zsx E (w32 (x3 + 1))) (zsx E (w32 (x3 + 2))) hI N
theorem zlw_19 {N : Nat} (hN : 300000 ≤ N) {E : zE} (hz : ∀ a, zI32 (zsx E a)) (x3 : Int) {h : zHp} (hI : zInv h) : ∃ h1, sh_La_c19 N E x3 h = some (1, h1) ∧ zInv h1 := by
  unfold sh_La_c19
  exact zc_hush hI
theorem zlw_20 {N : Nat} (hN : 300000 ≤ N) {E : zE} (hz : ∀ a, zI32 (zsx E a)) (x3 : Int) {h : zHp} (hI : zInv h) : ∃ h1, sh_La_c20 N E x3 h = some (1, h1) ∧ zInv h1 := by
  unfold sh_La_c20
  exact zc_stay (zsx E (w32 (x3 + 1))) (zsx E (w32 (x3 + 2))) (zsx E (w32 (x3 + 3))) (zsx E (w32 (x3 + 4))) (if zsx E (w32 (x3 + 5)) = 0 then 0 else 1 : Int) hI (by omega)
theorem zlw_21 {N : Nat} (hN : 300000 ≤ N) {E : zE} (hz : ∀ a, zI32 (zsx E a)) (x3 : Int) {h : zHp} (hI : zInv h) : ∃ h1, sh_La_c21 N E x3 h = some (1, h1) ∧ zInv h1 := by
  unfold sh_La_c21
  exact zc_plan (zsx E (w32 (x3 + 1))) (zsx E (w32 (x3 + 2))) hI (by omega)
theorem zlw_22 {N : Nat} (hN : 300000 ≤ N) {E : zE} (hz : ∀ a, zI32 (zsx E a)) (x3 : Int) {h : zHp} (hI : zInv h) : ∃ h1, sh_La_c22 N E x3 h = some (1, h1) ∧ zInv h1 := by
  unfold sh_La_c22
  exact zc_longest (zsx E (w32 (x3 + 1))) (zsx E (w32 (x3 + 2))) hI (by omega)
theorem zlw_23 {N : Nat} (hN : 300000 ≤ N) {E : zE} (hz : ∀ a, zI32 (zsx E a)) (x3 : Int) {h : zHp} (hI : zInv h) : ∃ h1, sh_La_c23 N E x3 h = some (1, h1) ∧ zInv h1 := by
  obtain ⟨h2, e, k⟩ := zc_dark (zsx E (w32 (x3 + 1))) (zsx E (w32 (x3 + 2))) (zsx E (w32 (x3 + 3))) (zsx E (w32 (x3 + 4))) (zsx E (w32 (x3 + 5))) (zsx E (w32 (x3 + 6))) (hz _) hI (N := N) (by omega)
  obtain ⟨r, h1, e1, e2⟩ := zcas_inv e
  refine ⟨h2, ?_, k⟩
  unfold sh_La_c23
  rw [e1]
  simp only [zb2_some]
  rw [e2]
  simp only [zb2_some]
  rw [if_pos (zcmp_eq.mpr rfl)]
theorem zlw_24 {N : Nat} (hN : 300000 ≤ N) {E : zE} (hz : ∀ a, zI32 (zsx E a)) (x3 : Int) {h : zHp} (hI : zInv h) : ∃ h1, sh_La_c24 N E x3 h = some (1, h1) ∧ zInv h1 := by
  unfold sh_La_c24
  exact zc_apart (zsx E (w32 (x3 + 1))) (zsx E (w32 (x3 + 2))) (zsx E (w32 (x3 + 3))) hI hN
theorem zlw_25 {N : Nat} (hN : 300000 ≤ N) {E : zE} (hz : ∀ a, zI32 (zsx E a)) (x3 : Int) {h : zHp} (hI : zInv h) : ∃ h1, sh_La_c25 N E x3 h = some (1, h1) ∧ zInv h1 := by
  unfold sh_La_c25
  exact zc_thunder (zsx E (w32 (x3 + 1))) (zsx E (w32 (x3 + 2))) hI (by omega)
theorem zlw_26 {N : Nat} (hN : 300000 ≤ N) {E : zE} (hz : ∀ a, zI32 (zsx E a)) (x3 : Int) {h : zHp} (hI : zInv h) : ∃ h1, sh_La_c26 N E x3 h = some (1, h1) ∧ zInv h1 := by
  unfold sh_La_c26
  exact zc_image hI (N := N) (by omega)
theorem zlw_27 {N : Nat} (hN : 300000 ≤ N) {E : zE} (hz : ∀ a, zI32 (zsx E a)) (x3 : Int) {h : zHp} (hI : zInv h) : ∃ h1, sh_La_c27 N E x3 h = some (1, h1) ∧ zInv h1 := by
  unfold sh_La_c27
  exact zc_back hI (by omega)
theorem zlw_28 {N : Nat} (hN : 300000 ≤ N) {E : zE} (hz : ∀ a, zI32 (zsx E a)) (x3 : Int) {h : zHp} (hI : zInv h) : ∃ h1, sh_La_c28 N E x3 h = some (1, h1) ∧ zInv h1 := by
  unfold sh_La_c28
  rw [zc_about (zsx E (w32 (x3 + 1))) (hz _) hI N]
  simp only [zb1_some]
  rw [if_pos trivial]
  exact ⟨h, rfl, hI⟩
theorem zlw_case {N : Nat} (hN : 300000 ≤ N) {E : zE} (hz : ∀ a, zI32 (zsx E a)) (x3 : Int) {h : zHp} (hI : zInv h) : ∃ h1, sh_La_case N E x3 h = some (1, h1) ∧ zInv h1 := by
  unfold sh_La_case
  by_cases c0 : zand (zsx E x3) 31 = 0
  · rw [if_pos c0]
    exact zlw_0 hN hz x3 hI
  rw [if_neg c0]
  by_cases c1 : zand (zsx E x3) 31 = 1
  · rw [if_pos c1]
    exact zlw_1 hN hz x3 hI
  rw [if_neg c1]
  by_cases c2 : zand (zsx E x3) 31 = 2
  · rw [if_pos c2]
    exact zlw_2 hN hz x3 hI
  rw [if_neg c2]
  by_cases c3 : zand (zsx E x3) 31 = 3
  · rw [if_pos c3]
    exact zlw_3 hN hz x3 hI
  rw [if_neg c3]
  by_cases c4 : zand (zsx E x3) 31 = 4
  · rw [if_pos c4]
    exact zlw_4 hN hz x3 hI
  rw [if_neg c4]
  by_cases c5 : zand (zsx E x3) 31 = 5
  · rw [if_pos c5]
    exact zlw_5 hN hz x3 hI
  rw [if_neg c5]
  by_cases c6 : zand (zsx E x3) 31 = 6
  · rw [if_pos c6]
    exact zlw_6 hN hz x3 hI
  rw [if_neg c6]
  by_cases c7 : zand (zsx E x3) 31 = 7
  · rw [if_pos c7]
    exact zlw_7 hN hz x3 hI
  rw [if_neg c7]
  by_cases c8 : zand (zsx E x3) 31 = 8
  · rw [if_pos c8]
    exact zlw_8 hN hz x3 hI
  rw [if_neg c8]
  by_cases c9 : zand (zsx E x3) 31 = 9
  · rw [if_pos c9]
    exact zlw_9 hN hz x3 hI
  rw [if_neg c9]
  by_cases c10 : zand (zsx E x3) 31 = 10
  · rw [if_pos c10]
    exact zlw_10 hN hz x3 hI
  rw [if_neg c10]
  by_cases c11 : zand (zsx E x3) 31 = 11
  · rw [if_pos c11]
    exact zlw_11 hN hz x3 hI
  rw [if_neg c11]
  by_cases c12 : zand (zsx E x3) 31 = 12
  · rw [if_pos c12]
    exact zlw_12 hN hz x3 hI
  rw [if_neg c12]
  by_cases c13 : zand (zsx E x3) 31 = 13
  · rw [if_pos c13]
    exact zlw_13 hN hz x3 hI
  rw [if_neg c13]
  by_cases c14 : zand (zsx E x3) 31 = 14
  · rw [if_pos c14]
    exact zlw_14 hN hz x3 hI
  rw [if_neg c14]
  by_cases c15 : zand (zsx E x3) 31 = 15
  · rw [if_pos c15]
    exact zlw_15 hN hz x3 hI
  rw [if_neg c15]
  by_cases c16 : zand (zsx E x3) 31 = 16
  · rw [if_pos c16]
    exact zlw_16 hN hz x3 hI
  rw [if_neg c16]
  by_cases c17 : zand (zsx E x3) 31 = 17
  · rw [if_pos c17]
    exact zlw_17 hN hz x3 hI
  rw [if_neg c17]
  by_cases c18 : zand (zsx E x3) 31 = 18
  · rw [if_pos c18]
    exact zlw_18 hN hz x3 hI
  rw [if_neg c18]
  by_cases c19 : zand (zsx E x3) 31 = 19
  · rw [if_pos c19]
    exact zlw_19 hN hz x3 hI
  rw [if_neg c19]
  by_cases c20 : zand (zsx E x3) 31 = 20
  · rw [if_pos c20]
    exact zlw_20 hN hz x3 hI
  rw [if_neg c20]
  by_cases c21 : zand (zsx E x3) 31 = 21
  · rw [if_pos c21]
    exact zlw_21 hN hz x3 hI
  rw [if_neg c21]
  by_cases c22 : zand (zsx E x3) 31 = 22
  · rw [if_pos c22]
    exact zlw_22 hN hz x3 hI
  rw [if_neg c22]
  by_cases c23 : zand (zsx E x3) 31 = 23
  · rw [if_pos c23]
    exact zlw_23 hN hz x3 hI
  rw [if_neg c23]
  by_cases c24 : zand (zsx E x3) 31 = 24
  · rw [if_pos c24]
    exact zlw_24 hN hz x3 hI
  rw [if_neg c24]
  by_cases c25 : zand (zsx E x3) 31 = 25
  · rw [if_pos c25]
    exact zlw_25 hN hz x3 hI
  rw [if_neg c25]
  by_cases c26 : zand (zsx E x3) 31 = 26
  · rw [if_pos c26]
    exact zlw_26 hN hz x3 hI
  rw [if_neg c26]
  by_cases c27 : zand (zsx E x3) 31 = 27
  · rw [if_pos c27]
    exact zlw_27 hN hz x3 hI
  rw [if_neg c27]
  by_cases c28 : zand (zsx E x3) 31 = 28
  · rw [if_pos c28]
    exact zlw_28 hN hz x3 hI
  rw [if_neg c28]
  exact ⟨h, rfl, hI⟩
