/-! PURE: names, and who heeds, of the class and of the reference -/
def zgp (x y : Int) : Int := if y ≤ x then x - y else y - x
def zfar (a : zFn) (f l : Nat) : Int := zgp (a (10 + 3 * f)) (a (25 + 4 * l)) + zgp (a (11 + 3 * f)) (a (26 + 4 * l))
def zna (a : zFn) (o : Nat) (f p : Int) (l : Nat) (y hr : Int) : zFn := fun i =>
  if i = 0 then hr else if i = 1 then p else if i = 2 then f else if i = 3 then a (44 + 8 * o)
  else if i = 4 then (if 0 ≤ f ∧ (a (41 + 8 * o) = f ∨ a (42 + 8 * o) = f) then 1 else 0)
  else if i = 5 then (if f < 0 then 0 else zfar a f.toNat l) else if i = 6 then y else if i = 7 then (o : Int) else if i = 8 then a (43 + 8 * o) else 0
theorem zgp_b {x y : Int} (hx : 0 ≤ x ∧ x ≤ 19) (hy : 0 ≤ y ∧ y ≤ 19) : 0 ≤ zgp x y ∧ zgp x y ≤ 19 := by
  unfold zgp
  split <;> omega
theorem zfar_b {a : zFn} (hk : zOk a) {f l : Nat} (hf : f < 5) (hl : l < 4) : 0 ≤ zfar a f l ∧ zfar a f l ≤ 38 := by
  have h1 := hk.2.1 f hf
  have h2 := hk.2.2.1 l hl
  have h3 := zgp_b h1.1 h2.1
  have h4 := zgp_b h1.2.1 h2.2.1
  unfold zfar
  omega
theorem zgap_s {x y : Int} (hx : 0 ≤ x ∧ x ≤ 19) (hy : 0 ≤ y ∧ y ≤ 19) : sh_Mo_gap x y = zgp x y := by
  unfold sh_Mo_gap zgp
  rw [w32_s (by omega) (by omega), w32_s (by omega) (by omega)]
theorem zabs_s {x y : Int} (hx : 0 ≤ x ∧ x ≤ 19) (hy : 0 ≤ y ∧ y ≤ 19) : zabs (w32 (x - y)) = zgp x y := by
  unfold zabs zgp
  rw [w32_s (a := x - y) (by omega) (by omega), w32_s (by omega) (by omega)]
  by_cases h : y ≤ x
  · rw [if_pos (by omega), if_pos h]
  · rw [if_neg (by omega), if_neg h]; omega
theorem zna_b {a : zFn} (hk : zOk a) {o l : Nat} {f p y hr : Int} (ho : (o : Int) < a 2) (hl : l < 4) (hf : -1 ≤ f ∧ f < 5) (hp : zB6 p) (hy : zB6 y) (hh : zB6 hr) (i : Nat) : zB6 (zna a o f p l y hr i) := by
  have o1 := (hk.2.2.2.1 o ho).2
  have b2 := hk.1.2.2.1
  have z0 : zB6 0 := ⟨by decide, by decide⟩
  have z1 : zB6 1 := ⟨by decide, by decide⟩
  unfold zna
  split
  · exact hh
  split
  · exact hp
  split
  · unfold zB6; omega
  split
  · unfold zB6; omega
  split
  · split
    · exact z1
    · exact z0
  split
  · split
    · exact z0
    · have := zfar_b hk (f := f.toNat) (l := l) (by omega) hl
      unfold zB6; omega
  split
  · exact hy
  split
  · unfold zB6; omega
  split
  · unfold zB6; omega
  · exact z0
theorem zask_c {h : zHp} {a : zFn} (hy : zYc 0 h a) (hk : zOk a) {o l : Nat} {f p y hr : Int} (ho : o < 8) (hl : l < 4) (hf : -1 ≤ f ∧ f < 5) :
    ∃ h1, sh_Laws_ask o f p l y hr h = h1 ∧ (∀ i, i ≤ 8 → h1 35 i = zna a o f p l (if y = 0 then 0 else 1) hr i) ∧ h1 33 4 = o ∧ zFr [33, 35] h h1 := by
  obtain ⟨y1, y2, y3, y4, y5, y6⟩ := hy
  simp only [Nat.reduceAdd] at y1 y2 y3 y4 y5 y6
  have g0 : h 16 (7 + 8 * o) = a (41 + 8 * o) := y4 o ho 0 (by decide)
  have g1 := y4 o ho 1 (by decide)
  have g2 := y4 o ho 2 (by decide)
  have g3 := y4 o ho 3 (by decide)
  refine ⟨_, rfl, ?_, ?_, ?_⟩
  · have ef : ∀ h2 : zHp, (h2 3 = h 3 ∧ h2 5 = h 5 ∧ h2 9 = h 9 ∧ h2 11 = h 11) → ¬ f = -1 → sh_Yard_far_1 f l h2 = zfar a f.toNat l := by
      rintro h2 ⟨q1, q2, q3, q4⟩ hn
      unfold sh_Yard_far_1
      have k1 := hk.2.1 f.toNat (by omega)
      have k2 := hk.2.2.1 l hl
      have v1 := y2 f.toNat (by omega)
      have v2 := y3 l hl
      rw [rget_in (by omega) (by omega), rget_in (by omega) (by omega), rget_in (by omega) (by omega), rget_in (by omega) (by omega), q1, q2, q3, q4, Int.toNat_natCast, v1.1, v1.2.1, v2.1, v2.2.1, zabs_s k1.1 k2.1, zabs_s k1.2.1 k2.2.1]
      have b1 := zgp_b k1.1 k2.1
      have b2 := zgp_b k1.2.1 k2.2.1
      rw [w32_s (by omega) (by omega)]
      rfl
    intro i hi
    unfold sh_Laws_ask sh_Laws_askCall
    simp (disch := omega) only [zst_if, zup1_ne, zup1_eq, w32_s, rget_in, rput_in, zgrd, Nat.reduceEqDiff, Nat.reduceAdd, ↓reduceIte, Int.reduceToNat, zb1_some, zb2_some, zb3_some, zb4_some, zb5_some, Int.toNat_natCast, true_and, and_true, get_s, Nat.add_zero, g0, g1, g2, g3, Int.reduceToNat]
    unfold zna
    have hc : i = 0 ∨ i = 1 ∨ i = 2 ∨ i = 3 ∨ i = 4 ∨ i = 5 ∨ i = 6 ∨ i = 7 ∨ i = 8 := by omega
    rcases hc with rfl | rfl | rfl | rfl | rfl | rfl | rfl | rfl | rfl
    · simp (disch := omega) only [zst_if, zup1_ne, zup1_eq, w32_s, rget_in, rput_in, zgrd, Nat.reduceEqDiff, Nat.reduceAdd, ↓reduceIte, Int.reduceToNat, zb1_some, zb2_some, zb3_some, zb4_some, zb5_some, Int.toNat_natCast, true_and, and_true]
    · simp (disch := omega) only [zst_if, zup1_ne, zup1_eq, w32_s, rget_in, rput_in, zgrd, Nat.reduceEqDiff, Nat.reduceAdd, ↓reduceIte, Int.reduceToNat, zb1_some, zb2_some, zb3_some, zb4_some, zb5_some, Int.toNat_natCast, true_and, and_true]
    · simp (disch := omega) only [zst_if, zup1_ne, zup1_eq, w32_s, rget_in, rput_in, zgrd, Nat.reduceEqDiff, Nat.reduceAdd, ↓reduceIte, Int.reduceToNat, zb1_some, zb2_some, zb3_some, zb4_some, zb5_some, Int.toNat_natCast, true_and, and_true]
    · simp (disch := omega) only [zst_if, zup1_ne, zup1_eq, w32_s, rget_in, rput_in, zgrd, Nat.reduceEqDiff, Nat.reduceAdd, ↓reduceIte, Int.reduceToNat, zb1_some, zb2_some, zb3_some, zb4_some, zb5_some, Int.toNat_natCast, true_and, and_true]
      congr 1; omega
    · simp (disch := omega) only [zst_if, zup1_ne, zup1_eq, w32_s, rget_in, rput_in, zgrd, Nat.reduceEqDiff, Nat.reduceAdd, ↓reduceIte, Int.reduceToNat, zb1_some, zb2_some, zb3_some, zb4_some, zb5_some, Int.toNat_natCast, true_and, and_true]
      by_cases c : f = -1
      · rw [if_pos c, if_neg (c := 0 ≤ f ∧ _) (by omega), ite_self]
      · rw [if_neg c]
        rw [show 41 + 8 * o + 1 = 42 + 8 * o by omega]
        by_cases c1 : a (41 + 8 * o) = f
        · rw [if_pos c1, if_neg (by decide), if_pos ⟨by omega, Or.inl c1⟩]
        · rw [if_neg c1]
          by_cases c2 : a (42 + 8 * o) = f
          · rw [if_pos c2, if_neg (by decide), if_pos ⟨by omega, Or.inr c2⟩]
          · rw [if_neg c2, if_pos rfl, if_neg (fun q => q.2.elim c1 c2)]
    · simp (disch := omega) only [zst_if, zup1_ne, zup1_eq, w32_s, rget_in, rput_in, zgrd, Nat.reduceEqDiff, Nat.reduceAdd, ↓reduceIte, Int.reduceToNat, zb1_some, zb2_some, zb3_some, zb4_some, zb5_some, Int.toNat_natCast, true_and, and_true]
      by_cases c : f = -1
      · rw [if_pos c, if_pos (by omega)]
      · rw [if_neg c, if_neg (c := f < 0) (by omega)]
        refine ef _ ⟨?_, ?_, ?_, ?_⟩ c <;> simp (disch := omega) only [zst_if, zup1_ne, zup1_eq, w32_s, rget_in, rput_in, zgrd, Nat.reduceEqDiff, Nat.reduceAdd, ↓reduceIte, Int.reduceToNat, zb1_some, zb2_some, zb3_some, zb4_some, zb5_some, Int.toNat_natCast, true_and, and_true]
    · simp (disch := omega) only [zst_if, zup1_ne, zup1_eq, w32_s, rget_in, rput_in, zgrd, Nat.reduceEqDiff, Nat.reduceAdd, ↓reduceIte, Int.reduceToNat, zb1_some, zb2_some, zb3_some, zb4_some, zb5_some, Int.toNat_natCast, true_and, and_true]
    · simp (disch := omega) only [zst_if, zup1_ne, zup1_eq, w32_s, rget_in, rput_in, zgrd, Nat.reduceEqDiff, Nat.reduceAdd, ↓reduceIte, Int.reduceToNat, zb1_some, zb2_some, zb3_some, zb4_some, zb5_some, Int.toNat_natCast, true_and, and_true]
    · simp (disch := omega) only [zst_if, zup1_ne, zup1_eq, w32_s, rget_in, rput_in, zgrd, Nat.reduceEqDiff, Nat.reduceAdd, ↓reduceIte, Int.reduceToNat, zb1_some, zb2_some, zb3_some, zb4_some, zb5_some, Int.toNat_natCast, true_and, and_true]
      congr 1; omega
  · unfold sh_Laws_ask sh_Laws_askCall
    simp (disch := omega) only [zst_if, zup1_ne, zup1_eq, w32_s, rget_in, rput_in, zgrd, Nat.reduceEqDiff, Nat.reduceAdd, ↓reduceIte, Int.reduceToNat, zb1_some, zb2_some, zb3_some, zb4_some, zb5_some, Int.toNat_natCast, true_and, and_true]
  · intro id hid
    have i33 : id ≠ 33 := fun e => hid (by simp [e])
    have i35 : id ≠ 35 := fun e => hid (by simp [e])
    unfold sh_Laws_ask sh_Laws_askCall
    simp (disch := omega) only [rput_ne]
    rw [zst_if, if_neg i33]
theorem zfar_r {N : Nat} {g : zHp} {f : Int} {l : Nat} (hk : zOk (g 86)) (hl : l < 4) (hf : 0 ≤ f ∧ f < 5) : sh_Mo_far N f l g = some (zfar (g 86) f.toNat l) := by
  unfold sh_Mo_far
  have e1 : (10 + 3 * f).toNat = 10 + 3 * f.toNat := by omega
  have e2 : (10 + 3 * f + 1).toNat = 11 + 3 * f.toNat := by omega
  have e3 : (25 + 4 * (l : Int)).toNat = 25 + 4 * l := by omega
  have e4 : (25 + 4 * (l : Int) + 1).toNat = 26 + 4 * l := by omega
  have k1 := hk.2.1 f.toNat (by omega)
  have k2 := hk.2.2.1 l hl
  simp (disch := omega) only [zst_if, zup1_ne, zup1_eq, w32_s, rget_in, rput_in, zgrd, Nat.reduceEqDiff, Nat.reduceAdd, ↓reduceIte, Int.reduceToNat, zb1_some, zb2_some, zb3_some, zb4_some, zb5_some, Int.toNat_natCast, true_and, and_true, e1, e2, e3, e4]
  rw [zgap_s k1.1 k2.1, zgap_s k1.2.1 k2.2.1]
  have b1 := zgp_b k1.1 k2.1
  have b2 := zgp_b k1.2.1 k2.2.1
  rw [w32_s (by omega) (by omega)]
  rfl
theorem zname_r {N : Nat} {g : zHp} (hk : zOk (g 86)) {o l : Nat} {f p y hr : Int} (ho : o < 8) (hl : l < 4) (hf : -1 ≤ f ∧ f < 5) :
    ∃ g1, sh_Mo_name N o f p l y hr g = some g1 ∧ (∀ i, i ≤ 8 → g1 91 i = zna (g 86) o f p l y hr i) ∧ zFr [91] g g1 := by
  -- behind the name of own
  have hj : ∀ (v : Int) (g2 : zHp), (g2 91 0 = hr ∧ g2 91 1 = p ∧ g2 91 2 = f ∧ g2 91 3 = g 86 (44 + 8 * o)) → zFr [91] g g2 → v = (if 0 ≤ f ∧ (g 86 (41 + 8 * o) = f ∨ g 86 (42 + 8 * o) = f) then 1 else 0) → ∃ g1, sh_Mo_name_J43 N o f l y 4 v g2 = some g1 ∧ (∀ i, i ≤ 8 → g1 91 i = zna (g 86) o f p l y hr i) ∧ zFr [91] g g1 := by
    rintro v g2 ⟨q0, q1, q2, q3⟩ fr hv
    have e86 : g2 86 = g 86 := fr 86 (by decide)
    have h55 : ∀ u : Int, u = (if f < 0 then 0 else zfar (g 86) f.toNat l) → ∃ g1, sh_Mo_name_J55 N o y 5 u (zst g2 91 4 v) = some g1 ∧ (∀ i, i ≤ 8 → g1 91 i = zna (g 86) o f p l y hr i) ∧ zFr [91] g g1 := by
      intro u hu
      refine ⟨zst (zst (zst (zst (zst g2 91 4 v) 91 5 u) 91 6 y) 91 7 o) 91 8 (g 86 (43 + 8 * o)), ?_, ?_, ((((fr.st (by decide)).st (by decide)).st (by decide)).st (by decide)).st (by decide)⟩
      · unfold sh_Mo_name_J55
        simp (disch := omega) only [zst_if, zup1_ne, zup1_eq, w32_s, rget_in, rput_in, zgrd, Nat.reduceEqDiff, Nat.reduceAdd, ↓reduceIte, Int.reduceToNat, zb1_some, zb2_some, zb3_some, zb4_some, zb5_some, Int.toNat_natCast, true_and, and_true, told_s, e86]
        rw [show 41 + 8 * o + 2 = 43 + 8 * o by omega]
      · intro i hi
        unfold zna
        have hc : i = 0 ∨ i = 1 ∨ i = 2 ∨ i = 3 ∨ i = 4 ∨ i = 5 ∨ i = 6 ∨ i = 7 ∨ i = 8 := by omega
        rcases hc with rfl | rfl | rfl | rfl | rfl | rfl | rfl | rfl | rfl
        · simp (disch := omega) only [zst_if, zup1_ne, zup1_eq, w32_s, rget_in, rput_in, zgrd, Nat.reduceEqDiff, Nat.reduceAdd, ↓reduceIte, Int.reduceToNat, zb1_some, zb2_some, zb3_some, zb4_some, zb5_some, Int.toNat_natCast, true_and, and_true]; exact q0
        · simp (disch := omega) only [zst_if, zup1_ne, zup1_eq, w32_s, rget_in, rput_in, zgrd, Nat.reduceEqDiff, Nat.reduceAdd, ↓reduceIte, Int.reduceToNat, zb1_some, zb2_some, zb3_some, zb4_some, zb5_some, Int.toNat_natCast, true_and, and_true]; exact q1
        · simp (disch := omega) only [zst_if, zup1_ne, zup1_eq, w32_s, rget_in, rput_in, zgrd, Nat.reduceEqDiff, Nat.reduceAdd, ↓reduceIte, Int.reduceToNat, zb1_some, zb2_some, zb3_some, zb4_some, zb5_some, Int.toNat_natCast, true_and, and_true]; exact q2
        · simp (disch := omega) only [zst_if, zup1_ne, zup1_eq, w32_s, rget_in, rput_in, zgrd, Nat.reduceEqDiff, Nat.reduceAdd, ↓reduceIte, Int.reduceToNat, zb1_some, zb2_some, zb3_some, zb4_some, zb5_some, Int.toNat_natCast, true_and, and_true]; exact q3
        · simp (disch := omega) only [zst_if, zup1_ne, zup1_eq, w32_s, rget_in, rput_in, zgrd, Nat.reduceEqDiff, Nat.reduceAdd, ↓reduceIte, Int.reduceToNat, zb1_some, zb2_some, zb3_some, zb4_some, zb5_some, Int.toNat_natCast, true_and, and_true]; exact hv
        · simp (disch := omega) only [zst_if, zup1_ne, zup1_eq, w32_s, rget_in, rput_in, zgrd, Nat.reduceEqDiff, Nat.reduceAdd, ↓reduceIte, Int.reduceToNat, zb1_some, zb2_some, zb3_some, zb4_some, zb5_some, Int.toNat_natCast, true_and, and_true]; exact hu
        · simp (disch := omega) only [zst_if, zup1_ne, zup1_eq, w32_s, rget_in, rput_in, zgrd, Nat.reduceEqDiff, Nat.reduceAdd, ↓reduceIte, Int.reduceToNat, zb1_some, zb2_some, zb3_some, zb4_some, zb5_some, Int.toNat_natCast, true_and, and_true]
        · simp (disch := omega) only [zst_if, zup1_ne, zup1_eq, w32_s, rget_in, rput_in, zgrd, Nat.reduceEqDiff, Nat.reduceAdd, ↓reduceIte, Int.reduceToNat, zb1_some, zb2_some, zb3_some, zb4_some, zb5_some, Int.toNat_natCast, true_and, and_true]
        · simp (disch := omega) only [zst_if, zup1_ne, zup1_eq, w32_s, rget_in, rput_in, zgrd, Nat.reduceEqDiff, Nat.reduceAdd, ↓reduceIte, Int.reduceToNat, zb1_some, zb2_some, zb3_some, zb4_some, zb5_some, Int.toNat_natCast, true_and, and_true]
    unfold sh_Mo_name_J43
    rw [if_pos (by decide)]
    by_cases c : 0 ≤ f
    · rw [if_pos c, zfar_r (by simp (disch := omega) only [zst_if, zup1_ne, zup1_eq, w32_s, rget_in, rput_in, zgrd, Nat.reduceEqDiff, Nat.reduceAdd, ↓reduceIte, Int.reduceToNat, zb1_some, zb2_some, zb3_some, zb4_some, zb5_some, Int.toNat_natCast, true_and, and_true, e86]; exact hk) hl (by omega)]
      simp only [zb1_some]
      exact h55 _ (by rw [if_neg (by omega)]; simp (disch := omega) only [zst_if, zup1_ne, zup1_eq, w32_s, rget_in, rput_in, zgrd, Nat.reduceEqDiff, Nat.reduceAdd, ↓reduceIte, Int.reduceToNat, zb1_some, zb2_some, zb3_some, zb4_some, zb5_some, Int.toNat_natCast, true_and, and_true, e86])
    · rw [if_neg c]
      exact h55 0 (by rw [if_pos (by omega)])
  have f0 : zFr [91] g (zst (zst (zst (zst g 91 0 hr) 91 1 p) 91 2 f) 91 3 (g 86 (44 + 8 * o))) := ((((zFr.refl g).st (by decide)).st (by decide)).st (by decide)).st (by decide)
  have f1 : (zst (zst (zst (zst g 91 0 hr) 91 1 p) 91 2 f) 91 3 (g 86 (44 + 8 * o))) 91 0 = hr ∧ (zst (zst (zst (zst g 91 0 hr) 91 1 p) 91 2 f) 91 3 (g 86 (44 + 8 * o))) 91 1 = p ∧ (zst (zst (zst (zst g 91 0 hr) 91 1 p) 91 2 f) 91 3 (g 86 (44 + 8 * o))) 91 2 = f ∧ (zst (zst (zst (zst g 91 0 hr) 91 1 p) 91 2 f) 91 3 (g 86 (44 + 8 * o))) 91 3 = g 86 (44 + 8 * o) := by
    refine ⟨?_, ?_, ?_, ?_⟩ <;> simp (disch := omega) only [zst_if, zup1_ne, zup1_eq, w32_s, rget_in, rput_in, zgrd, Nat.reduceEqDiff, Nat.reduceAdd, ↓reduceIte, Int.reduceToNat, zb1_some, zb2_some, zb3_some, zb4_some, zb5_some, Int.toNat_natCast, true_and, and_true]
  unfold sh_Mo_name
  have t3 : 41 + 8 * o + 3 = 44 + 8 * o := by omega
  have t1 : 41 + 8 * o + 1 = 42 + 8 * o := by omega
  rw [told_s (by omega) (by omega) (by decide) (by decide)]
  simp only [zb1_some, Int.reduceToNat, Int.toNat_natCast, t3]
  rw [show zst (zst (zst g 91 0 hr) 91 1 p) 91 2 f 86 (44 + 8 * o) = g 86 (44 + 8 * o) by simp (disch := omega) only [zst_if, zup1_ne, zup1_eq, w32_s, rget_in, rput_in, zgrd, Nat.reduceEqDiff, Nat.reduceAdd, ↓reduceIte, Int.reduceToNat, zb1_some, zb2_some, zb3_some, zb4_some, zb5_some, Int.toNat_natCast, true_and, and_true]]
  by_cases c : f < 0
  · rw [if_pos c]
    exact hj _ _ f1 f0 (by rw [if_neg (by omega)])
  · rw [if_neg c, told_s (by omega) (by omega) (by decide) (by decide)]
    simp only [zb1_some, Int.reduceToNat, Int.toNat_natCast, Nat.add_zero]
    rw [f0 86 (by decide)]
    by_cases c1 : g 86 (41 + 8 * o) = f
    · rw [if_pos c1]
      exact hj _ _ f1 f0 (by rw [if_pos ⟨by omega, Or.inl c1⟩])
    · rw [if_neg c1, told_s (by omega) (by omega) (by decide) (by decide)]
      simp only [zb1_some, Int.reduceToNat, Int.toNat_natCast, t1]
      rw [f0 86 (by decide)]
      refine hj _ _ f1 f0 ?_
      by_cases c2 : g 86 (42 + 8 * o) = f
      · rw [if_pos c2, if_pos ⟨by omega, Or.inr c2⟩]
      · rw [if_neg c2, if_neg (fun q => q.2.elim c1 c2)]
/-! who heeds -/
def zHv (a : zFn) (T : Nat → Nat → List Int) (o : Nat) (f p : Int) (l : Nat) (y hr : Int) : Int := zVal (zna a o f p l y hr) (zcL a T 0) (zna a o f p l y hr 4)
def zSd (a : zFn) (T : Nat → Nat → List Int) (o : Nat) (f p : Int) (l : Nat) (y hr : Int) : Int := zVal (zna a o f p l y hr) (zcL a T 1) 0
theorem zNok_8 {c i : Nat} (hc : c < 4) (h : zNok (c : Int) i = true) : i ≤ 8 := by
  unfold zNok at h
  rw [if_neg (by omega)] at h
  split at h
  · have := of_decide_eq_true h; omega
  · have := of_decide_eq_true h; omega
theorem zna_4 {a : zFn} {o l : Nat} {f p y hr : Int} : zna a o f p l y hr 4 = 0 ∨ zna a o f p l y hr 4 = 1 := by
  show (if _ then (1 : Int) else 0) = 0 ∨ (if _ then (1 : Int) else 0) = 1
  split
  · exact Or.inr rfl
  · exact Or.inl rfl
theorem zb01 {v : Int} (h : v = 0 ∨ v = 1) : (if v = 0 then (0 : Int) else 1) = v := by
  rcases h with rfl | rfl <;> rfl
theorem zYB (y : Int) : zB6 (if y = 0 then 0 else 1) := by
  split <;> exact ⟨by decide, by decide⟩
theorem zheed_c {h : zHp} {a : zFn} {T : Nat → Nat → List Int} {N : Nat} (hN : 1300 ≤ N) (K : zKc h a T) {o l : Nat} {f p y hr : Int} (ho : (o : Int) < a 2) (hl : l < 4) (hf : -1 ≤ f ∧ f < 5) (hp : zB6 p) (hy : zB6 y) (hh : zB6 hr) (hag : ∀ i, i ≤ 8 → h 35 i = zna a o f p l y hr i) :
    ∃ h1, sh_Laws_heeded N h = some (zHv a T o f p l y hr, h1) ∧ zFr [37] h h1 ∧ (zHv a T o f p l y hr = 0 ∨ zHv a T o f p l y hr = 1) := by
  have hk := K.1.2
  obtain ⟨h1, e1, g1, r1⟩ := zval_c (c := 0) (x := 0) (w := h 35 4) (nm := zna a o f p l y hr) hN K (by decide) rfl (fun i _ _ => zna_b hk ho hl hf hp hy hh i) (fun i _ hi => hag i (zNok_8 (c := 0) (by decide) hi))
  have hb : zVal (zna a o f p l y hr) (zcL a T 0) (h 35 4) = 0 ∨ zVal (zna a o f p l y hr) (zcL a T 0) (h 35 4) = 1 := by
    by_cases z : zcL a T 0 = []
    · unfold zVal
      rw [if_pos z, hag 4 (by decide)]
      exact zna_4
    · exact (r1 z).2 (by decide)
  have e4 := hag 4 (by decide)
  rw [e4] at e1 hb
  refine ⟨h1, ?_, g1, hb⟩
  unfold sh_Laws_heeded
  rw [rget_in (by decide) (by decide), show (4 : Int).toNat = 4 from rfl, e4, e1]
  simp only [zb2_some]
  rw [zb01 hb]
  rfl
theorem zhd_c {h : zHp} {a : zFn} {T : Nat → Nat → List Int} {N : Nat} (hN : 1300 ≤ N) (K : zKc h a T) {o l : Nat} {f p y hr : Int} (ho : (o : Int) < a 2) (hl : l < 4) (hf : -1 ≤ f ∧ f < 5) (hp : zB6 p) (hh : zB6 hr) :
    ∃ h1, sh_Laws_heeded N (sh_Laws_ask o f p l y hr h) = some (zHv a T o f p l (if y = 0 then 0 else 1) hr, h1) ∧ zFr [33, 35, 37] h h1 ∧ h1 33 4 = o ∧ (∀ i, i ≤ 8 → h1 35 i = zna a o f p l (if y = 0 then 0 else 1) hr i) ∧ (zHv a T o f p l (if y = 0 then 0 else 1) hr = 0 ∨ zHv a T o f p l (if y = 0 then 0 else 1) hr = 1) := by
  have b2 := K.1.2.1.2.2.1
  obtain ⟨h1, e1, n1, m1, g1⟩ := zask_c K.1.1 K.1.2 (o := o) (l := l) (f := f) (p := p) (y := y) (hr := hr) (by omega) hl hf
  obtain ⟨h2, e2, g2, r2⟩ := zheed_c hN (zKc_fr K g1 (by simp)) ho hl hf hp (zYB y) hh n1
  refine ⟨h2, by rw [e1]; exact e2, (g1.mono (by simp)).trans (g2.mono (by simp)), by rw [g2 33 (by decide)]; exact m1, fun i hi => by rw [g2 35 (by decide)]; exact n1 i hi, r2⟩
theorem zsec_c {h : zHp} {a : zFn} {T : Nat → Nat → List Int} {N : Nat} (hN : 1300 ≤ N) (K : zKc h a T) {o l : Nat} {f p y hr : Int} (ho : (o : Int) < a 2) (hl : l < 4) (hf : -1 ≤ f ∧ f < 5) (hp : zB6 p) (hy : zB6 y) (hh : zB6 hr) (h33 : h 33 4 = o) (hag : ∀ i, i ≤ 8 → h 35 i = zna a o f p l y hr i) :
    ∃ h1, sh_Laws_toSecond N h = some (if a (42 + 8 * o) = -1 then 0 else zSd a T o f p l y hr, h1) ∧ zFr [37] h h1 ∧ (zSd a T o f p l y hr = 0 ∨ zSd a T o f p l y hr = 1) := by
  have hk := K.1.2
  have b2 := hk.1.2.2.1
  obtain ⟨h1, e1, g1, r1⟩ := zval_c (c := 1) (x := 1) (w := 0) (nm := zna a o f p l y hr) hN K (by decide) rfl (fun i _ _ => zna_b hk ho hl hf hp hy hh i) (fun i _ hi => hag i (zNok_8 (c := 1) (by decide) hi))
  have hb : zSd a T o f p l y hr = 0 ∨ zSd a T o f p l y hr = 1 := by
    unfold zSd
    by_cases z : zcL a T 1 = []
    · unfold zVal
      rw [if_pos z]
      exact Or.inl rfl
    · exact (r1 z).2 (by decide)
  have ha : h 16 (42 + 8 * o - 41 + 7) = a (42 + 8 * o) := by
    have := K.1.1.2.2.2.1 o (by omega) 1 (by decide)
    simp only [Nat.reduceAdd] at this
    rw [show 42 + 8 * o - 41 + 7 = 7 + 8 * o + 1 by omega, this, show 41 + 8 * o + 1 = 42 + 8 * o by omega]
  unfold sh_Laws_toSecond
  rw [h33, get_s (by omega) (by omega) (by decide) (by decide), Int.toNat_natCast, show (1 : Int).toNat = 1 from rfl, show 7 + 8 * o + 1 = 42 + 8 * o - 41 + 7 by omega, ha]
  by_cases c : a (42 + 8 * o) = -1
  · rw [if_pos c, if_pos c]
    exact ⟨h, rfl, zFr.refl h, hb⟩
  · rw [if_neg c, if_neg c, e1]
    simp only [zb2_some]
    refine ⟨h1, ?_, g1, hb⟩
    exact congrArg (fun v => some (v, h1)) (zb01 hb)
theorem zheed_r {g : zHp} {T : Nat → Nat → List Int} {N : Nat} (hN : 1300 ≤ N) (K : zKr g T) {o l : Nat} {f p y hr : Int} (ho : (o : Int) < g 86 2) (hl : l < 4) (hf : -1 ≤ f ∧ f < 5) (hp : zB6 p) (hy : zB6 y) (hh : zB6 hr) (hag : ∀ i, i ≤ 8 → g 91 i = zna (g 86) o f p l y hr i) :
    ∃ g1, sh_Mo_isHeeded N g = some (zHv (g 86) T o f p l y hr, g1) ∧ zFr [92, 93] g g1 ∧ (zHv (g 86) T o f p l y hr = 0 ∨ zHv (g 86) T o f p l y hr = 1) := by
  obtain ⟨k, e, r⟩ := zcof_r hN K (c := 0) (by decide) (x := 0) rfl
  unfold sh_Mo_isHeeded
  rw [e]
  simp only [zb1_some]
  rcases r with ⟨z, rfl⟩ | ⟨t, m, km, h5, t4, ka, kw⟩
  · rw [if_neg (by decide)]
    rw [hag 4 (by decide)]
    unfold zHv zVal
    rw [if_pos z]
    refine ⟨g, ?_, zFr.refl g, zna_4⟩
    rcases zna_4 (a := g 86) (o := o) (l := l) (f := f) (p := p) (y := y) (hr := hr) with q | q
    · rw [q]; rfl
    · rw [q]; rfl
  · rw [if_pos (by omega)]
    obtain ⟨g1, e1, f1, r1, -⟩ := zwrk_r hN (c := 0) (w := zna (g 86) o f p l y hr 4) (nm := zna (g 86) o f p l y hr) km h5 t4 ka kw (fun i _ _ => zna_b K.1 ho hl hf hp hy hh i) (fun i _ hi => hag i (zNok_8 (c := 0) (by decide) hi))
    rw [e1]
    simp only [zb1_some]
    exact ⟨g1, by rw [(r1 (by decide)).1]; rfl, f1, (r1 (by decide)).2⟩
theorem zhd_r {g : zHp} {T : Nat → Nat → List Int} {N : Nat} (hN : 1300 ≤ N) (K : zKr g T) {o l : Nat} {f p y hr : Int} (ho : (o : Int) < g 86 2) (hl : l < 4) (hf : -1 ≤ f ∧ f < 5) (hp : zB6 p) (hy : zB6 y) (hh : zB6 hr) :
    ∃ g1 g2, sh_Mo_name N o f p l y hr g = some g1 ∧ sh_Mo_isHeeded N g1 = some (zHv (g 86) T o f p l y hr, g2) ∧ zFr [91, 92, 93] g g2 ∧ (∀ i, i ≤ 8 → g2 91 i = zna (g 86) o f p l y hr i) ∧ (zHv (g 86) T o f p l y hr = 0 ∨ zHv (g 86) T o f p l y hr = 1) := by
  have b2 := K.1.1.2.2.1
  obtain ⟨g1, e1, n1, f1⟩ := zname_r (N := N) K.1 (o := o) (l := l) (f := f) (p := p) (y := y) (hr := hr) (by omega) hl hf
  have e86 := f1 86 (by decide)
  obtain ⟨g2, e2, f2, b2⟩ := zheed_r hN (zKr_eq K e86 (f1 88 (by decide))) (o := o) (l := l) (f := f) (p := p) (y := y) (hr := hr) (by rw [e86]; exact ho) hl hf hp hy hh (by rw [e86]; exact n1)
  rw [e86] at e2 b2
  exact ⟨g1, g2, e1, e2, (f1.mono (by simp)).trans (f2.mono (by simp)), fun i hi => by rw [f2 91 (by decide)]; exact n1 i hi, b2⟩
theorem zgoal_r {g : zHp} {T : Nat → Nat → List Int} {N : Nat} (hN : 1300 ≤ N) (K : zKr g T) {o l : Nat} {f p y hr : Int} (ho : (o : Int) < g 86 2) (hl : l < 4) (hf : -1 ≤ f ∧ f < 5) (hp : zB6 p) (hy : zB6 y) (hh : zB6 hr) (hag : ∀ i, i ≤ 8 → g 91 i = zna (g 86) o f p l y hr i) :
    ∃ g1, sh_Mo_goal N g = some (if g 86 (42 + 8 * o) = -1 ∨ zSd (g 86) T o f p l y hr = 0 then g 86 (41 + 8 * o) else g 86 (42 + 8 * o), g1) ∧ zFr [92, 93] g g1 ∧ (g 86 (42 + 8 * o) ≠ -1 → zSd (g 86) T o f p l y hr = 0 ∨ zSd (g 86) T o f p l y hr = 1) := by
  have b2 := K.1.1.2.2.1
  have bs := (K.1.2.2.2.1 o ho).2.1
  obtain ⟨k, e, r⟩ := zcof_r hN K (c := 1) (by decide) (x := 1) rfl
  have e7 : g 91 7 = o := hag 7 (by decide)
  have t1 : 41 + 8 * o + 1 = 42 + 8 * o := by omega
  unfold sh_Mo_goal
  rw [e]
  simp only [zb1_some, e7]
  rcases r with ⟨z, rfl⟩ | ⟨t, m, km, h5, t4, ka, kw⟩
  · rw [if_pos (by decide), told_s (by omega) (by omega) (by decide) (by decide)]
    simp only [zb1_some, Int.reduceToNat, Int.toNat_natCast, Nat.add_zero]
    have : zSd (g 86) T o f p l y hr = 0 := by unfold zSd zVal; rw [if_pos z]
    refine ⟨g, ?_, zFr.refl g, fun _ => Or.inl this⟩
    rw [if_pos (Or.inr this)]
  · rw [if_neg (by omega), told_s (by omega) (by omega) (by decide) (by decide)]
    simp only [zb1_some, Int.reduceToNat, Int.toNat_natCast, t1]
    by_cases c : g 86 (42 + 8 * o) = -1
    · rw [if_neg (by omega), told_s (by omega) (by omega) (by decide) (by decide)]
      simp only [zb1_some, Int.reduceToNat, Int.toNat_natCast, Nat.add_zero]
      refine ⟨g, ?_, zFr.refl g, fun n => absurd c n⟩
      rw [if_pos (Or.inl c)]
    · rw [if_pos (by omega)]
      obtain ⟨g1, e1, f1, r1, -⟩ := zwrk_r hN (c := 1) (w := 0) (nm := zna (g 86) o f p l y hr) km h5 t4 ka kw (fun i _ _ => zna_b K.1 ho hl hf hp hy hh i) (fun i _ hi => hag i (zNok_8 (c := 1) (by decide) hi))
      have ev : g1 93 0 = zSd (g 86) T o f p l y hr := (r1 (by decide)).1
      rw [e1]
      simp only [zb1_some]
      rw [ev, told_s (by omega) (by omega) (by decide) (by decide), told_s (by omega) (by omega) (by decide) (by decide)]
      simp only [zb1_some, Int.reduceToNat, Int.toNat_natCast, Nat.add_zero, t1, f1 86 (by decide)]
      refine ⟨g1, ?_, f1, fun _ => (r1 (by decide)).2⟩
      by_cases q : zSd (g 86) T o f p l y hr = 0
      · rw [if_pos q, if_pos (Or.inr q)]
      · rw [if_neg q, if_neg (fun u => u.elim c q)]
