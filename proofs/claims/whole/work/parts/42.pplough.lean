/-! PURE: work, and plough -/
def znw (a : zFn) (o m l : Nat) (hr : Int) : zFn := fun i => if i = 0 then hr else if i = 8 then a (43 + 8 * o) + a (43 + 8 * m) else if i = 9 then zmin (a (43 + 8 * o)) (a (43 + 8 * m)) else if i = 10 then a (27 + 4 * l) else 0
def zhl (v lo hi : Int) : Int := if v < lo then lo else if hi < v then hi else v
def zWk (a : zFn) (T : Nat → Nat → List Int) (o m l : Nat) (hr : Int) : Int := zhl (zVal (znw a o m l hr) (zcL a T 4) (a (43 + 8 * o) + a (43 + 8 * m))) 0 99
theorem zWk_b {a : zFn} {T : Nat → Nat → List Int} {o m l : Nat} {hr : Int} : 0 ≤ zWk a T o m l hr ∧ zWk a T o m l hr ≤ 99 := by
  unfold zWk zhl
  split
  · omega
  · split <;> omega
theorem zbtw_s {v lo hi : Int} (hv : zB6 v) : sh_Laws_between v lo hi = zhl v lo hi := by
  unfold sh_Laws_between zhl
  simp only [zcmp_ge, zcmp_le]
  unfold zB6 at hv
  by_cases h1 : v < lo
  · rw [if_neg (by omega), if_pos h1]
  · rw [if_pos (by omega), if_neg h1]
    by_cases h2 : hi < v
    · rw [if_neg (by omega), if_pos h2]
    · rw [if_pos (by omega), if_neg h2, w32_s (by omega) (by omega)]
theorem zheld_s {v lo hi : Int} (hv : zB6 v) : sh_Mo_held v lo hi = zhl v lo hi := zbtw_s hv
theorem zmin_b {x y lo hi : Int} (hx : lo ≤ x ∧ x ≤ hi) (hy : lo ≤ y ∧ y ≤ hi) : lo ≤ zmin x y ∧ zmin x y ≤ hi := by
  unfold zmin
  split
  · exact hx
  · exact hy
theorem znw_b {a : zFn} (hk : zOk a) {o m l : Nat} {hr : Int} (ho : (o : Int) < a 2) (hm : (m : Int) < a 2) (hl : l < 4) (hh : zB6 hr) (i : Nat) : zB6 (znw a o m l hr i) := by
  have o1 := (hk.2.2.2.1 o ho).2
  have m1 := (hk.2.2.2.1 m hm).2
  have l1 := hk.2.2.1 l hl
  have z := zmin_b (x := a (43 + 8 * o)) (y := a (43 + 8 * m)) (lo := 1) (hi := 9) o1.2.1 m1.2.1
  unfold znw
  split
  · exact hh
  split
  · unfold zB6; omega
  split
  · unfold zB6; omega
  split
  · unfold zB6; omega
  · exact ⟨by decide, by decide⟩
theorem zNok_4 {i : Nat} (h : zNok ((4 : Nat) : Int) i = true) : i = 0 ∨ 8 ≤ i ∧ i ≤ 10 := by
  unfold zNok at h
  rw [if_pos (by decide)] at h
  have := of_decide_eq_true h
  omega
theorem zVal_b6 {nm : zFn} {L : List Int} {w : Int} (hw : zB6 w) (h : L ≠ [] → zB6 (zVal nm L w)) : zB6 (zVal nm L w) := by
  by_cases z : L = []
  · unfold zVal; rw [if_pos z]; exact hw
  · exact h z
theorem zwork_c {h : zHp} {a : zFn} {T : Nat → Nat → List Int} {N : Nat} (hN : 1300 ≤ N) (K : zKc h a T) {o m l : Nat} {hr : Int} (ho : (o : Int) < a 2) (hm : (m : Int) < a 2) (hl : l < 4) (hh : zB6 hr) :
    ∃ h1, sh_Laws_work N o m l hr h = some (zWk a T o m l hr, h1) ∧ zFr [35, 37] h h1 := by
  have hk := K.1.2
  have b2 := hk.1.2.2.1
  have o1 := (hk.2.2.2.1 o ho).2
  have m1 := (hk.2.2.2.1 m hm).2
  have y3 := K.1.1.2.2.1 l hl
  have y4 := K.1.1.2.2.2.1
  simp only [Nat.reduceAdd] at y3 y4
  have go : h 16 (7 + 8 * o + 2) = a (43 + 8 * o) := by rw [y4 o (by omega) 2 (by decide)]; congr 1; omega
  have gm : h 16 (7 + 8 * m + 2) = a (43 + 8 * m) := by rw [y4 m (by omega) 2 (by decide)]; congr 1; omega
  unfold sh_Laws_work
  simp only [get_s (x := (o : Int)) (h := h) (by omega) (by omega) (w := 2) (by decide) (by decide), get_s (x := (m : Int)) (h := h) (by omega) (by omega) (w := 2) (by decide) (by decide), Int.toNat_natCast, Int.reduceToNat, go, gm]
  rw [w32_s (by omega) (by omega)]
  have esoil : ∀ h2 : zHp, h2 13 = h 13 → rget h2 13 4 (l : Int) = a (27 + 4 * l) := fun h2 e => by
    rw [rget_in (by omega) (by omega), e, Int.toNat_natCast]; exact y3.2.2.1
  rw [esoil _ (by simp (disch := omega) only [zst_if, zup1_ne, zup1_eq, w32_s, rget_in, rput_in, zgrd, Nat.reduceEqDiff, Nat.reduceAdd, ↓reduceIte, Int.reduceToNat, zb1_some, zb2_some, zb3_some, zb4_some, zb5_some, Int.toNat_natCast, true_and, and_true])]
  generalize hh2 : rput (rput (rput (rput h 35 11 0 hr) 35 11 8 (a (43 + 8 * o) + a (43 + 8 * m))) 35 11 9 (zmin (a (43 + 8 * o)) (a (43 + 8 * m)))) 35 11 10 (a (27 + 4 * l)) = h2
  have fr : zFr [35] h h2 := by
    rw [← hh2]
    exact ((((zFr.refl h).rp (by decide)).rp (by decide)).rp (by decide)).rp (by decide)
  have K2 : zKc h2 a T := zKc_fr K fr (by decide)
  obtain ⟨h3, e3, f3, r3⟩ := zval_c (c := 4) (x := 4) (w := a (43 + 8 * o) + a (43 + 8 * m)) (nm := znw a o m l hr) hN K2 (by decide) rfl (fun i _ _ => znw_b hk ho hm hl hh i) (fun i _ hi => by
    rw [← hh2]
    rcases zNok_4 hi with rfl | hi
    · simp (disch := omega) only [zst_if, zup1_ne, zup1_eq, w32_s, rget_in, rput_in, zgrd, Nat.reduceEqDiff, Nat.reduceAdd, ↓reduceIte, Int.reduceToNat, zb1_some, zb2_some, zb3_some, zb4_some, zb5_some, Int.toNat_natCast, true_and, and_true]
      rfl
    · have : i = 8 ∨ i = 9 ∨ i = 10 := by omega
      rcases this with rfl | rfl | rfl
      · simp (disch := omega) only [zst_if, zup1_ne, zup1_eq, w32_s, rget_in, rput_in, zgrd, Nat.reduceEqDiff, Nat.reduceAdd, ↓reduceIte, Int.reduceToNat, zb1_some, zb2_some, zb3_some, zb4_some, zb5_some, Int.toNat_natCast, true_and, and_true]; rfl
      · simp (disch := omega) only [zst_if, zup1_ne, zup1_eq, w32_s, rget_in, rput_in, zgrd, Nat.reduceEqDiff, Nat.reduceAdd, ↓reduceIte, Int.reduceToNat, zb1_some, zb2_some, zb3_some, zb4_some, zb5_some, Int.toNat_natCast, true_and, and_true]; rfl
      · simp (disch := omega) only [zst_if, zup1_ne, zup1_eq, w32_s, rget_in, rput_in, zgrd, Nat.reduceEqDiff, Nat.reduceAdd, ↓reduceIte, Int.reduceToNat, zb1_some, zb2_some, zb3_some, zb4_some, zb5_some, Int.toNat_natCast, true_and, and_true]; rfl)
  rw [e3]
  simp only [zb2_some]
  rw [zbtw_s (zVal_b6 (by unfold zB6; omega) (fun z => (r3 z).1))]
  exact ⟨h3, rfl, (fr.mono (by simp)).trans (f3.mono (by simp))⟩
theorem zwork_r {g : zHp} {T : Nat → Nat → List Int} {N : Nat} (hN : 1300 ≤ N) (K : zKr g T) {o m l : Nat} {hr : Int} (ho : (o : Int) < g 86 2) (hm : (m : Int) < g 86 2) (hl : l < 4) (hh : zB6 hr) :
    ∃ g1, sh_Mo_workOf N o m l hr g = some (zWk (g 86) T o m l hr, g1) ∧ zFr [91, 92, 93] g g1 := by
  have hk := K.1
  have b2 := hk.1.2.2.1
  have o1 := (hk.2.2.2.1 o ho).2
  have m1 := (hk.2.2.2.1 m hm).2
  have to : ∀ g2 : zHp, g2 86 = g 86 → sh_Mo_told N o 2 g2 = some (g 86 (43 + 8 * o)) := fun g2 e => by
    rw [told_s (by omega) (by omega) (by decide) (by decide), Int.toNat_natCast, e, show 41 + 8 * o + (2 : Int).toNat = 43 + 8 * o by show 41 + 8 * o + 2 = _; omega]
  have tm : ∀ g2 : zHp, g2 86 = g 86 → sh_Mo_told N m 2 g2 = some (g 86 (43 + 8 * m)) := fun g2 e => by
    rw [told_s (by omega) (by omega) (by decide) (by decide), Int.toNat_natCast, e, show 41 + 8 * m + (2 : Int).toNat = 43 + 8 * m by show 41 + 8 * m + 2 = _; omega]
  obtain ⟨k, e, r⟩ := zcof_r hN K (c := 4) (by decide) (x := 4) rfl
  unfold sh_Mo_workOf
  rw [to g rfl, tm g rfl, e]
  simp only [zb1_some]
  rw [w32_s (by omega) (by omega)]
  rcases r with ⟨z, rfl⟩ | ⟨t, q, km, h5, t4, ka, kw⟩
  · rw [if_neg (by decide)]
    refine ⟨g, ?_, zFr.refl g⟩
    have : zWk (g 86) T o m l hr = g 86 (43 + 8 * o) + g 86 (43 + 8 * m) := by
      unfold zWk zVal zhl
      rw [if_pos z, if_neg (by omega), if_neg (by omega)]
    rw [this]
  · rw [if_pos (by omega)]
    have f86 : zst (zst g 91 0 hr) 91 8 (g 86 (43 + 8 * o) + g 86 (43 + 8 * m)) 86 = g 86 := by simp (disch := omega) only [zst_if, zup1_ne, zup1_eq, w32_s, rget_in, rput_in, zgrd, Nat.reduceEqDiff, Nat.reduceAdd, ↓reduceIte, Int.reduceToNat, zb1_some, zb2_some, zb3_some, zb4_some, zb5_some, Int.toNat_natCast, true_and, and_true]
    rw [to _ f86, tm _ f86]
    simp only [zb1_some]
    have hj : ∀ v : Int, v = zmin (g 86 (43 + 8 * o)) (g 86 (43 + 8 * m)) → ∃ g1, sh_Mo_workOf_J49 N l k 9 v (zst (zst g 91 0 hr) 91 8 (g 86 (43 + 8 * o) + g 86 (43 + 8 * m))) = some (zWk (g 86) T o m l hr, g1) ∧ zFr [91, 92, 93] g g1 := by
      intro v hv
      have ex : (25 + 4 * (l : Int) + 2).toNat = 27 + 4 * l := by omega
      unfold sh_Mo_workOf_J49
      simp (disch := omega) only [zst_if, zup1_ne, zup1_eq, w32_s, rget_in, rput_in, zgrd, Nat.reduceEqDiff, Nat.reduceAdd, ↓reduceIte, Int.reduceToNat, zb1_some, zb2_some, zb3_some, zb4_some, zb5_some, Int.toNat_natCast, true_and, and_true, ex]
      generalize hg2 : zst (zst (zst (zst g 91 0 hr) 91 8 (g 86 (43 + 8 * o) + g 86 (43 + 8 * m))) 91 9 v) 91 10 (g 86 (27 + 4 * l)) = g2
      have fr : zFr [91] g g2 := by
        rw [← hg2]
        exact ((((zFr.refl g).st (by decide)).st (by decide)).st (by decide)).st (by decide)
      have hka : zkat g2 t q (zcL (g 86) T 4) := by
        have := ka
        unfold zkat at this ⊢
        rw [fr 88 (by decide)]
        exact this
      obtain ⟨g3, e3, f3, -, r3⟩ := zwrk_r hN (c := 4) (w := g 86 (43 + 8 * o) + g 86 (43 + 8 * m)) (nm := znw (g 86) o m l hr) (h := g2) km (by rw [fr 86 (by decide)]; exact h5) t4 hka kw (fun i _ _ => znw_b hk ho hm hl hh i) (fun i _ hi => by
        rw [← hg2]
        rcases zNok_4 hi with rfl | hi
        · simp (disch := omega) only [zst_if, zup1_ne, zup1_eq, w32_s, rget_in, rput_in, zgrd, Nat.reduceEqDiff, Nat.reduceAdd, ↓reduceIte, Int.reduceToNat, zb1_some, zb2_some, zb3_some, zb4_some, zb5_some, Int.toNat_natCast, true_and, and_true]
          rfl
        · have : i = 8 ∨ i = 9 ∨ i = 10 := by omega
          rcases this with rfl | rfl | rfl
          · simp (disch := omega) only [zst_if, zup1_ne, zup1_eq, w32_s, rget_in, rput_in, zgrd, Nat.reduceEqDiff, Nat.reduceAdd, ↓reduceIte, Int.reduceToNat, zb1_some, zb2_some, zb3_some, zb4_some, zb5_some, Int.toNat_natCast, true_and, and_true]; rfl
          · simp (disch := omega) only [zst_if, zup1_ne, zup1_eq, w32_s, rget_in, rput_in, zgrd, Nat.reduceEqDiff, Nat.reduceAdd, ↓reduceIte, Int.reduceToNat, zb1_some, zb2_some, zb3_some, zb4_some, zb5_some, Int.toNat_natCast, true_and, and_true]; exact hv
          · simp (disch := omega) only [zst_if, zup1_ne, zup1_eq, w32_s, rget_in, rput_in, zgrd, Nat.reduceEqDiff, Nat.reduceAdd, ↓reduceIte, Int.reduceToNat, zb1_some, zb2_some, zb3_some, zb4_some, zb5_some, Int.toNat_natCast, true_and, and_true]; rfl)
      rw [e3]
      simp only [zb1_some]
      obtain ⟨r4, r5⟩ := r3 (by decide)
      rw [r4, zheld_s r5]
      exact ⟨g3, rfl, (fr.mono (by simp)).trans (f3.mono (by simp))⟩
    by_cases c : g 86 (43 + 8 * m) ≤ g 86 (43 + 8 * o)
    · rw [if_pos c]
      refine hj _ ?_
      unfold zmin
      split
      · omega
      · rfl
    · rw [if_neg c]
      refine hj _ ?_
      unfold zmin
      rw [if_pos (by omega)]
theorem zYc_lo {h h1 : zHp} {a a1 : zFn} (hy : zYc 0 h a) (hk : zOk a) (ei : ∀ id, id ≠ 16 → 1 ≤ id → id ≤ 23 → h1 id = h id) (e : ∀ j, j ≠ 3 → j ≠ 28 → j ≠ 32 → j ≠ 36 → j ≠ 40 → a1 j = a j)
    (e16 : ∀ j, 7 ≤ j ∨ j = 1 ∨ j = 2 → h1 16 j = h 16 j) (e0 : h1 16 0 = a1 3) (ef : ∀ k, k < 4 → h1 16 (3 + k) = a1 (28 + 4 * k)) : zYc 0 h1 a1 := by
  obtain ⟨y1, y2, y3, y4, y5, y6⟩ := hy
  simp only [Nat.reduceAdd] at y1 y2 y3 y4 y5 y6
  refine ⟨?_, ?_, ?_, ?_, ?_, ?_⟩ <;> simp only [Nat.reduceAdd]
  · rw [ei 1 (by omega) (by omega) (by omega), ei 17 (by omega) (by omega) (by omega), e0, e16 1 (by omega), e16 2 (by omega), e 0 (by omega) (by omega) (by omega) (by omega) (by omega), e 1 (by omega) (by omega) (by omega) (by omega) (by omega), e 2 (by omega) (by omega) (by omega) (by omega) (by omega), e 4 (by omega) (by omega) (by omega) (by omega) (by omega), e 5 (by omega) (by omega) (by omega) (by omega) (by omega), e 6 (by omega) (by omega) (by omega) (by omega) (by omega), e 7 (by omega) (by omega) (by omega) (by omega) (by omega)]
    exact ⟨y1.1, y1.2.1, y1.2.2.1, rfl, y1.2.2.2.2⟩
  · intro k hk
    rw [ei 3 (by omega) (by omega) (by omega), ei 5 (by omega) (by omega) (by omega), ei 7 (by omega) (by omega) (by omega), e _ (by omega) (by omega) (by omega) (by omega) (by omega), e _ (by omega) (by omega) (by omega) (by omega) (by omega), e _ (by omega) (by omega) (by omega) (by omega) (by omega)]; exact y2 k hk
  · intro k hk
    rw [ei 9 (by omega) (by omega) (by omega), ei 11 (by omega) (by omega) (by omega), ei 13 (by omega) (by omega) (by omega), ef k hk, e (25 + 4 * k) (by omega) (by omega) (by omega) (by omega) (by omega), e (26 + 4 * k) (by omega) (by omega) (by omega) (by omega) (by omega), e (27 + 4 * k) (by omega) (by omega) (by omega) (by omega) (by omega)]
    exact ⟨(y3 k hk).1, (y3 k hk).2.1, (y3 k hk).2.2.1, rfl⟩
  · intro o ho w hw
    rw [e16 _ (by omega), e _ (by omega) (by omega) (by omega) (by omega) (by omega)]; exact y4 o ho w hw
  · intro k hk
    rw [ei 21 (by omega) (by omega) (by omega), ei 23 (by omega) (by omega) (by omega), e _ (by omega) (by omega) (by omega) (by omega) (by omega), e _ (by omega) (by omega) (by omega) (by omega) (by omega)]; exact y5 k hk
  · intro k hk0
    rw [e 7 (by omega) (by omega) (by omega) (by omega) (by omega)] at hk0 ⊢
    rw [ei 17 (by omega) (by omega) (by omega), ei 19 (by omega) (by omega) (by omega)]
    have hr := (hk.s k hk0).1.2.2
    have h2 := hk.1.2.2.1
    refine zSp_mv (y6 k hk0) (fun _ _ => rfl) (fun j hj => e _ (by omega) (by omega) (by omega) (by omega) (by omega)) (fun o ho v v1 v2 => e _ (by omega) (by omega) (by omega) (by omega) (by omega)) ?_
    rw [show 121 + 47 * k + 2 = 123 + 47 * k by omega]; omega
theorem zOk_lo {a a1 : zFn} (hk : zOk a) (e : ∀ j, j ≠ 3 → j ≠ 28 → j ≠ 32 → j ≠ 36 → j ≠ 40 → a1 j = a j) (e3 : 0 ≤ a1 3 ∧ a1 3 ≤ 23) (ef : ∀ k, k < 4 → 0 ≤ a1 (28 + 4 * k) ∧ a1 (28 + 4 * k) ≤ 99) : zOk a1 := by
  have e' : ∀ j, j = 0 ∨ j = 1 ∨ j = 2 ∨ 4 ≤ j ∧ j < 28 ∨ 40 < j → a1 j = a j := fun j hj => e j (by omega) (by omega) (by omega) (by omega) (by omega)
  obtain ⟨k1, k2, k3, k4, k5, k6⟩ := hk
  refine ⟨?_, ?_, ?_, ?_, ?_, zOs_grow k6 (e' 7 (by omega)) (fun j hj => e' j (by omega)) ?_ ?_ ?_⟩
  · rw [e' 0 (by omega), e' 1 (by omega), e' 2 (by omega), e' 4 (by omega), e' 5 (by omega), e' 6 (by omega), e' 7 (by omega)]
    exact ⟨k1.1, k1.2.1, k1.2.2.1, e3, k1.2.2.2.2⟩
  · intro k hk
    rw [e' _ (by omega), e' _ (by omega), e' _ (by omega)]; exact k2 k hk
  · intro k hk
    rw [e (25 + 4 * k) (by omega) (by omega) (by omega) (by omega) (by omega), e (26 + 4 * k) (by omega) (by omega) (by omega) (by omega) (by omega), e (27 + 4 * k) (by omega) (by omega) (by omega) (by omega) (by omega)]
    exact ⟨(k3 k hk).1, (k3 k hk).2.1, (k3 k hk).2.2.1, ef k hk⟩
  · intro o ho
    rw [e' 2 (by omega)] at ho
    rw [e' 0 (by omega), e' 1 (by omega), e' 2 (by omega), e' _ (by omega), e' _ (by omega), e' _ (by omega), e' _ (by omega), e' _ (by omega), e' _ (by omega), e' _ (by omega), e' _ (by omega)]
    exact k4 o ho
  · intro k hk
    rw [e' 6 (by omega)] at hk
    rw [e' 0 (by omega), e' _ (by omega), e' _ (by omega)]; exact k5 k hk
  · rw [e' 0 (by omega)]; exact Int.le_refl _
  · rw [e' 1 (by omega)]; exact Int.le_refl _
  · rw [e' 2 (by omega)]; exact Int.le_refl _
/-! plough -/
def zpw (T : Nat → Nat → List Int) (a : zFn) (o : Nat) : Int := zmin (a (28 + 4 * (a (47 + 8 * o) - 10).toNat)) (zWk a T o (a (48 + 8 * o)).toNat (a (47 + 8 * o) - 10).toNat (a 3))
def zpl1 (T : Nat → Nat → List Int) (a : zFn) (o : Nat) : zFn := if a (48 + 8 * o) ≤ o then a else zup1 a (28 + 4 * (a (47 + 8 * o) - 10).toNat) (a (28 + 4 * (a (47 + 8 * o) - 10).toNat) - zpw T a o)
def zPl (T : Nat → Nat → List Int) : Nat → Nat → zFn → Int → Int × zFn
  | 0, _, a, s => (s, a)
  | d + 1, o, a, s => zPl T d (o + 1) (zpl1 T a o) (if a (48 + 8 * o) ≤ o then s else w32 (s + zpw T a o))
theorem zpl1_e {T : Nat → Nat → List Int} {a : zFn} {o : Nat} (hk : zOk a) (ho : (o : Int) < a 2) {j : Nat} (h : j < 28 ∨ 40 < j ∨ (j - 28) % 4 ≠ 0) : zpl1 T a o j = a j := by
  have hx := (hk.2.2.2.1 o ho).1
  have b1 := hk.1.2.1
  have b0 := hk.1.1
  unfold zOx at hx
  unfold zpl1
  split
  · rfl
  · rw [zup1_ne _ _ (by omega)]
theorem zpw_b {T : Nat → Nat → List Int} {a : zFn} {o : Nat} (hk : zOk a) (ho : (o : Int) < a 2) (hm : ¬ a (48 + 8 * o) ≤ o) : 0 ≤ zpw T a o ∧ zpw T a o ≤ a (28 + 4 * (a (47 + 8 * o) - 10).toNat) ∧ zpw T a o ≤ 99 ∧ 10 ≤ a (47 + 8 * o) ∧ a (47 + 8 * o) < 10 + a 1 ∧ a (48 + 8 * o) < a 2 ∧ 0 ≤ a (28 + 4 * (a (47 + 8 * o) - 10).toNat) ∧ a (28 + 4 * (a (47 + 8 * o) - 10).toNat) ≤ 99 := by
  have hx := (hk.2.2.2.1 o ho).1
  have b1 := hk.1.2.1
  have b0 := hk.1.1
  unfold zOx at hx
  have hf := hk.2.2.1 (a (47 + 8 * o) - 10).toNat (by omega)
  have hw := zWk_b (a := a) (T := T) (o := o) (m := (a (48 + 8 * o)).toNat) (l := (a (47 + 8 * o) - 10).toNat) (hr := a 3)
  unfold zpw zmin
  split <;> omega
theorem zpl1_ok {T : Nat → Nat → List Int} {a : zFn} {o : Nat} (hk : zOk a) (ho : (o : Int) < a 2) : zOk (zpl1 T a o) := by
  by_cases c : a (48 + 8 * o) ≤ o
  · unfold zpl1; rw [if_pos c]; exact hk
  · have hb := zpw_b (T := T) hk ho c
    refine zOk_lo hk (fun j h1 h2 h3 h4 h5 => zpl1_e hk ho (by omega)) ?_ (fun k hk4 => ?_)
    · rw [zpl1_e hk ho (by omega)]; exact hk.1.2.2.2.1
    · have hf := (hk.2.2.1 k hk4).2.2.2
      unfold zpl1
      rw [if_neg c, zup1_if]
      split
      · omega
      · exact hf
theorem zpl_c {T : Nat → Nat → List Int} (N : Nat) (hN : 1300 ≤ N) : ∀ (d n o : Nat) (h : zHp) (a : zFn) (s : Int), zKc h a T → (o : Int) + d = a 2 → d < n → ∃ h1, sh_Ox_plough_L11 N n s o h = some ((zPl T d o a s).1, h1) ∧ zKc h1 (zPl T d o a s).2 T ∧ (∀ j, (j < 28 ∨ 40 < j) → (zPl T d o a s).2 j = a j) ∧ zFr [16, 35, 37] h h1 := by
  intro d
  induction d with
  | zero =>
    intro n o h a s K ho hn
    obtain ⟨n, rfl⟩ : ∃ m, n = m + 1 := ⟨n - 1, by omega⟩
    refine ⟨h, ?_, K, fun _ _ => rfl, zFr.refl h⟩
    have e0 : h 16 2 = a 2 := K.1.1.1.2.2.1
    unfold sh_Ox_plough_L11
    rw [oxen_s, e0, if_pos (by omega)]
    rfl
  | succ d ih =>
    intro n o h a s K ho hn
    obtain ⟨n, rfl⟩ : ∃ m, n = m + 1 := ⟨n - 1, by omega⟩
    have hk := K.1.2
    have hy := K.1.1
    have e0 : h 16 2 = a 2 := hy.1.2.2.1
    have e3 : h 16 0 = a 3 := hy.1.2.2.2.1
    have b2 := hk.1.2.2.1
    have b3 := hk.1.2.2.2.1
    have b1 := hk.1.2.1
    have y3 := hy.2.2.1
    have y4 := hy.2.2.2.1
    simp only [Nat.reduceAdd] at y4 y3
    have g6 : h 16 (7 + 8 * o + 6) = a (47 + 8 * o) := by rw [y4 o (by omega) 6 (by decide)]; congr 1; omega
    have g7 : h 16 (7 + 8 * o + 7) = a (48 + 8 * o) := by rw [y4 o (by omega) 7 (by decide)]; congr 1; omega
    suffices hs : ∃ h1, zKc h1 (zpl1 T a o) T ∧ zFr [16, 35, 37] h h1 ∧ sh_Ox_plough_L11 N (n + 1) s o h = sh_Ox_plough_L11 N n (if a (48 + 8 * o) ≤ o then s else w32 (s + zpw T a o)) ((o + 1 : Nat) : Int) h1 by
      obtain ⟨h1, p1, p2, p3⟩ := hs
      obtain ⟨h2, q1, q2, q3, q4⟩ := ih n (o + 1) h1 (zpl1 T a o) (if a (48 + 8 * o) ≤ o then s else w32 (s + zpw T a o)) p1 (by rw [zpl1_e hk (by omega) (by omega)]; omega) (by omega)
      exact ⟨h2, p3.trans q1, q2, fun j hj => (q3 j hj).trans (zpl1_e hk (by omega) (by omega)), p2.trans q4⟩
    have e1 : w32 ((o : Int) + 1) = ((o + 1 : Nat) : Int) := by rw [w32_s (by omega) (by omega)]; omega
    conv => enter [1, h1, 2, 2, 1]; unfold sh_Ox_plough_L11
    rw [oxen_s, e0, if_neg (by omega), e1]
    simp only [get_s (x := (o : Int)) (h := h) (by omega) (by omega) (w := 6) (by decide) (by decide), get_s (x := (o : Int)) (h := h) (by omega) (by omega) (w := 7) (by decide) (by decide), Int.toNat_natCast, Int.reduceToNat, g6, g7, hour_s, e3]
    by_cases c : a (48 + 8 * o) ≤ o
    · rw [if_pos c, if_pos c]
      refine ⟨h, ?_, zFr.refl h, rfl⟩
      unfold zpl1
      rw [if_pos c]
      exact K
    · rw [if_neg c, if_neg c]
      obtain ⟨w0, w1, w2, w3, w4, w5, w6, w7⟩ := zpw_b (T := T) hk (o := o) (by omega) c
      obtain ⟨l, hl⟩ : ∃ l : Nat, a (47 + 8 * o) = 10 + (l : Int) := ⟨(a (47 + 8 * o) - 10).toNat, by omega⟩
      obtain ⟨m, hm⟩ : ∃ m : Nat, a (48 + 8 * o) = m := ⟨(a (48 + 8 * o)).toNat, by omega⟩
      have el : w32 (a (47 + 8 * o) - 10) = l := by rw [w32_s (by omega) (by omega)]; omega
      have el2 : (a (47 + 8 * o) - 10).toNat = l := by omega
      have em2 : (a (48 + 8 * o)).toNat = m := by omega
      rw [el2] at w1 w6 w7
      have gf : h 16 (3 + l) = a (28 + 4 * l) := (y3 l (by omega)).2.2.2
      obtain ⟨h1, p1, p2⟩ := zwork_c hN K (o := o) (m := m) (l := l) (hr := a 3) (by omega) (by omega) (by omega) (by unfold zB6; omega)
      rw [el, hm, p1]
      simp only [zb2_some]
      have ew : zmin (sh_Herd_furrows_14 (l : Int) h) (zWk a T o m l (a 3)) = zpw T a o := by
        rw [furr_s (by omega) (by omega), Int.toNat_natCast, gf]
        unfold zpw
        rw [el2, em2]
      have es : sh_Herd_setFurrows_14 (l : Int) (w32 (sh_Herd_furrows_14 (l : Int) h - zpw T a o)) h1 = zst h1 16 (3 + l) (a (28 + 4 * l) - zpw T a o) := by
        rw [setf_s (by omega) (by omega), furr_s (by omega) (by omega), Int.toNat_natCast, gf, w32_s (by omega) (by omega)]
      rw [ew, es]
      have K1 : zKc h1 a T := zKc_fr K p2 (by decide)
      refine ⟨_, ?_, (p2.mono (by simp)).st (by decide), rfl⟩
      refine ⟨⟨?_, zpl1_ok hk (by omega)⟩, fun t ht cc hc => ?_⟩
      · refine zYc_lo K1.1.1 hk (fun id u _ _ => by rw [zst_if, if_neg u]) (fun j h1 h2 h3 h4 h5 => zpl1_e hk (by omega) (by omega)) (fun j hj => by rw [zst_if, if_pos rfl, zup1_ne _ _ (by omega)]) ?_ (fun k hk4 => ?_)
        · rw [zst_if, if_pos rfl, zup1_ne _ _ (by omega), zpl1_e hk (by omega) (by omega)]
          exact K1.1.1.1.2.2.2.1
        · have y3' := (K1.1.1.2.2.1 k hk4).2.2.2
          simp only [Nat.reduceAdd] at y3'
          unfold zpl1
          rw [if_neg c, el2, zst_if, if_pos rfl]
          by_cases q : k = l
          · subst q
            rw [zup1_eq, zup1_eq]
          · rw [zup1_ne _ _ (by omega), zup1_ne _ _ (by omega)]
            exact y3'
      · rw [zpl1_e hk (by omega) (by omega)] at ht
        have := K1.2 t ht cc hc
        refine ⟨?_, this.2⟩
        have t1 := this.1
        unfold zTw at t1 ⊢
        simp only [zst_if, Nat.reduceEqDiff, if_false]
        exact t1
theorem zpl_r {T : Nat → Nat → List Int} (N : Nat) (hN : 1300 ≤ N) : ∀ (d n o : Nat) (g : zHp) (s : Int), zKr g T → (o : Int) + d = g 86 2 → d < n → ∃ g1, sh_Mo_plough_L6 N n s o g = some ((zPl T d o (g 86) s).1, g1) ∧ g1 86 = (zPl T d o (g 86) s).2 ∧ zFr [86, 91, 92, 93] g g1 := by
  intro d
  induction d with
  | zero =>
    intro n o g s K ho hn
    obtain ⟨n, rfl⟩ : ∃ m, n = m + 1 := ⟨n - 1, by omega⟩
    refine ⟨g, ?_, rfl, zFr.refl g⟩
    unfold sh_Mo_plough_L6
    rw [if_pos (by omega)]
    rfl
  | succ d ih =>
    intro n o g s K ho hn
    obtain ⟨n, rfl⟩ : ∃ m, n = m + 1 := ⟨n - 1, by omega⟩
    have hk := K.1
    have b2 := hk.1.2.2.1
    have b3 := hk.1.2.2.2.1
    have b1 := hk.1.2.1
    have hx := (hk.2.2.2.1 o (by omega)).1
    unfold zOx at hx
    suffices hs : ∃ g1, g1 86 = zpl1 T (g 86) o ∧ zFr [86, 91, 92, 93] g g1 ∧ sh_Mo_plough_L6 N (n + 1) s o g = sh_Mo_plough_L6 N n (if g 86 (48 + 8 * o) ≤ o then s else w32 (s + zpw T (g 86) o)) ((o + 1 : Nat) : Int) g1 by
      obtain ⟨g1, p1, p2, p3⟩ := hs
      have K1 : zKr g1 T := by
        refine ⟨by rw [p1]; exact zpl1_ok hk (by omega), ?_⟩
        rw [p1, zpl1_e hk (by omega) (by omega)]
        have := K.2
        unfold zTv at this ⊢
        rw [p2 88 (by decide)]
        exact this
      obtain ⟨g2, q1, q2, q3⟩ := ih n (o + 1) g1 (if g 86 (48 + 8 * o) ≤ o then s else w32 (s + zpw T (g 86) o)) K1 (by rw [p1, zpl1_e hk (by omega) (by omega)]; omega) (by omega)
      rw [p1] at q1 q2
      exact ⟨g2, p3.trans q1, q2, p2.trans q3⟩
    have e1 : w32 ((o : Int) + 1) = ((o + 1 : Nat) : Int) := by rw [w32_s (by omega) (by omega)]; omega
    have t6 : 41 + 8 * o + 6 = 47 + 8 * o := by omega
    have t7 : 41 + 8 * o + 7 = 48 + 8 * o := by omega
    conv => enter [1, g1, 2, 2, 1]; unfold sh_Mo_plough_L6
    rw [if_neg (by omega), e1, told_s (by omega) (by omega) (by decide) (by decide), told_s (by omega) (by omega) (by decide) (by decide)]
    simp only [zb1_some, Int.toNat_natCast, Int.reduceToNat, t6, t7]
    by_cases c : g 86 (48 + 8 * o) ≤ o
    · rw [if_neg (by omega), if_pos c]
      refine ⟨g, ?_, zFr.refl g, rfl⟩
      unfold zpl1
      rw [if_pos c]
    · rw [if_pos (by omega), if_neg c]
      obtain ⟨w0, w1, w2, w3, w4, w5, w6, w7⟩ := zpw_b (T := T) hk (o := o) (by omega) c
      obtain ⟨l, hl⟩ : ∃ l : Nat, g 86 (47 + 8 * o) = 10 + (l : Int) := ⟨(g 86 (47 + 8 * o) - 10).toNat, by omega⟩
      obtain ⟨m, hm⟩ : ∃ m : Nat, g 86 (48 + 8 * o) = m := ⟨(g 86 (48 + 8 * o)).toNat, by omega⟩
      have el : w32 (g 86 (47 + 8 * o) - 10) = l := by rw [w32_s (by omega) (by omega)]; omega
      have el2 : (g 86 (47 + 8 * o) - 10).toNat = l := by omega
      have em2 : (g 86 (48 + 8 * o)).toNat = m := by omega
      rw [el2] at w1 w6 w7
      obtain ⟨g1, p1, p2⟩ := zwork_r hN K (o := o) (m := m) (l := l) (hr := g 86 3) (by omega) (by omega) (by omega) (by unfold zB6; omega)
      have f86 := p2 86 (by decide)
      have ex : (25 + 4 * (l : Int) + 3).toNat = 28 + 4 * l := by omega
      have e25 : w32 (w32 (25 + w32 (4 * (l : Int))) + 3) = 25 + 4 * (l : Int) + 3 := by
        rw [w32_s (a := 4 * (l : Int)) (by omega) (by omega), w32_s (a := 25 + 4 * (l : Int)) (by omega) (by omega), w32_s (by omega) (by omega)]
      rw [el, hm, p1]
      simp only [zb2_some]
      rw [e25, zgrd (by omega) (by omega), zgrd (by omega) (by omega), ex, f86]
      have hj : ∀ v : Int, v = zpw T (g 86) o → ∃ g1', g1' 86 = zpl1 T (g 86) o ∧ zFr [86, 91, 92, 93] g g1' ∧ sh_Mo_plough_L6_J58 N (sh_Mo_plough_L6 N n) s o v (25 + 4 * (l : Int) + 3) g1 = sh_Mo_plough_L6 N n (w32 (s + zpw T (g 86) o)) ((o + 1 : Nat) : Int) g1' := by
        intro v hv
        subst hv
        refine ⟨zst g1 86 (28 + 4 * l) (g 86 (28 + 4 * l) - zpw T (g 86) o), ?_, (p2.mono (by simp)).st (by decide), ?_⟩
        · unfold zpl1
          rw [if_neg c, el2, zst_if, if_pos rfl, f86]
        · unfold sh_Mo_plough_L6_J58
          rw [zgrd (by omega) (by omega), zgrd (by omega) (by omega), ex, f86, e1, w32_s (a := g 86 (28 + 4 * l) - zpw T (g 86) o) (by omega) (by omega)]
      have ew : zpw T (g 86) o = zmin (g 86 (28 + 4 * l)) (zWk (g 86) T o m l (g 86 3)) := by
        unfold zpw
        rw [el2, em2]
      by_cases cc : zWk (g 86) T o m l (g 86 3) ≤ g 86 (28 + 4 * l)
      · rw [if_pos cc]
        refine hj _ ?_
        rw [ew]
        unfold zmin
        split
        · omega
        · rfl
      · rw [if_neg cc]
        refine hj _ ?_
        rw [ew]
        unfold zmin
        rw [if_pos (by omega)]
theorem zc_plough {h : zHp} (hI : zInv h) {N : Nat} (hN : 1300 ≤ N) : ∃ h2, zcas (sh_Ox_plough N) (sh_Mo_plough N) h = some (1, h2) ∧ zInv h2 := by
  have hI' := hI
  obtain ⟨⟨hy, hk⟩, -⟩ := hI'
  obtain ⟨T, K, R⟩ := zK_of hI
  have k0 := hk.1.2.2.1
  obtain ⟨h1, p1, z1, f16, f1⟩ := zkeep_c hy hk
  have hkk := zkeep_ok hk
  have lo : ∀ j, j < 121 → j ≠ 7 → zkeep (h 86) j = h 86 j := fun j h1 h2 => zkeep_lo h1 h2
  obtain ⟨d, hd⟩ : ∃ d : Nat, h 86 2 = d := ⟨(h 86 2).toNat, by omega⟩
  have d2 : zkeep (h 86) 2 = d := by rw [lo 2 (by omega) (by omega)]; exact hd
  have K1 : zKc h1 (zkeep (h 86)) T := by
    refine ⟨⟨z1, hkk⟩, fun t ht c hc => ?_⟩
    rw [lo 4 (by omega) (by omega)] at ht
    have := K.2 t ht c hc
    refine ⟨?_, this.2⟩
    have t1 := this.1
    unfold zTw at t1 ⊢
    rw [f1 28 (by decide) (by decide), f1 30 (by decide) (by decide), f1 32 (by decide) (by decide)]
    exact t1
  obtain ⟨h2, r1, r2, r3, r4⟩ := zpl_c N hN d N 0 h1 (zkeep (h 86)) 0 K1 (by omega) (by omega)
  have b3 := r2.1.2.1.2.2.2.1
  generalize hb : (zPl T d 0 (zkeep (h 86)) 0).2 = b at *
  have e3 : h2 16 0 = b 3 := r2.1.1.1.2.2.2.1
  have hv : w32 ((w32 (b 3 + 1)).tmod 24) = (b 3 + 1) % 24 := by
    rw [w32_s (a := b 3 + 1) (by omega) (by omega), Int.tmod_eq_emod_of_nonneg (by omega), w32_s (by omega) (by omega)]
  have f86 : zst h2 16 0 ((b 3 + 1) % 24) 86 = h 86 := by rw [zst_if, if_neg (by decide), r4 86 (by decide), f1 86 (by decide) (by decide)]
  have f88 : zst h2 16 0 ((b 3 + 1) % 24) 88 = h 88 := by rw [zst_if, if_neg (by decide), r4 88 (by decide), f1 88 (by decide) (by decide)]
  obtain ⟨g1, q1, q2, q3⟩ := zkeep_r N (by omega) (h := zst h2 16 0 ((b 3 + 1) % 24)) (by rw [f86]; exact hk.1.2.2.2.2.2.2.2)
  rw [f86] at q2
  have R1 : zKr g1 T := by
    refine ⟨by rw [q2]; exact hkk, ?_⟩
    rw [q2, lo 4 (by omega) (by omega)]
    have := R.2
    unfold zTv at this ⊢
    rw [q3 88 (by decide), f88]
    exact this
  obtain ⟨g2, s1, s2, s3⟩ := zpl_r N hN d N 0 g1 0 R1 (by rw [q2]; omega) (by omega)
  rw [q2] at s1 s2
  rw [hb] at s2
  refine ⟨zst g2 86 3 ((b 3 + 1) % 24), zcas_of (r := (zPl T d 0 (zkeep (h 86)) 0).1) (h1 := zst h2 16 0 ((b 3 + 1) % 24)) ?_ ?_, ?_⟩
  · unfold sh_Ox_plough
    rw [p1]
    refine (congrArg (fun o => zb2 o fun y52 h53 => some (y52, sh_Herd_setHour_14 (w32 (((w32 ((sh_Herd_hour_14 h53) + 1))).tmod 24)) h53)) r1).trans ?_
    simp only [zb2_some, hour_s, seth_s]
    rw [e3, hv]
  · unfold sh_Mo_plough
    rw [q1]
    refine (congrArg (fun o => zb2 o fun y43 h44 => some (y43, zst h44 86 3 (w32 (((w32 ((h44 86 3) + 1))).tmod 24)))) s1).trans ?_
    simp only [zb2_some]
    rw [s2, hv]
  · refine zmut hI (h1 := zst h2 16 0 ((b 3 + 1) % 24)) (a := zup1 b 3 ((b 3 + 1) % 24)) ?_ ?_ ?_ ?_ ?_ ?_
    · intro id q r
      rw [zst_if, if_neg (by omega), r4 id (by intro m; simp at m; rcases m with rfl | rfl | rfl <;> first | omega | cases q), f1 id (by omega) (by omega)]
    · exact zYc_lo r2.1.1 r2.1.2 (fun id u _ _ => by rw [zst_if, if_neg u]) (fun j u _ _ _ _ => zup1_ne _ _ u) (fun j hj => by rw [zst_if, if_pos rfl, zup1_ne _ _ (by omega)]) (by rw [zst_if, if_pos rfl, zup1_eq, zup1_eq]) (fun k hk4 => by
        rw [zst_if, if_pos rfl, zup1_ne _ _ (by omega), zup1_ne _ _ (by omega)]
        exact (r2.1.1.2.2.1 k hk4).2.2.2)
    · intro id q r
      rw [zst_if, if_neg r, s3 id (by intro m; simp at m; rcases m with rfl | rfl | rfl | rfl <;> first | omega | cases q), q3 id r]
    · rw [zst_if, if_pos rfl, s2]
    · exact zOk_lo r2.1.2 (fun j u _ _ _ _ => zup1_ne _ _ u) (by rw [zup1_eq]; omega) (fun k hk4 => by rw [zup1_ne _ _ (by omega)]; exact (r2.1.2.2.2.1 k hk4).2.2.2)
    · rw [zup1_ne _ _ (by omega), r3 4 (by omega), lo 4 (by omega) (by omega)]
