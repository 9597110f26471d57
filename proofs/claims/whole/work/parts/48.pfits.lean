/-! PURE: apart, what fits -/
def zbd (a : zFn) (T : Nat → Nat → List Int) (f : Nat) (p : Nat) (l o : Nat) : Bool :=
  if a (41 + 8 * o) = f then decide (zHv a T o f p l 0 (a 3) = 0) else decide (¬ zHv a T o f p l 0 (a 3) = 0 ∧ ¬ a (42 + 8 * o) = f)
def zft (a : zFn) (T : Nat → Nat → List Int) (f p l : Nat) : Nat → Nat → Bool
  | 0, _ => true
  | d + 1, k => if zbd a T f p l k = true then false else zft a T f p l d (k + 1)
theorem zft_c {a : zFn} {T : Nat → Nat → List Int} {N : Nat} (hN : 1300 ≤ N) {f p l : Nat} (hf : f < 5) (hp : p < 10) (hl : l < 4) : ∀ (d n k : Nat) (h : zHp), zKc h a T → (k : Int) + d = a 2 → d < n →
    ∃ h1, sh_Pitches_fitsAll_L6 N n (f : Int) (p : Int) (l : Int) (k : Int) h = some (if zft a T f p l d k = true then .inr h1 else .inl h1) ∧ zFr [33, 35, 37] h h1 := by
  intro d
  induction d with
  | zero =>
    intro n k h K ho hn
    obtain ⟨n, rfl⟩ : ∃ m, n = m + 1 := ⟨n - 1, by omega⟩
    refine ⟨h, ?_, zFr.refl h⟩
    have e0 : h 16 2 = a 2 := K.1.1.1.2.2.1
    unfold sh_Pitches_fitsAll_L6
    rw [oxen_s, e0, if_pos (by omega)]
    rfl
  | succ d ih =>
    intro n k h K ho hn
    obtain ⟨n, rfl⟩ : ∃ m, n = m + 1 := ⟨n - 1, by omega⟩
    have hy := K.1.1
    have e0 : h 16 2 = a 2 := hy.1.2.2.1
    have e3 : h 16 0 = a 3 := hy.1.2.2.2.1
    have b2 := K.1.2.1.2.2.1
    have b3 := K.1.2.1.2.2.2.1
    have e1 : w32 ((k : Int) + 1) = ((k + 1 : Nat) : Int) := by rw [w32_s (by omega) (by omega)]; omega
    obtain ⟨h1, p1, p2, -, -, p5⟩ := zhd_c hN K (o := k) (l := l) (f := (f : Int)) (p := (p : Int)) (y := 0) (hr := a 3) (by omega) hl (by omega) (by unfold zB6; omega) (by unfold zB6; omega)
    rw [if_pos (c := (0 : Int) = 0) rfl] at p1 p5
    have y4 := (zKc_fr K p2 (by decide)).1.1.2.2.2.1
    simp only [Nat.reduceAdd] at y4
    have g0 : sh_Herd_get_14 (k : Int) 0 h1 = a (41 + 8 * k) := by
      rw [get_s (by omega) (by omega) (by decide) (by decide), Int.toNat_natCast]
      exact y4 k (by omega) 0 (by decide)
    have g1 : sh_Herd_get_14 (k : Int) 1 h1 = a (42 + 8 * k) := by
      rw [get_s (by omega) (by omega) (by decide) (by decide), Int.toNat_natCast, show (1 : Int).toNat = 1 from rfl, y4 k (by omega) 1 (by decide)]
      congr 1; omega
    obtain ⟨h2, r1, r2⟩ := ih n (k + 1) h1 (zKc_fr K p2 (by decide)) (by omega) (by omega)
    unfold sh_Pitches_fitsAll_L6
    rw [oxen_s, e0, if_neg (c := a 2 ≤ (k : Int)) (by omega), hour_s, e3, p1]
    simp only [zb2_some]
    rw [g0, g1, e1]
    rw [show zft a T f p l (d + 1) k = if zbd a T f p l k = true then false else zft a T f p l d (k + 1) from rfl]
    have hbd : zbd a T f p l k = if a (41 + 8 * k) = f then decide (zHv a T k f p l 0 (a 3) = 0) else decide (¬ zHv a T k f p l 0 (a 3) = 0 ∧ ¬ a (42 + 8 * k) = f) := rfl
    rw [hbd]
    generalize zHv a T k (f : Int) (p : Int) l 0 (a 3) = v at p5
    by_cases c1 : a (41 + 8 * k) = f
    · simp only [if_pos c1, Int.reduceEq, if_false, if_true]
      by_cases c2 : v = 0
      · refine ⟨h1, ?_, p2⟩
        rw [if_pos c2, if_pos (decide_eq_true c2)]
        rfl
      · refine ⟨h2, ?_, p2.trans r2⟩
        rw [if_neg c2, if_neg (c := decide (v = 0) = true) (by simp [c2])]
        exact r1
    · simp only [if_neg c1, Int.reduceEq, if_false, if_true]
      by_cases c3 : a (42 + 8 * k) = f
      · refine ⟨h2, ?_, p2.trans r2⟩
        rw [if_pos c3, if_pos rfl, if_neg (c := decide (¬ v = 0 ∧ ¬ a (42 + 8 * k) = (f : Int)) = true) (by simp [c3])]
        exact r1
      · rw [if_neg c3, if_neg (by decide)]
        by_cases c2 : v = 0
        · refine ⟨h2, ?_, p2.trans r2⟩
          rw [if_pos c2, if_neg (c := decide (¬ v = 0 ∧ ¬ a (42 + 8 * k) = (f : Int)) = true) (by simp [c2])]
          exact r1
        · refine ⟨h1, ?_, p2⟩
          rw [if_neg c2, if_pos (decide_eq_true ⟨c2, c3⟩)]
          rfl
theorem zftA_c {a : zFn} {T : Nat → Nat → List Int} {N : Nat} (hN : 1300 ≤ N) {f p l D : Nat} (hD : a 2 = D) (hf : f < 5) (hp : p < 10) (hl : l < 4) {h : zHp} (K : zKc h a T) :
    ∃ h1, sh_Pitches_fitsAll N (f : Int) (p : Int) (l : Int) h = some (if zft a T f p l D 0 = true then 1 else 0, h1) ∧ zFr [33, 35, 37] h h1 := by
  have b2 := K.1.2.1.2.2.1
  obtain ⟨h1, p1, p2⟩ := zft_c (T := T) hN hf hp hl D N 0 h K (by omega) (by omega)
  refine ⟨h1, ?_, p2⟩
  unfold sh_Pitches_fitsAll
  refine (congrArg (fun o => zb1 o fun w41 => zsum2 w41 (zcu1 fun h42 => some ((0 : Int), h42)) (zcu1 fun h43 => some ((1 : Int), h43))) p1).trans ?_
  cases zft a T f p l D 0 <;> rfl
theorem zft_r {a : zFn} {T : Nat → Nat → List Int} {N : Nat} (hN : 1300 ≤ N) {f p l : Nat} (hf : f < 5) (hp : p < 10) (hl : l < 4) : ∀ (d n k : Nat) (g : zHp), zKr g T → g 86 = a → (k : Int) + d = a 2 → d < n →
    ∃ g1, (sh_Mo_mayBe_L2 N n (f : Int) (p : Int) (l : Int) (k : Int) g = some (if zft a T f p l d k = true then .inr (.inr g1) else .inl g1) ∨ (zft a T f p l d k = false ∧ sh_Mo_mayBe_L2 N n (f : Int) (p : Int) (l : Int) (k : Int) g = some (.inr (.inl g1)))) ∧ zFr [91, 92, 93] g g1 := by
  intro d
  induction d with
  | zero =>
    intro n k g K ea ho hn
    obtain ⟨n, rfl⟩ : ∃ m, n = m + 1 := ⟨n - 1, by omega⟩
    refine ⟨g, Or.inl ?_, zFr.refl g⟩
    unfold sh_Mo_mayBe_L2
    rw [ea, if_pos (by omega)]
    rfl
  | succ d ih =>
    intro n k g K ea ho hn
    obtain ⟨n, rfl⟩ : ∃ m, n = m + 1 := ⟨n - 1, by omega⟩
    have hk := K.1
    rw [ea] at hk
    have b2 := hk.1.2.2.1
    have b3 := hk.1.2.2.2.1
    have e1 : w32 ((k : Int) + 1) = ((k + 1 : Nat) : Int) := by rw [w32_s (by omega) (by omega)]; omega
    obtain ⟨g0, g1, p0, p1, p2, -, p5⟩ := zhd_r hN K (o := k) (l := l) (f := (f : Int)) (p := (p : Int)) (y := 0) (hr := a 3) (by rw [ea]; omega) hl (by omega) (by unfold zB6; omega) zB6_0 (by unfold zB6; omega)
    rw [ea] at p1 p5
    have ea1 : g1 86 = a := by rw [p2 86 (by decide)]; exact ea
    obtain ⟨g2, r1, r2⟩ := ih n (k + 1) g1 (zKr_eq K (p2 86 (by decide)) (p2 88 (by decide))) ea1 (by omega) (by omega)
    have t0 : sh_Mo_told N (k : Int) 0 g1 = some (a (41 + 8 * k)) := by
      rw [told_s (by omega) (by omega) (by decide) (by decide), Int.toNat_natCast, ea1]; rfl
    have t1 : sh_Mo_told N (k : Int) 1 g1 = some (a (42 + 8 * k)) := by
      rw [told_s (by omega) (by omega) (by decide) (by decide), Int.toNat_natCast, ea1, show 41 + 8 * k + (1 : Int).toNat = 42 + 8 * k by show 41 + 8 * k + 1 = _; omega]
    have hbd : zbd a T f p l k = if a (41 + 8 * k) = f then decide (zHv a T k f p l 0 (a 3) = 0) else decide (¬ zHv a T k f p l 0 (a 3) = 0 ∧ ¬ a (42 + 8 * k) = f) := rfl
    unfold sh_Mo_mayBe_L2
    rw [ea, if_neg (c := a 2 ≤ (k : Int)) (by omega), p0]
    simp only [zb1_some]
    rw [p1]
    simp only [zb2_some]
    rw [t0, t1]
    simp only [zb1_some]
    rw [e1]
    rw [show zft a T f p l (d + 1) k = if zbd a T f p l k = true then false else zft a T f p l d (k + 1) from rfl, hbd]
    generalize zHv a T k (f : Int) (p : Int) l 0 (a 3) = v at p5
    by_cases c1 : a (41 + 8 * k) = f
    · rw [if_pos c1, if_pos c1]
      by_cases c2 : v = 0
      · refine ⟨g1, Or.inl ?_, p2⟩
        rw [if_pos c2, if_pos (decide_eq_true c2)]
        rfl
      · refine ⟨g2, ?_, p2.trans r2⟩
        rw [if_neg c2, if_neg (c := decide (v = 0) = true) (by simp [c2])]
        exact r1
    · rw [if_neg c1, if_neg c1]
      by_cases c2 : v = 0
      · refine ⟨g2, ?_, p2.trans r2⟩
        rw [if_pos c2, if_neg (c := decide (¬ v = 0 ∧ ¬ a (42 + 8 * k) = (f : Int)) = true) (by simp [c2])]
        exact r1
      · rw [if_neg c2]
        by_cases c3 : a (42 + 8 * k) = f
        · refine ⟨g2, ?_, p2.trans r2⟩
          rw [if_pos c3, if_neg (c := decide (¬ v = 0 ∧ ¬ a (42 + 8 * k) = (f : Int)) = true) (by simp [c3])]
          exact r1
        · refine ⟨g1, Or.inr ?_, p2⟩
          rw [if_neg c3, if_pos (decide_eq_true ⟨c2, c3⟩)]
          exact ⟨rfl, rfl⟩
theorem zftA_r {a : zFn} {T : Nat → Nat → List Int} {N : Nat} (hN : 1300 ≤ N) {f p l D : Nat} (hD : a 2 = D) (hf : f < 5) (hp : p < 10) (hl : l < 4) {g : zHp} (K : zKr g T) (ea : g 86 = a) :
    ∃ g1, sh_Mo_mayBe N (f : Int) (p : Int) (l : Int) g = some (if zft a T f p l D 0 = true then 1 else 0, g1) ∧ zFr [91, 92, 93] g g1 := by
  have b2 := K.1.1.2.2.1
  rw [ea] at b2
  obtain ⟨g1, p1, p2⟩ := zft_r (T := T) hN hf hp hl D N 0 g K ea (by omega) (by omega)
  refine ⟨g1, ?_, p2⟩
  unfold sh_Mo_mayBe
  rcases p1 with p1 | ⟨p0, p1⟩
  · refine (congrArg (fun o => zb1 o fun w32 => zsum3 w32 (zcu1 fun h33 => some ((0 : Int), h33)) (zcu1 fun h34 => some ((0 : Int), h34)) (zcu1 fun h35 => some ((1 : Int), h35))) p1).trans ?_
    cases zft a T f p l D 0 <;> rfl
  · refine (congrArg (fun o => zb1 o fun w32 => zsum3 w32 (zcu1 fun h33 => some ((0 : Int), h33)) (zcu1 fun h34 => some ((0 : Int), h34)) (zcu1 fun h35 => some ((1 : Int), h35))) p1).trans ?_
    rw [p0]
    rfl
/-! the tables of what fits -/
def zFi (a : zFn) (T : Nat → Nat → List Int) (D l : Nat) (f p : Nat) : Bool := zft a T f p l D 0
theorem zst_c1 {a : zFn} {T : Nat → Nat → List Int} {N : Nat} (hN : 1300 ≤ N) {f l D : Nat} (hD : a 2 = D) (hf : f < 5) (hl : l < 4) : ∀ (d n p : Nat) (h : zHp), zKc h a T → p + d = 10 → d < n → (∀ i, i < 10 * f + p → h 80 i = if zFi a T D l (i / 10) (i % 10) = true then 1 else 0) →
    ∃ h1, sh_Pitches_search_L15 N n (l : Int) (f : Int) (p : Int) h = some ((l : Int), (f : Int), h1) ∧ (∀ i, i < 10 * f + 10 → h1 80 i = if zFi a T D l (i / 10) (i % 10) = true then 1 else 0) ∧ zFr [33, 35, 37, 80] h h1 := by
  intro d
  induction d with
  | zero =>
    intro n p h K hp hn hh
    obtain ⟨n, rfl⟩ : ∃ m, n = m + 1 := ⟨n - 1, by omega⟩
    refine ⟨h, ?_, fun i hi => hh i (by omega), zFr.refl h⟩
    unfold sh_Pitches_search_L15
    rw [if_pos (by omega)]
  | succ d ih =>
    intro n p h K hp hn hh
    obtain ⟨n, rfl⟩ : ∃ m, n = m + 1 := ⟨n - 1, by omega⟩
    have e1 : w32 ((p : Int) + 1) = ((p + 1 : Nat) : Int) := by rw [w32_s (by omega) (by omega)]; omega
    obtain ⟨h1, p1, p2⟩ := zftA_c hN hD hf (p := p) (by omega) hl K
    have e2 : w32 (w32 ((f : Int) * 10) + (p : Int)) = ((10 * f + p : Nat) : Int) := by rw [w32_s (a := (f : Int) * 10) (by omega) (by omega), w32_s (by omega) (by omega)]; omega
    have f1 : zFr [33, 35, 37, 80] h (zst h1 80 (10 * f + p) (if zft a T f p l D 0 = true then 1 else 0)) := (p2.mono (by simp)).st (by decide)
    obtain ⟨h2, r1, r2, r3⟩ := ih n (p + 1) (zst h1 80 (10 * f + p) (if zft a T f p l D 0 = true then 1 else 0)) (zKc_fr K f1 (by decide)) (by omega) (by omega) (fun i hi => by
      rw [zst_if, if_pos rfl, zup1_if]
      by_cases e : i = 10 * f + p
      · rw [if_pos e, e]
        unfold zFi
        rw [show (10 * f + p) / 10 = f by omega, show (10 * f + p) % 10 = p by omega]
      · rw [if_neg e, p2 80 (by decide)]
        exact hh i (by omega))
    refine ⟨h2, ?_, r2, f1.trans r3⟩
    unfold sh_Pitches_search_L15
    rw [if_neg (c := 10 ≤ (p : Int)) (by omega), p1]
    simp only [zb2_some]
    rw [e1, e2, rput_in (by omega) (by omega), Int.toNat_natCast]
    have ev : (if (if zft a T f p l D 0 = true then 1 else 0 : Int) = 0 then 0 else 1 : Int) = if zft a T f p l D 0 = true then 1 else 0 := by
      split <;> rfl
    rw [ev]
    exact r1
theorem zst_c2 {a : zFn} {T : Nat → Nat → List Int} {N : Nat} (hN : 1300 ≤ N) {l D A : Nat} (hD : a 2 = D) (hA : a 0 = A) (hl : l < 4) : ∀ (d n f : Nat) (h : zHp), zKc h a T → f + d = A → d < n → (∀ i, i < 10 * f → h 80 i = if zFi a T D l (i / 10) (i % 10) = true then 1 else 0) →
    ∃ h1, sh_Pitches_search_L8 N n (l : Int) (f : Int) h = some h1 ∧ (∀ i, i < 10 * A → h1 80 i = if zFi a T D l (i / 10) (i % 10) = true then 1 else 0) ∧ zFr [33, 35, 37, 80] h h1 := by
  intro d
  induction d with
  | zero =>
    intro n f h K hf hn hh
    obtain ⟨n, rfl⟩ : ∃ m, n = m + 1 := ⟨n - 1, by omega⟩
    refine ⟨h, ?_, fun i hi => hh i (by omega), zFr.refl h⟩
    have e0 : h 1 0 = a 0 := K.1.1.1.1
    unfold sh_Pitches_search_L8
    rw [e0, if_pos (by omega)]
  | succ d ih =>
    intro n f h K hf hn hh
    obtain ⟨n, rfl⟩ : ∃ m, n = m + 1 := ⟨n - 1, by omega⟩
    have e0 : h 1 0 = a 0 := K.1.1.1.1
    have b0 := K.1.2.1.1
    have e1 : w32 ((f : Int) + 1) = ((f + 1 : Nat) : Int) := by rw [w32_s (by omega) (by omega)]; omega
    obtain ⟨h1, p1, p2, p3⟩ := zst_c1 (T := T) hN hD (f := f) (by omega) hl 10 N 0 h K (by omega) (by omega) (fun i hi => hh i (by omega))
    obtain ⟨h2, r1, r2, r3⟩ := ih n (f + 1) h1 (zKc_fr K p3 (by decide)) (by omega) (by omega) (fun i hi => p2 i (by omega))
    refine ⟨h2, ?_, r2, p3.trans r3⟩
    unfold sh_Pitches_search_L8
    rw [e0, if_neg (c := a 0 ≤ (f : Int)) (by omega)]
    refine (congrArg (fun o => zb3 o fun y17 y18 h19 => sh_Pitches_search_L8 N n y17 (w32 (y18 + 1)) h19) p1).trans ?_
    simp only [zb3_some]
    rw [e1]
    exact r1
theorem zst_r1 {a : zFn} {T : Nat → Nat → List Int} {N : Nat} (hN : 1300 ≤ N) {f l D A : Nat} {x1 : Int} (hD : a 2 = D) (hf : f < 5) (hl : l < 4) : ∀ (d n p : Nat) (g : zHp), zKr g T → g 86 = a → p + d = 10 → d < n → (∀ i, i < 10 * f + p → g 97 i = if zFi a T D l (i / 10) (i % 10) = true then 1 else 0) →
    ∃ g1, sh_Mo_set_L12 N n x1 (l : Int) (A : Int) (f : Int) (p : Int) g = some (x1, (l : Int), (A : Int), (f : Int), g1) ∧ (∀ i, i < 10 * f + 10 → g1 97 i = if zFi a T D l (i / 10) (i % 10) = true then 1 else 0) ∧ zFr [91, 92, 93, 97] g g1 := by
  intro d
  induction d with
  | zero =>
    intro n p g K ea hp hn hh
    obtain ⟨n, rfl⟩ : ∃ m, n = m + 1 := ⟨n - 1, by omega⟩
    refine ⟨g, ?_, fun i hi => hh i (by omega), zFr.refl g⟩
    unfold sh_Mo_set_L12
    rw [if_pos (by omega)]
  | succ d ih =>
    intro n p g K ea hp hn hh
    obtain ⟨n, rfl⟩ : ∃ m, n = m + 1 := ⟨n - 1, by omega⟩
    have e1 : w32 ((p : Int) + 1) = ((p + 1 : Nat) : Int) := by rw [w32_s (by omega) (by omega)]; omega
    obtain ⟨g1, p1, p2⟩ := zftA_r hN hD hf (p := p) (by omega) hl K ea
    have e2 : w32 (w32 (10 * (f : Int)) + (p : Int)) = ((10 * f + p : Nat) : Int) := by rw [w32_s (a := 10 * (f : Int)) (by omega) (by omega), w32_s (by omega) (by omega)]; omega
    have f1 : zFr [91, 92, 93, 97] g (zst g1 97 (10 * f + p) (if zft a T f p l D 0 = true then 1 else 0)) := (p2.mono (by simp)).st (by decide)
    obtain ⟨g2, r1, r2, r3⟩ := ih n (p + 1) (zst g1 97 (10 * f + p) (if zft a T f p l D 0 = true then 1 else 0)) (zKr_eq K (f1 86 (by decide)) (f1 88 (by decide))) (by rw [f1 86 (by decide)]; exact ea) (by omega) (by omega) (fun i hi => by
      rw [zst_if, if_pos rfl, zup1_if]
      by_cases e : i = 10 * f + p
      · rw [if_pos e, e]
        unfold zFi
        rw [show (10 * f + p) / 10 = f by omega, show (10 * f + p) % 10 = p by omega]
      · rw [if_neg e, p2 97 (by decide)]
        exact hh i (by omega))
    refine ⟨g2, ?_, r2, f1.trans r3⟩
    unfold sh_Mo_set_L12
    rw [if_neg (c := 10 ≤ (p : Int)) (by omega), p1]
    simp only [zb2_some]
    rw [e1, e2, zgrd (by omega) (by omega), Int.toNat_natCast]
    exact r1
theorem zst_r2 {a : zFn} {T : Nat → Nat → List Int} {N : Nat} (hN : 1300 ≤ N) {l D A : Nat} {x1 : Int} (hD : a 2 = D) (hA : a 0 = A) (hl : l < 4) : ∀ (d n f : Nat) (g : zHp), zKr g T → g 86 = a → f + d = A → d < n → (∀ i, i < 10 * f → g 97 i = if zFi a T D l (i / 10) (i % 10) = true then 1 else 0) →
    ∃ g1, sh_Mo_set_L7 N n x1 (l : Int) (A : Int) (f : Int) g = some (x1, (A : Int), g1) ∧ (∀ i, i < 10 * A → g1 97 i = if zFi a T D l (i / 10) (i % 10) = true then 1 else 0) ∧ zFr [91, 92, 93, 97] g g1 := by
  intro d
  induction d with
  | zero =>
    intro n f g K ea hf hn hh
    obtain ⟨n, rfl⟩ : ∃ m, n = m + 1 := ⟨n - 1, by omega⟩
    refine ⟨g, ?_, fun i hi => hh i (by omega), zFr.refl g⟩
    unfold sh_Mo_set_L7
    rw [if_pos (by omega)]
  | succ d ih =>
    intro n f g K ea hf hn hh
    obtain ⟨n, rfl⟩ : ∃ m, n = m + 1 := ⟨n - 1, by omega⟩
    have b0 := K.1.1.1
    rw [ea] at b0
    have e1 : w32 ((f : Int) + 1) = ((f + 1 : Nat) : Int) := by rw [w32_s (by omega) (by omega)]; omega
    obtain ⟨g1, p1, p2, p3⟩ := zst_r1 (T := T) (A := A) (x1 := x1) hN hD (f := f) (by omega) hl 10 N 0 g K ea (by omega) (by omega) (fun i hi => hh i (by omega))
    obtain ⟨g2, r1, r2, r3⟩ := ih n (f + 1) g1 (zKr_eq K (p3 86 (by decide)) (p3 88 (by decide))) (by rw [p3 86 (by decide)]; exact ea) (by omega) (by omega) (fun i hi => p2 i (by omega))
    refine ⟨g2, ?_, r2, p3.trans r3⟩
    unfold sh_Mo_set_L7
    rw [if_neg (c := (A : Int) ≤ (f : Int)) (by omega)]
    refine (congrArg (fun o => zb5 o fun y12 y13 y14 y15 h16 => sh_Mo_set_L7 N n y12 y13 y14 (w32 (y15 + 1)) h16) p1).trans ?_
    simp only [zb5_some]
    rw [e1]
    exact r1
