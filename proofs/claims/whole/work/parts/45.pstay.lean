/-! PURE: stay -/
def zca (a : zFn) (T : Nat → Nat → List Int) (o l : Nat) (hr : Int) : Nat → Nat → Bool
  | 0, _ => false
  | d + 1, k => if a (105 + 2 * k) = hr ∧ zHv a T o (a (106 + 2 * k)) (a (12 + 3 * (a (106 + 2 * k)).toNat)) l 1 hr = 1 then true else zca a T o l hr d (k + 1)
def zcb (a : zFn) (T : Nat → Nat → List Int) (o l : Nat) (hr : Int) : Bool := zca a T o l hr (a 6).toNat 0
theorem zca_c {a : zFn} {T : Nat → Nat → List Int} {N : Nat} (hN : 1300 ≤ N) {o l : Nat} {hr : Int} (ho : (o : Int) < a 2) (hl : l < 4) (hh : zB6 hr) : ∀ (d n k : Nat) (h : zHp), zKc h a T → (k : Int) + d = a 6 → d < n →
    ∃ h1, sh_Stays_heedsCallAt_L2 N n (o : Int) (l : Int) hr (k : Int) h = some (if zca a T o l hr d k = true then .inl h1 else .inr h1) ∧ zFr [33, 35, 37] h h1 := by
  intro d
  induction d with
  | zero =>
    intro n k h K ho hn
    obtain ⟨n, rfl⟩ : ∃ m, n = m + 1 := ⟨n - 1, by omega⟩
    have e6 : h 1 9 = a 6 := K.1.1.1.2.2.2.2.2.2.1
    refine ⟨h, ?_, zFr.refl h⟩
    unfold sh_Stays_heedsCallAt_L2
    rw [e6, if_pos (by omega)]
    rfl
  | succ d ih =>
    intro n k h K hk6 hn
    obtain ⟨n, rfl⟩ : ∃ m, n = m + 1 := ⟨n - 1, by omega⟩
    have hk := K.1.2
    have hy := K.1.1
    have b6 := hk.1.2.2.2.2.2.2.1
    have b2 := hk.1.2.2.1
    have b0 := hk.1.1
    have e6 : h 1 9 = a 6 := hy.1.2.2.2.2.2.2.1
    have y5 := hy.2.2.2.2.1 k (by omega)
    simp only [Nat.reduceAdd] at y5
    have y2 := hy.2.1
    simp only [Nat.reduceAdd] at y2
    have k5 := hk.2.2.2.2.1 k (by omega)
    have e1 : w32 ((k : Int) + 1) = ((k + 1 : Nat) : Int) := by rw [w32_s (by omega) (by omega)]; omega
    have v1 : rget h 21 8 (k : Int) = a (105 + 2 * k) := by rw [rget_in (by omega) (by omega), Int.toNat_natCast]; exact y5.1
    have v2 : rget h 23 8 (k : Int) = a (106 + 2 * k) := by rw [rget_in (by omega) (by omega), Int.toNat_natCast]; exact y5.2
    have v3 : rget h 7 5 (a (106 + 2 * k)) = a (12 + 3 * (a (106 + 2 * k)).toNat) := by rw [rget_in (by omega) (by omega)]; exact (y2 _ (by omega)).2.2
    have bp := (hk.2.1 (a (106 + 2 * k)).toNat (by omega)).2.2
    unfold sh_Stays_heedsCallAt_L2
    unfold zca
    rw [e6, if_neg (c := a 6 ≤ (k : Int)) (by omega), v1, v2, v3, e1]
    by_cases c : a (105 + 2 * k) = hr
    · rw [if_pos c]
      obtain ⟨h1, p1, p2, -, -, p5⟩ := zhd_c hN K (o := o) (l := l) (f := a (106 + 2 * k)) (p := a (12 + 3 * (a (106 + 2 * k)).toNat)) (y := 1) (hr := hr) ho hl (by omega) (by unfold zB6; omega) hh
      rw [if_neg (c := (1 : Int) = 0) (by decide)] at p1 p5
      rw [p1]
      simp only [zb2_some]
      by_cases c1 : zHv a T o (a (106 + 2 * k)) (a (12 + 3 * (a (106 + 2 * k)).toNat)) l 1 hr = 0
      · rw [if_pos c1, if_neg (fun q => by rw [c1] at q; exact absurd q.2 (by decide))]
        obtain ⟨h2, r1, r2⟩ := ih n (k + 1) h1 (zKc_fr K p2 (by decide)) (by omega) (by omega)
        exact ⟨h2, r1, p2.trans r2⟩
      · rw [if_neg c1, if_pos ⟨c, p5.resolve_left c1⟩]
        exact ⟨h1, by rw [if_pos rfl], p2⟩
    · rw [if_neg c, if_neg (fun q => c q.1)]
      exact ih n (k + 1) h K (by omega) (by omega)
theorem zcb_c {a : zFn} {T : Nat → Nat → List Int} {N : Nat} (hN : 1300 ≤ N) {o l : Nat} {hr : Int} (ho : (o : Int) < a 2) (hl : l < 4) (hh : zB6 hr) {h : zHp} (K : zKc h a T) :
    ∃ h1, sh_Stays_heedsCallAt N (o : Int) (l : Int) hr h = some (if zcb a T o l hr = true then 1 else 0, h1) ∧ zFr [33, 35, 37] h h1 := by
  have b6 := K.1.2.1.2.2.2.2.2.2.1
  obtain ⟨h1, p1, p2⟩ := zca_c (T := T) hN ho hl hh (a 6).toNat N 0 h K (by omega) (by omega)
  refine ⟨h1, ?_, p2⟩
  unfold sh_Stays_heedsCallAt
  refine (congrArg (fun o => zb1 o fun w28 => zsum2 w28 (zcu1 fun h29 => some ((1 : Int), h29)) (zcu1 fun h30 => some ((0 : Int), h30))) p1).trans ?_
  unfold zcb
  cases zca a T o l hr (a 6).toNat 0 <;> rfl
theorem zca_r {a : zFn} {T : Nat → Nat → List Int} {N : Nat} (hN : 1300 ≤ N) {o l : Nat} {hr : Int} (ho : (o : Int) < a 2) (hl : l < 4) (hh : zB6 hr) : ∀ (d n k : Nat) (g : zHp), zKr g T → g 86 = a → (k : Int) + d = a 6 → d < n →
    ∃ g1, sh_Mo_isCalled_L2 N n (o : Int) (l : Int) hr (k : Int) g = some (if zca a T o l hr d k = true then .inl g1 else .inr g1) ∧ zFr [91, 92, 93] g g1 := by
  intro d
  induction d with
  | zero =>
    intro n k g K ea ho hn
    obtain ⟨n, rfl⟩ : ∃ m, n = m + 1 := ⟨n - 1, by omega⟩
    refine ⟨g, ?_, zFr.refl g⟩
    unfold sh_Mo_isCalled_L2
    rw [ea, if_pos (by omega)]
    rfl
  | succ d ih =>
    intro n k g K ea hk6 hn
    obtain ⟨n, rfl⟩ : ∃ m, n = m + 1 := ⟨n - 1, by omega⟩
    have hk := K.1
    rw [ea] at hk
    have b6 := hk.1.2.2.2.2.2.2.1
    have b2 := hk.1.2.2.1
    have b0 := hk.1.1
    have k5 := hk.2.2.2.2.1 k (by omega)
    have e1 : w32 ((k : Int) + 1) = ((k + 1 : Nat) : Int) := by rw [w32_s (by omega) (by omega)]; omega
    have bp := (hk.2.1 (a (106 + 2 * k)).toNat (by omega)).2.2
    have x1 : w32 (105 + w32 (2 * (k : Int))) = 105 + 2 * (k : Int) := by rw [w32_s (a := 2 * (k : Int)) (by omega) (by omega), w32_s (by omega) (by omega)]
    have x2 : w32 (105 + 2 * (k : Int) + 1) = 106 + 2 * (k : Int) := by rw [w32_s (by omega) (by omega)]; omega
    have x3 : (105 + 2 * (k : Int)).toNat = 105 + 2 * k := by omega
    have x4 : (106 + 2 * (k : Int)).toNat = 106 + 2 * k := by omega
    have ep : sh_Mo_pitchOf N (a (106 + 2 * k)) g = some (a (12 + 3 * (a (106 + 2 * k)).toNat)) := by
      unfold sh_Mo_pitchOf
      have ex : (10 + 3 * a (106 + 2 * k) + 2).toNat = 12 + 3 * (a (106 + 2 * k)).toNat := by omega
      rw [ea]
      simp (disch := omega) only [zst_if, zup1_ne, zup1_eq, w32_s, rget_in, rput_in, zgrd, Nat.reduceEqDiff, Nat.reduceAdd, ↓reduceIte, Int.reduceToNat, zb1_some, zb2_some, zb3_some, zb4_some, zb5_some, Int.toNat_natCast, true_and, and_true, ex]
    unfold sh_Mo_isCalled_L2
    unfold zca
    rw [x1, x2, x3, x4, ea, if_neg (c := a 6 ≤ (k : Int)) (by omega), zgrd (by omega) (by omega), e1]
    by_cases c : a (105 + 2 * k) = hr
    · rw [if_pos c, zgrd (by omega) (by omega), ep]
      simp only [zb1_some]
      obtain ⟨g1, g2, p1, p2, p3, -, p5⟩ := zhd_r hN K (o := o) (l := l) (f := a (106 + 2 * k)) (p := a (12 + 3 * (a (106 + 2 * k)).toNat)) (y := 1) (hr := hr) (by rw [ea]; exact ho) hl (by omega) (by unfold zB6; omega) ⟨by decide, by decide⟩ hh
      rw [ea] at p2 p5
      rw [p1]
      simp only [zb1_some]
      rw [p2]
      simp only [zb2_some]
      by_cases c1 : zHv a T o (a (106 + 2 * k)) (a (12 + 3 * (a (106 + 2 * k)).toNat)) l 1 hr = 0
      · rw [if_pos c1, if_neg (fun q => by rw [c1] at q; exact absurd q.2 (by decide))]
        obtain ⟨g3, r1, r2⟩ := ih n (k + 1) g2 (zKr_eq K (p3 86 (by decide)) (p3 88 (by decide))) (by rw [p3 86 (by decide)]; exact ea) (by omega) (by omega)
        exact ⟨g3, r1, p3.trans r2⟩
      · rw [if_neg c1, if_pos ⟨c, p5.resolve_left c1⟩]
        exact ⟨g2, by rw [if_pos rfl], p3⟩
    · rw [if_neg c, if_neg (fun q => c q.1)]
      exact ih n (k + 1) g K ea (by omega) (by omega)
theorem zcb_r {a : zFn} {T : Nat → Nat → List Int} {N : Nat} (hN : 1300 ≤ N) {o l : Nat} {hr : Int} (ho : (o : Int) < a 2) (hl : l < 4) (hh : zB6 hr) {g : zHp} (K : zKr g T) (ea : g 86 = a) :
    ∃ g1, sh_Mo_isCalled N (o : Int) (l : Int) hr g = some (if zcb a T o l hr = true then 1 else 0, g1) ∧ zFr [91, 92, 93] g g1 := by
  have b6 := K.1.1.2.2.2.2.2.2.1
  rw [ea] at b6
  obtain ⟨g1, p1, p2⟩ := zca_r hN ho hl hh (a 6).toNat N 0 g K ea (by omega) (by omega)
  refine ⟨g1, ?_, p2⟩
  unfold sh_Mo_isCalled
  refine (congrArg (fun o => zb1 o fun w28 => zsum2 w28 (zcu1 fun h29 => some ((1 : Int), h29)) (zcu1 fun h30 => some ((0 : Int), h30))) p1).trans ?_
  unfold zcb
  cases zca a T o l hr (a 6).toNat 0 <;> rfl
/-- the first of d from k on -/
def zhT (B : Nat → Bool) : Nat → Nat → Nat
  | 0, k => k
  | d + 1, k => if B k = true then k else zhT B d (k + 1)
theorem zhT_b (B : Nat → Bool) : ∀ d k, k ≤ zhT B d k ∧ zhT B d k ≤ k + d := by
  intro d
  induction d with
  | zero => intro k; exact ⟨Nat.le_refl _, Nat.le_refl _⟩
  | succ d ih =>
    intro k
    unfold zhT
    split
    · omega
    · have := ih (k + 1); omega
theorem zhT_or (B C : Nat → Bool) : ∀ d k, zhT (fun i => B i || C i) d k = if zhT B d k ≤ zhT C d k then zhT B d k else zhT C d k := by
  intro d
  induction d with
  | zero =>
    intro k
    show k = if k ≤ k then k else k
    rw [if_pos (Nat.le_refl k)]
  | succ d ih =>
    intro k
    have hb := zhT_b B d (k + 1)
    have hc := zhT_b C d (k + 1)
    unfold zhT
    by_cases c1 : B k = true
    · rw [if_pos (by rw [c1]; rfl), if_pos c1]
      by_cases c2 : C k = true
      · rw [if_pos c2, if_pos (Nat.le_refl k)]
      · rw [if_neg c2, if_pos (by omega)]
    · by_cases c2 : C k = true
      · rw [if_pos (by rw [c2, Bool.or_true]), if_neg c1, if_pos c2, if_neg (by omega)]
      · rw [if_neg (by simp [c1, c2]), if_neg c1, if_neg c2]
        exact ih (k + 1)
def zBq (a : zFn) (T : Nat → Nat → List Int) (o l : Nat) (t : Nat) : Bool := zcb a T o l ((a 3 + t) % 24)
theorem zhr_s {x : Int} {t : Nat} (hx : 0 ≤ x ∧ x ≤ 23) (ht : t < 100) : w32 ((w32 (x + (t : Int))).tmod 24) = (x + t) % 24 ∧ zB6 ((x + t) % 24) := by
  rw [w32_s (a := x + (t : Int)) (by omega) (by omega), Int.tmod_eq_emod_of_nonneg (by omega), w32_s (by omega) (by omega)]
  exact ⟨rfl, by unfold zB6; omega⟩
theorem zht_c {a : zFn} {T : Nat → Nat → List Int} {N : Nat} (hN : 1300 ≤ N) {o l q : Nat} (ho : (o : Int) < a 2) (hl : l < 4) (hq : q < 100) : ∀ (d n k : Nat) (h : zHp), zKc h a T → k + d = q → d < n →
    ∃ h1, sh_Stays_hoursTill_L2 N n (o : Int) (l : Int) (q : Int) (k : Int) h = some (if zhT (zBq a T o l) d k < q then .inl ((zhT (zBq a T o l) d k : Int), h1) else .inr ((zhT (zBq a T o l) d k : Int), h1)) ∧ zFr [33, 35, 37] h h1 := by
  intro d
  induction d with
  | zero =>
    intro n k h K hk hn
    obtain ⟨n, rfl⟩ : ∃ m, n = m + 1 := ⟨n - 1, by omega⟩
    refine ⟨h, ?_, zFr.refl h⟩
    unfold sh_Stays_hoursTill_L2 zhT
    rw [if_pos (by omega), if_neg (by omega), show (k : Int) = (q : Int) by omega]
  | succ d ih =>
    intro n k h K hk hn
    obtain ⟨n, rfl⟩ : ∃ m, n = m + 1 := ⟨n - 1, by omega⟩
    have e3 : h 16 0 = a 3 := K.1.1.1.2.2.2.1
    have b3 := K.1.2.1.2.2.2.1
    have e1 : w32 ((k : Int) + 1) = ((k + 1 : Nat) : Int) := by rw [w32_s (by omega) (by omega)]; omega
    obtain ⟨x1, x2⟩ := zhr_s (x := a 3) (t := k) b3 (by omega)
    obtain ⟨h1, p1, p2⟩ := zcb_c hN ho hl x2 K
    unfold sh_Stays_hoursTill_L2 zhT
    rw [if_neg (c := (q : Int) ≤ (k : Int)) (by omega), hour_s, e3, x1, p1]
    simp only [zb2_some]
    by_cases c : zBq a T o l k = true
    · have c' : zcb a T o l ((a 3 + (k : Int)) % 24) = true := c
      rw [if_pos c', if_neg (by decide), if_pos c]
      exact ⟨h1, by rw [if_pos (by omega)], p2⟩
    · have c' : ¬ zcb a T o l ((a 3 + (k : Int)) % 24) = true := c
      rw [if_neg c', if_pos rfl, if_neg c, e1]
      obtain ⟨h2, r1, r2⟩ := ih n (k + 1) h1 (zKc_fr K p2 (by decide)) (by omega) (by omega)
      exact ⟨h2, r1, p2.trans r2⟩
theorem zhS_c {a : zFn} {T : Nat → Nat → List Int} {N : Nat} (hN : 1300 ≤ N) {o l q : Nat} (ho : (o : Int) < a 2) (hl : l < 4) (hq : q < 100) {h : zHp} (K : zKc h a T) :
    ∃ h1, sh_Stays_hoursTill N (o : Int) (l : Int) (q : Int) h = some ((zhT (zBq a T o l) q 0 : Int), h1) ∧ zFr [33, 35, 37] h h1 := by
  obtain ⟨h1, p1, p2⟩ := zht_c (T := T) hN ho hl hq q N 0 h K (by omega) (by omega)
  refine ⟨h1, ?_, p2⟩
  unfold sh_Stays_hoursTill
  refine (congrArg (fun o => zb1 o fun w15 => zsum2 w15 (zcu2 fun y16 h17 => some (y16, h17)) (zcu2 fun y18 h19 => some (y18, h19))) p1).trans ?_
  by_cases c : zhT (zBq a T o l) q 0 < q
  · rw [if_pos c]; rfl
  · rw [if_neg c]; rfl
theorem zht_r {a : zFn} {T : Nat → Nat → List Int} {N : Nat} (hN : 1300 ≤ N) {o m l q : Nat} (ho : (o : Int) < a 2) (hm : (m : Int) < a 2) (hl : l < 4) (hq : q < 100) : ∀ (d n k : Nat) (g : zHp), zKr g T → g 86 = a → k + d = q → d < n →
    ∃ g1, sh_Mo_stayOf_L2 N n (o : Int) (m : Int) (l : Int) (q : Int) (k : Int) g = some (if zhT (fun i => zBq a T o l i || zBq a T m l i) d k < q then .inl ((zhT (fun i => zBq a T o l i || zBq a T m l i) d k : Int), g1) else .inr ((zhT (fun i => zBq a T o l i || zBq a T m l i) d k : Int), g1)) ∧ zFr [91, 92, 93] g g1 := by
  intro d
  induction d with
  | zero =>
    intro n k g K ea hk hn
    obtain ⟨n, rfl⟩ : ∃ m, n = m + 1 := ⟨n - 1, by omega⟩
    refine ⟨g, ?_, zFr.refl g⟩
    unfold sh_Mo_stayOf_L2 zhT
    rw [if_pos (by omega), if_neg (by omega), show (k : Int) = (q : Int) by omega]
  | succ d ih =>
    intro n k g K ea hk hn
    obtain ⟨n, rfl⟩ : ∃ m, n = m + 1 := ⟨n - 1, by omega⟩
    have b3 := K.1.1.2.2.2.1
    rw [ea] at b3
    have e1 : w32 ((k : Int) + 1) = ((k + 1 : Nat) : Int) := by rw [w32_s (by omega) (by omega)]; omega
    obtain ⟨x1, x2⟩ := zhr_s (x := a 3) (t := k) b3 (by omega)
    obtain ⟨g1, p1, p2⟩ := zcb_r hN ho hl x2 K ea
    have K1 := zKr_eq K (p2 86 (by decide)) (p2 88 (by decide))
    have ea1 : g1 86 = a := by rw [p2 86 (by decide)]; exact ea
    unfold sh_Mo_stayOf_L2 zhT
    rw [if_neg (c := (q : Int) ≤ (k : Int)) (by omega), ea, x1, p1]
    simp only [zb2_some]
    by_cases c : zBq a T o l k = true
    · have c' : zcb a T o l ((a 3 + (k : Int)) % 24) = true := c
      rw [if_pos c', if_neg (by decide), if_pos (by rw [c]; rfl)]
      exact ⟨g1, by rw [if_pos (by omega)], p2⟩
    · have c' : ¬ zcb a T o l ((a 3 + (k : Int)) % 24) = true := c
      rw [if_neg c', if_pos rfl]
      obtain ⟨g2, s1, s2⟩ := zcb_r hN hm hl x2 K1 ea1
      rw [s1]
      simp only [zb2_some]
      by_cases cm : zBq a T m l k = true
      · have cm' : zcb a T m l ((a 3 + (k : Int)) % 24) = true := cm
        rw [if_pos cm', if_neg (by decide), if_pos (by rw [cm, Bool.or_true])]
        exact ⟨g2, by rw [if_pos (by omega)], p2.trans s2⟩
      · have cm' : ¬ zcb a T m l ((a 3 + (k : Int)) % 24) = true := cm
        rw [if_neg cm', if_pos rfl, if_neg (by simp [c, cm]), e1]
        obtain ⟨g3, r1, r2⟩ := ih n (k + 1) g2 (zKr_eq K1 (s2 86 (by decide)) (s2 88 (by decide))) (by rw [s2 86 (by decide)]; exact ea1) (by omega) (by omega)
        exact ⟨g3, r1, (p2.trans s2).trans r2⟩
def zst2 (a : zFn) (T : Nat → Nat → List Int) (o m l q : Nat) : Nat := if zhT (zBq a T o l) q 0 ≤ zhT (zBq a T m l) q 0 then zhT (zBq a T o l) q 0 else zhT (zBq a T m l) q 0
theorem zst2_b {a : zFn} {T : Nat → Nat → List Int} {o m l q : Nat} : zst2 a T o m l q ≤ q := by
  have h1 := zhT_b (zBq a T o l) q 0
  have h2 := zhT_b (zBq a T m l) q 0
  unfold zst2
  split <;> omega
theorem zhS_r {a : zFn} {T : Nat → Nat → List Int} {N : Nat} (hN : 1300 ≤ N) {o m l q : Nat} (ho : (o : Int) < a 2) (hm : (m : Int) < a 2) (hl : l < 4) (hq : q < 100) {g : zHp} (K : zKr g T) (ea : g 86 = a) :
    ∃ g1, sh_Mo_stayOf N (o : Int) (m : Int) (l : Int) (q : Int) g = some ((zst2 a T o m l q : Int), g1) ∧ zFr [91, 92, 93] g g1 := by
  obtain ⟨g1, p1, p2⟩ := zht_r hN ho hm hl hq q N 0 g K ea (by omega) (by omega)
  refine ⟨g1, ?_, p2⟩
  have e := zhT_or (zBq a T o l) (zBq a T m l) q 0
  unfold sh_Mo_stayOf zst2
  rw [← e]
  refine (congrArg (fun o => zb1 o fun w15 => zsum2 w15 (zcu2 fun y16 h17 => some (y16, h17)) (zcu2 fun y18 h19 => some (y18, h19))) p1).trans ?_
  by_cases c : zhT (fun i => zBq a T o l i || zBq a T m l i) q 0 < q
  · rw [if_pos c]; rfl
  · rw [if_neg c]; rfl
theorem zmin_n {x y : Nat} : zmin (x : Int) (y : Int) = ((if x ≤ y then x else y : Nat) : Int) := by
  unfold zmin
  by_cases c : x ≤ y
  · rw [if_pos (by omega), if_pos c]
  · rw [if_neg (by omega), if_neg c]
/-- what is done in d hours from k on -/
def zsm (W : Nat → Int) : Nat → Nat → Int → Int
  | 0, _, s => s
  | d + 1, k, s => zsm W d (k + 1) (s + W k)
theorem zsm_b {W : Nat → Int} (hW : ∀ k, 0 ≤ W k ∧ W k ≤ 99) : ∀ (d k : Nat) (s : Int), s ≤ zsm W d k s ∧ zsm W d k s ≤ s + 99 * d := by
  intro d
  induction d with
  | zero => intro k s; unfold zsm; omega
  | succ d ih => intro k s; unfold zsm; have := ih (k + 1) (s + W k); have := hW k; omega
def zWq (a : zFn) (T : Nat → Nat → List Int) (o m l : Nat) (t : Nat) : Int := zWk a T o m l ((a 3 + t) % 24)
theorem zdn_c {a : zFn} {T : Nat → Nat → List Int} {N : Nat} (hN : 1300 ≤ N) {o m l q : Nat} (ho : (o : Int) < a 2) (hm : (m : Int) < a 2) (hl : l < 4) (hq : q < 100) (fu : Int) : ∀ (d n k : Nat) (s : Int) (h : zHp), zKc h a T → k + d = q → d < n → 0 ≤ s → s ≤ 99 * k →
    ∃ s1 h1, sh_Stays_doneIn_L10 N n (o : Int) (m : Int) (l : Int) (q : Int) fu s (k : Int) h = some (fu, s1, h1) ∧ zmin s1 fu = zmin (zsm (zWq a T o m l) d k s) fu ∧ zFr [35, 37] h h1 := by
  intro d
  induction d with
  | zero =>
    intro n k s h K hk hn h0 h1
    obtain ⟨n, rfl⟩ : ∃ m, n = m + 1 := ⟨n - 1, by omega⟩
    refine ⟨s, h, ?_, rfl, zFr.refl h⟩
    unfold sh_Stays_doneIn_L10
    rw [if_pos (by omega)]
  | succ d ih =>
    intro n k s h K hk hn h0 h1
    obtain ⟨n, rfl⟩ : ∃ m, n = m + 1 := ⟨n - 1, by omega⟩
    have e3 : h 16 0 = a 3 := K.1.1.1.2.2.2.1
    have b3 := K.1.2.1.2.2.2.1
    have e1 : w32 ((k : Int) + 1) = ((k + 1 : Nat) : Int) := by rw [w32_s (by omega) (by omega)]; omega
    unfold sh_Stays_doneIn_L10
    rw [if_neg (c := (q : Int) ≤ (k : Int)) (by omega)]
    by_cases c : fu ≤ s
    · rw [if_pos c]
      refine ⟨s, h, rfl, ?_, zFr.refl h⟩
      have := (zsm_b (W := zWq a T o m l) (fun k => zWk_b) (d + 1) k s).1
      unfold zmin
      by_cases c2 : s ≤ fu
      · rw [if_pos c2]
        split <;> omega
      · rw [if_neg c2, if_neg (by omega)]
    · obtain ⟨x1, x2⟩ := zhr_s (x := a 3) (t := k) b3 (by omega)
      obtain ⟨h2, p1, p2⟩ := zwork_c hN K ho hm hl x2
      have hw := zWk_b (a := a) (T := T) (o := o) (m := m) (l := l) (hr := (a 3 + (k : Int)) % 24)
      rw [if_neg c, hour_s, e3, x1, p1]
      simp only [zb2_some]
      rw [e1, w32_s (a := s + _) (by omega) (by omega)]
      obtain ⟨s1, h3, r1, r2, r3⟩ := ih n (k + 1) (s + zWk a T o m l ((a 3 + (k : Int)) % 24)) h2 (zKc_fr K p2 (by decide)) (by omega) (by omega) (by omega) (by omega)
      exact ⟨s1, h3, r1, r2, p2.trans r3⟩
def zdn (a : zFn) (T : Nat → Nat → List Int) (o m l q : Nat) : Int := zmin (zsm (zWq a T o m l) q 0 0) (a (28 + 4 * l))
theorem zdone_c {a : zFn} {T : Nat → Nat → List Int} {N : Nat} (hN : 1300 ≤ N) {o m l q : Nat} (ho : (o : Int) < a 2) (hm : (m : Int) < a 2) (hl : l < 4) (hq : q < 100) {h : zHp} (K : zKc h a T) :
    ∃ h1, sh_Stays_doneIn N (o : Int) (m : Int) (l : Int) (q : Int) h = some (zdn a T o m l q, h1) ∧ zFr [35, 37] h h1 := by
  have y3 := (K.1.1.2.2.1 l hl).2.2.2
  simp only [Nat.reduceAdd] at y3
  obtain ⟨s1, h1, p1, p2, p3⟩ := zdn_c (T := T) hN ho hm hl hq (a (28 + 4 * l)) q N 0 0 h K (by omega) (by omega) (by decide) (by decide)
  refine ⟨h1, ?_, p3⟩
  unfold sh_Stays_doneIn
  rw [furr_s (by omega) (by omega), Int.toNat_natCast, y3]
  refine (congrArg (fun o => zb3 o fun y19 y20 h21 => some (zmin y20 y19, h21)) p1).trans ?_
  simp only [zb3_some]
  rw [p2]
  rfl
theorem zdn_r {a : zFn} {T : Nat → Nat → List Int} {N : Nat} (hN : 1300 ≤ N) {o m l q : Nat} (ho : (o : Int) < a 2) (hm : (m : Int) < a 2) (hl : l < 4) (hq : q < 100) : ∀ (d n k : Nat) (s : Int) (g : zHp), zKr g T → g 86 = a → k + d = q → d < n → 0 ≤ s → s ≤ 99 * k →
    ∃ g1, sh_Mo_doneOf_L11 N n (o : Int) (m : Int) (l : Int) s (q : Int) (k : Int) g = some ((l : Int), zsm (zWq a T o m l) d k s, g1) ∧ zFr [91, 92, 93] g g1 := by
  intro d
  induction d with
  | zero =>
    intro n k s g K ea hk hn h0 h1
    obtain ⟨n, rfl⟩ : ∃ m, n = m + 1 := ⟨n - 1, by omega⟩
    refine ⟨g, ?_, zFr.refl g⟩
    unfold sh_Mo_doneOf_L11
    rw [if_pos (by omega)]
    rfl
  | succ d ih =>
    intro n k s g K ea hk hn h0 h1
    obtain ⟨n, rfl⟩ : ∃ m, n = m + 1 := ⟨n - 1, by omega⟩
    have b3 := K.1.1.2.2.2.1
    rw [ea] at b3
    have e1 : w32 ((k : Int) + 1) = ((k + 1 : Nat) : Int) := by rw [w32_s (by omega) (by omega)]; omega
    obtain ⟨x1, x2⟩ := zhr_s (x := a 3) (t := k) b3 (by omega)
    obtain ⟨g2, p1, p2⟩ := zwork_r hN K (o := o) (m := m) (l := l) (hr := (a 3 + (k : Int)) % 24) (by rw [ea]; exact ho) (by rw [ea]; exact hm) hl x2
    have hw := zWk_b (a := a) (T := T) (o := o) (m := m) (l := l) (hr := (a 3 + (k : Int)) % 24)
    rw [ea] at p1
    unfold sh_Mo_doneOf_L11
    rw [if_neg (c := (q : Int) ≤ (k : Int)) (by omega), ea, x1, p1]
    simp only [zb2_some]
    rw [e1, w32_s (a := s + _) (by omega) (by omega)]
    obtain ⟨g3, r1, r3⟩ := ih n (k + 1) (s + zWk a T o m l ((a 3 + (k : Int)) % 24)) g2 (zKr_eq K (p2 86 (by decide)) (p2 88 (by decide))) (by rw [p2 86 (by decide)]; exact ea) (by omega) (by omega) (by omega) (by omega)
    exact ⟨g3, r1, p2.trans r3⟩
theorem zdone_r {a : zFn} {T : Nat → Nat → List Int} {N : Nat} (hN : 1300 ≤ N) {o m l q : Nat} (ho : (o : Int) < a 2) (hm : (m : Int) < a 2) (hl : l < 4) (hq : q < 100) {g : zHp} (K : zKr g T) (ea : g 86 = a) :
    ∃ g1, sh_Mo_doneOf N (o : Int) (m : Int) (l : Int) (q : Int) g = some (zdn a T o m l (zst2 a T o m l q), g1) ∧ zFr [91, 92, 93] g g1 := by
  have hs := zst2_b (a := a) (T := T) (o := o) (m := m) (l := l) (q := q)
  obtain ⟨g1, p1, p2⟩ := zhS_r hN ho hm hl hq K ea
  have ea1 : g1 86 = a := by rw [p2 86 (by decide)]; exact ea
  obtain ⟨g2, r1, r2⟩ := zdn_r (T := T) hN ho hm hl (q := zst2 a T o m l q) (by omega) (zst2 a T o m l q) N 0 0 g1 (zKr_eq K (p2 86 (by decide)) (p2 88 (by decide))) ea1 (by omega) (by omega) (by decide) (by decide)
  refine ⟨g2, ?_, p2.trans r2⟩
  unfold sh_Mo_doneOf
  rw [p1]
  simp only [zb2_some]
  refine (congrArg (fun o => zb3 o fun y17 y18 h19 => if 0 ≤ w32 ((w32 (25 + (w32 (4 * y17)))) + 3) ∧ w32 ((w32 (25 + (w32 (4 * y17)))) + 3) < 1061 then some ((if y18 ≤ h19 86 (w32 ((w32 (25 + (w32 (4 * y17)))) + 3)).toNat then y18 else h19 86 (w32 ((w32 (25 + (w32 (4 * y17)))) + 3)).toNat : Int), h19) else none) r1).trans ?_
  simp only [zb3_some]
  have e25 : w32 (w32 (25 + w32 (4 * (l : Int))) + 3) = 28 + 4 * (l : Int) := by
    rw [w32_s (a := 4 * (l : Int)) (by omega) (by omega), w32_s (a := 25 + 4 * (l : Int)) (by omega) (by omega), w32_s (by omega) (by omega)]; omega
  rw [e25, zgrd (by omega) (by omega), r2 86 (by decide), ea1, show (28 + 4 * (l : Int)).toNat = 28 + 4 * l by omega]
  rfl
theorem zc_stay {h : zHp} (x y f n b : Int) (hI : zInv h) {N : Nat} (hN : 1300 ≤ N) : ∃ h2, zcas (sh_Ox_stay N x y f n b) (sh_Mo_stay N x y f n b) h = some (1, h2) ∧ zInv h2 := by
  have hI' := hI
  obtain ⟨⟨hy, hk⟩, -⟩ := hI'
  have e0 : h 16 2 = h 86 2 := hy.1.2.2.1
  have e1 : h 16 1 = h 86 1 := hy.1.2.1
  have k0 := hk.1
  by_cases c : (x ≠ y ∧ (0 ≤ x ∧ x < h 86 2) ∧ (0 ≤ y ∧ y < h 86 2)) ∧ (0 ≤ f ∧ f < h 86 1) ∧ (1 ≤ n ∧ n ≤ 24)
  · obtain ⟨T, K, R⟩ := zK_of hI
    obtain ⟨o, rfl⟩ : ∃ n : Nat, x = n := ⟨x.toNat, by omega⟩
    obtain ⟨m, rfl⟩ : ∃ n : Nat, y = n := ⟨y.toNat, by omega⟩
    obtain ⟨l, rfl⟩ : ∃ n : Nat, f = n := ⟨f.toNat, by omega⟩
    obtain ⟨q, rfl⟩ : ∃ q : Nat, n = q := ⟨n.toNat, by omega⟩
    obtain ⟨h1, p1, p2⟩ := zhS_c (q := q) hN (o := o) (l := l) (by omega) (by omega) (by omega) K
    obtain ⟨h2, r1, r2⟩ := zhS_c (q := q) hN (o := m) (l := l) (by omega) (by omega) (by omega) (zKc_fr K p2 (by decide))
    have ez : zmin (zhT (zBq (h 86) T o l) q 0 : Int) (zhT (zBq (h 86) T m l) q 0 : Int) = (zst2 (h 86) T o m l q : Int) := zmin_n
    have f2 : zFr [33, 35, 37] h h2 := p2.trans r2
    have hs := zst2_b (a := h 86) (T := T) (o := o) (m := m) (l := l) (q := q)
    by_cases cb : b = 0
    · have f86 := f2 86 (by decide)
      obtain ⟨g1, s1, s2⟩ := zhS_r hN (o := o) (m := m) (l := l) (q := q) (a := h 86) (by omega) (by omega) (by omega) (by omega) (zKr_eq R f86 (f2 88 (by decide))) f86
      refine ⟨g1, zcas_of (r := (zst2 (h 86) T o m l q : Int)) (h1 := h2) ?_ ?_, zqry hI ((zQ_fr f2 (by decide)).trans (zQ_fr s2 (by decide)))⟩
      · unfold sh_Ox_stay
        simp only [isPair_z (h := h) (x := (o : Int)) (y := (m : Int)) (by omega), isField_z (h := h) (x := (l : Int)) (by omega), within_z, e0, e1]
        rw [if_neg (by omega), if_neg (by omega), if_neg (by omega), p1]
        simp only [zb2_some]
        rw [r1]
        simp only [zb2_some]
        rw [if_pos cb, ez]
      · unfold sh_Mo_stay
        simp only [isOxR_z (h := h2) (x := (o : Int)) (by rw [f86]; omega), isOxR_z (h := h2) (x := (m : Int)) (by rw [f86]; omega), isFieldR_z (h := h2) (x := (l : Int)) (by rw [f86]; omega), isIn_z, f86]
        rw [if_neg (by omega), if_neg (by omega), if_neg (by omega), if_neg (by omega), if_neg (by omega), if_pos cb, s1]
        rfl
    · obtain ⟨h3, t1, t2⟩ := zdone_c hN (o := o) (m := m) (l := l) (q := zst2 (h 86) T o m l q) (by omega) (by omega) (by omega) (by omega) (zKc_fr K f2 (by decide))
      have f3 : zFr [33, 35, 37] h h3 := f2.trans (t2.mono (by simp))
      have f86 := f3 86 (by decide)
      obtain ⟨g1, s1, s2⟩ := zdone_r hN (o := o) (m := m) (l := l) (q := q) (a := h 86) (by omega) (by omega) (by omega) (by omega) (zKr_eq R f86 (f3 88 (by decide))) f86
      refine ⟨g1, zcas_of (r := zdn (h 86) T o m l (zst2 (h 86) T o m l q)) (h1 := h3) ?_ ?_, zqry hI ((zQ_fr f3 (by decide)).trans (zQ_fr s2 (by decide)))⟩
      · unfold sh_Ox_stay
        simp only [isPair_z (h := h) (x := (o : Int)) (y := (m : Int)) (by omega), isField_z (h := h) (x := (l : Int)) (by omega), within_z, e0, e1]
        rw [if_neg (by omega), if_neg (by omega), if_neg (by omega), p1]
        simp only [zb2_some]
        rw [r1]
        simp only [zb2_some]
        rw [if_neg cb, ez, t1]
        rfl
      · unfold sh_Mo_stay
        simp only [isOxR_z (h := h3) (x := (o : Int)) (by rw [f86]; omega), isOxR_z (h := h3) (x := (m : Int)) (by rw [f86]; omega), isFieldR_z (h := h3) (x := (l : Int)) (by rw [f86]; omega), isIn_z, f86]
        rw [if_neg (by omega), if_neg (by omega), if_neg (by omega), if_neg (by omega), if_neg (by omega), if_neg cb, s1]
        rfl
  · refine ⟨h, zcas_of (r := -1) (h1 := h) ?_ ?_, hI⟩
    · unfold sh_Ox_stay
      simp only [isPair_z (h := h) (x := x) (y := y) (by omega), isField_z (h := h) (x := f) (by omega), within_z, e0, e1]
      by_cases c1 : x ≠ y ∧ (0 ≤ x ∧ x < h 86 2) ∧ (0 ≤ y ∧ y < h 86 2)
      · rw [if_neg (fun q => q c1)]
        by_cases c2 : 0 ≤ f ∧ f < h 86 1
        · rw [if_neg (by omega), if_pos (by omega)]
        · rw [if_pos (by omega)]
      · rw [if_pos c1]
    · unfold sh_Mo_stay
      simp only [isOxR_z (h := h) (x := x) (by omega), isOxR_z (h := h) (x := y) (by omega), isFieldR_z (h := h) (x := f) (by omega), isIn_z]
      by_cases c1 : 0 ≤ x ∧ x < h 86 2
      · rw [if_neg (by omega)]
        by_cases c2 : 0 ≤ y ∧ y < h 86 2
        · rw [if_neg (by omega)]
          by_cases c3 : x = y
          · rw [if_pos c3]
          · rw [if_neg c3]
            by_cases c4 : 0 ≤ f ∧ f < h 86 1
            · rw [if_neg (by omega), if_pos (by omega)]
            · rw [if_pos (by omega)]
        · rw [if_pos (by omega)]
      · rw [if_pos (by omega)]
