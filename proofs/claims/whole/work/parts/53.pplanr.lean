/-! PURE: plan, the reference -/
def zR9 (g : zHp) (dn : Nat → Nat → Int) (D f p : Nat) : Prop := ∀ f' p', p' < 80 → p' / 10 < p' % 10 → p' % 10 < D → (f' < f ∨ f' = f ∧ p' < p) → g 95 (80 * f' + p') = dn f' p'
theorem zrd_1 {a : zFn} {T : Nat → Nat → List Int} {N : Nat} (hN : 1300 ≤ N) {f q D : Nat} {x2 : Int} (hD : a 2 = D) (hD8 : D ≤ 8) (hf : f < 4) (hq : q < 100) : ∀ (d n p : Nat) (g : zHp), zKr g T → g 86 = a → p + d = 80 → d < n → zR9 g (zdF a T q) D f p →
    ∃ g1, sh_Mo_plan_L24 N n (q : Int) x2 (f : Int) (p : Int) g = some ((q : Int), x2, (f : Int), g1) ∧ zR9 g1 (zdF a T q) D f 80 ∧ zFr [91, 92, 93, 95] g g1 := by
  intro d
  induction d with
  | zero =>
    intro n p g K ea hp hn hh
    obtain ⟨n, rfl⟩ : ∃ m, n = m + 1 := ⟨n - 1, by omega⟩
    obtain rfl : p = 80 := by omega
    refine ⟨g, ?_, hh, zFr.refl g⟩
    unfold sh_Mo_plan_L24
    rw [if_pos (by omega)]
  | succ d ih =>
    intro n p g K ea hp hn hh
    obtain ⟨n, rfl⟩ : ∃ m, n = m + 1 := ⟨n - 1, by omega⟩
    have e1 : w32 ((p : Int) + 1) = ((p + 1 : Nat) : Int) := by rw [w32_s (by omega) (by omega)]; omega
    obtain ⟨d1, d2⟩ := zdm_s (p := p) (by omega)
    have ex : w32 (w32 (80 * (f : Int)) + (p : Int)) = ((80 * f + p : Nat) : Int) := by rw [w32_s (a := 80 * (f : Int)) (by omega) (by omega), w32_s (by omega) (by omega)]; omega
    have hz := zisP (p := p) (u := 0) (d := D) (g := g) (by omega) (by decide) (by rw [ea]; exact hD) hD8
    have hz' : (sh_Mo_isPair (p : Int) 0 g = 0) = ¬ (p / 10 < p % 10 ∧ p % 10 < D) := by
      refine hz.trans ?_
      rw [Nat.zero_testBit, Nat.zero_testBit]
      simp
    -- the next, with v put
    have hnext : ∀ (v : Int) (g1 : zHp), zFr [91, 92, 93, 95] g g1 → g1 95 = g 95 → ((p / 10 < p % 10 ∧ p % 10 < D) → v = zdF a T q f p) → ∃ g2, sh_Mo_plan_L24 N n (q : Int) x2 (f : Int) ((p + 1 : Nat) : Int) (zst g1 95 (80 * f + p) v) = some ((q : Int), x2, (f : Int), g2) ∧ zR9 g2 (zdF a T q) D f 80 ∧ zFr [91, 92, 93, 95] g g2 := by
      intro v g1 f1 e95 hv
      have f2 : zFr [91, 92, 93, 95] g (zst g1 95 (80 * f + p) v) := f1.st (by decide)
      obtain ⟨g2, r1, r2, r3⟩ := ih n (p + 1) (zst g1 95 (80 * f + p) v) (zKr_eq K (f2 86 (by decide)) (f2 88 (by decide))) (by rw [f2 86 (by decide)]; exact ea) (by omega) (by omega) (fun f' p' w1 w2 w3 w4 => by
        rw [zst_if, if_pos rfl, zup1_if]
        by_cases e : 80 * f' + p' = 80 * f + p
        · obtain ⟨rfl, rfl⟩ : f' = f ∧ p' = p := by omega
          rw [if_pos rfl]
          exact hv ⟨w2, w3⟩
        · rw [if_neg e, e95]
          exact hh f' p' w1 w2 w3 (by omega))
      exact ⟨g2, r1, r2, f2.trans r3⟩
    unfold sh_Mo_plan_L24
    rw [if_neg (c := 80 ≤ (p : Int)) (by omega)]
    simp only [hz']
    rw [d1, d2, e1, ex, zgrd (by omega) (by omega), Int.toNat_natCast]
    by_cases c : p / 10 < p % 10 ∧ p % 10 < D
    · rw [if_neg (fun q => q c)]
      obtain ⟨g1, p1, p2⟩ := zdone_r hN (o := p / 10) (m := p % 10) (l := f) (q := q) (a := a) (by omega) (by omega) hf hq K ea
      rw [p1]
      simp only [zb2_some]
      rw [zgrd (by omega) (by omega)]
      refine hnext _ g1 (p2.mono (by simp)) (p2 95 (by decide)) (fun _ => ?_)
      unfold zdF zdq
      rw [if_pos hf]
    · rw [if_pos c]
      exact hnext 0 g (zFr.refl g) rfl (fun q => absurd q c)
theorem zrd_2 {a : zFn} {T : Nat → Nat → List Int} {N : Nat} (hN : 1300 ≤ N) {q D F : Nat} {x2 : Int} (hD : a 2 = D) (hF : a 1 = F) (hq : q < 100) : ∀ (d n f : Nat) (g : zHp), zKr g T → g 86 = a → f + d = F → d < n → zR9 g (zdF a T q) D f 0 →
    ∃ g1, sh_Mo_plan_L16 N n (q : Int) x2 (f : Int) g = some (x2, g1) ∧ zR9 g1 (zdF a T q) D F 0 ∧ zFr [91, 92, 93, 95] g g1 := by
  intro d
  induction d with
  | zero =>
    intro n f g K ea hf hn hh
    obtain ⟨n, rfl⟩ : ∃ m, n = m + 1 := ⟨n - 1, by omega⟩
    obtain rfl : f = F := by omega
    refine ⟨g, ?_, hh, zFr.refl g⟩
    unfold sh_Mo_plan_L16
    rw [ea, if_pos (by omega)]
  | succ d ih =>
    intro n f g K ea hf hn hh
    obtain ⟨n, rfl⟩ : ∃ m, n = m + 1 := ⟨n - 1, by omega⟩
    have b1 := K.1.1.2.1
    have b2 := K.1.1.2.2.1
    rw [ea] at b1 b2
    have e1 : w32 ((f : Int) + 1) = ((f + 1 : Nat) : Int) := by rw [w32_s (by omega) (by omega)]; omega
    obtain ⟨g1, p1, p2, p3⟩ := zrd_1 (T := T) (x2 := x2) hN hD (by omega) (f := f) (by omega) hq 80 N 0 g K ea (by omega) (by omega) hh
    obtain ⟨g2, r1, r2, r3⟩ := ih n (f + 1) g1 (zKr_eq K (p3 86 (by decide)) (p3 88 (by decide))) (by rw [p3 86 (by decide)]; exact ea) (by omega) (by omega) (fun f' p' w1 w2 w3 w4 => p2 f' p' w1 w2 w3 (by omega))
    refine ⟨g2, ?_, r2, p3.trans r3⟩
    unfold sh_Mo_plan_L16
    rw [ea, if_neg (c := a 1 ≤ (f : Int)) (by omega)]
    refine (congrArg (fun o => zb4 o fun y25 y26 y27 h28 => sh_Mo_plan_L16 N n y25 y26 (w32 (y27 + 1)) h28) p1).trans ?_
    simp only [zb4_some]
    rw [e1]
    exact r1
/-- the sums of the fields from f0 on -/
def zRI (g : zHp) (dn : Nat → Nat → Int) (L : List Nat) (F f0 : Nat) : Prop := ∀ f, f0 ≤ f → f ≤ F → ∀ u, u < 256 → g 96 (256 * f + u) = (zyf dn L (F - f) f u).1
theorem zr0_96 {F : Nat} {x2 : Int} (N : Nat) (hF : F ≤ 4) : ∀ (d n u : Nat) (g : zHp), g 86 1 = F → u + d = 256 → d < n → (∀ i, i < u → g 96 (256 * F + i) = 0) → ∃ g1, sh_Mo_plan_L58 N n x2 (u : Int) g = some (x2, g1) ∧ (∀ i, i < 256 → g1 96 (256 * F + i) = 0) ∧ zFr [96] g g1 := by
  intro d
  induction d with
  | zero =>
    intro n u g e1 hu hn hh
    obtain ⟨n, rfl⟩ : ∃ m, n = m + 1 := ⟨n - 1, by omega⟩
    refine ⟨g, ?_, fun i hi => hh i (by omega), zFr.refl g⟩
    unfold sh_Mo_plan_L58
    rw [if_pos (by omega)]
  | succ d ih =>
    intro n u g e1 hu hn hh
    obtain ⟨n, rfl⟩ : ∃ m, n = m + 1 := ⟨n - 1, by omega⟩
    have eu : w32 ((u : Int) + 1) = ((u + 1 : Nat) : Int) := by rw [w32_s (by omega) (by omega)]; omega
    have ex : w32 (w32 (256 * (F : Int)) + (u : Int)) = ((256 * F + u : Nat) : Int) := by rw [w32_s (a := 256 * (F : Int)) (by omega) (by omega), w32_s (by omega) (by omega)]; omega
    have f1 : zFr [96] g (zst g 96 (256 * F + u) 0) := (zFr.refl g).st (by decide)
    obtain ⟨g1, r1, r2, r3⟩ := ih n (u + 1) (zst g 96 (256 * F + u) 0) (by rw [f1 86 (by decide)]; exact e1) (by omega) (by omega) (fun i hi => by
      rw [zst_if, if_pos rfl, zup1_if]
      split
      · rfl
      · exact hh i (by omega))
    refine ⟨g1, ?_, r2, f1.trans r3⟩
    unfold sh_Mo_plan_L58
    rw [if_neg (c := 256 ≤ (u : Int)) (by omega), e1, ex, zgrd (by omega) (by omega), eu, Int.toNat_natCast]
    exact r1
/-- what by says -/
theorem zby_r {g : zHp} {dn : Nat → Nat → Int} {D F f u p N : Nat} (hD : D ≤ 8) (hF : F ≤ 4) (hf : f < F) (hu : u < 256) (hdn : ∀ f p, 0 ≤ dn f p ∧ dn f p ≤ 99) (h95 : zR9 g dn D F 0) (M : zRI g dn (zrp D 80 0) F (f + 1)) (hp : p < 80) (hp1 : p / 10 < p % 10) (hp2 : p % 10 < D) :
    sh_Mo_by_ N (f : Int) (u : Int) (p : Int) g = some (dn f p + (zyf dn (zrp D 80 0) (F - (f + 1)) (f + 1) (u ||| zbt2 p)).1) := by
  have hL : zpL D (zrp D 80 0) := zrp_L 80 0 (by omega)
  obtain ⟨d1, d2⟩ := zdm_s (p := p) hp
  have ex : w32 (w32 (80 * (f : Int)) + (p : Int)) = ((80 * f + p : Nat) : Int) := by rw [w32_s (a := 80 * (f : Int)) (by omega) (by omega), w32_s (by omega) (by omega)]; omega
  have hub := zbt_b (u := u) (i := p / 10) (j := p % 10) hu (by omega) (by omega)
  have h1 : 2 ^ (p / 10) ≤ 2 ^ 7 := Nat.pow_le_pow_right (by decide) (by omega)
  have h2 : 2 ^ (p % 10) ≤ 2 ^ 7 := Nat.pow_le_pow_right (by decide) (by omega)
  have eb : zor (zor (u : Int) (zshl 1 ((p / 10 : Nat) : Int))) (zshl 1 ((p % 10 : Nat) : Int)) = ((u ||| zbt2 p : Nat) : Int) := by
    rw [zbit_8 _ (by omega), zbit_8 _ (by omega), zor_8 u hu _ (by omega), zor_8 _ (Nat.or_lt_two_pow (n := 8) hu (by omega)) _ (by omega), Nat.or_assoc]
    rfl
  have e256 : w32 (w32 (256 * w32 ((f : Int) + 1)) + ((u ||| zbt2 p : Nat) : Int)) = ((256 * (f + 1) + (u ||| zbt2 p) : Nat) : Int) := by
    have : u ||| zbt2 p < 256 := hub
    rw [w32_s (a := (f : Int) + 1) (by omega) (by omega), w32_s (a := 256 * ((f : Int) + 1)) (by omega) (by omega), w32_s (by omega) (by omega)]; omega
  have hub' : u ||| zbt2 p < 256 := hub
  have hyv := (zyf_b (dn := dn) hdn hD hL (F - (f + 1)) (f + 1) (u ||| zbt2 p) hub').1
  have hdv := hdn f p
  unfold sh_Mo_by_
  rw [if_pos (by omega), ex, zgrd (by omega) (by omega), d1, d2, eb, e256, zgrd (by omega) (by omega), Int.toNat_natCast, Int.toNat_natCast, h95 f p hp hp1 hp2 (Or.inl hf), M (f + 1) (by omega) (by omega) _ hub', w32_s (by omega) (by omega)]
theorem zby_n {g : zHp} {dn : Nat → Nat → Int} {D F f u N : Nat} (hF : F ≤ 4) (hf : f < F) (hu : u < 256) (M : zRI g dn (zrp D 80 0) F (f + 1)) :
    sh_Mo_by_ N (f : Int) (u : Int) (-1) g = some (zyf dn (zrp D 80 0) (F - (f + 1)) (f + 1) u).1 := by
  have e256 : w32 (w32 (256 * w32 ((f : Int) + 1)) + (u : Int)) = ((256 * (f + 1) + u : Nat) : Int) := by
    rw [w32_s (a := (f : Int) + 1) (by omega) (by omega), w32_s (a := 256 * ((f : Int) + 1)) (by omega) (by omega), w32_s (by omega) (by omega)]; omega
  unfold sh_Mo_by_
  rw [if_neg (by decide), e256, zgrd (by omega) (by omega), Int.toNat_natCast, M (f + 1) (by omega) (by omega) u hu]
theorem zisP_e {p u D : Nat} {g : zHp} (hp : p < 80) (hu : u < 256) (hd : g 86 2 = D) (hD : D ≤ 8) : (sh_Mo_isPair (p : Int) (u : Int) g = 0) = ¬ ((p / 10 < p % 10 ∧ p % 10 < D) ∧ zel u p = true) := by
  rw [zisP hp hu hd hD]
  unfold zel
  cases u.testBit (p / 10) <;> cases u.testBit (p % 10) <;> simp
theorem zrL_97 {g : zHp} {dn : Nat → Nat → Int} {D F f u N : Nat} {x2 : Int} (hD : D ≤ 8) (hF : F ≤ 4) (hf : f < F) (hu : u < 256) (hdn : ∀ f p, 0 ≤ dn f p ∧ dn f p ≤ 99) (h95 : zR9 g dn D F 0) (M : zRI g dn (zrp D 80 0) F (f + 1)) (e2 : g 86 2 = D) : ∀ (d n p : Nat) (s : Int × Int), p + d = 80 → d < n →
    sh_Mo_plan_L97 N g n x2 (f : Int) (u : Int) s.1 (p : Int) = some (x2, (f : Int), (u : Int), ((zrp D d p).foldl (zyS (dn f) (fun u' => (zyf dn (zrp D 80 0) (F - (f + 1)) (f + 1) u').1) u) s).1) := by
  intro d
  induction d with
  | zero =>
    intro n p s hp hn
    obtain ⟨n, rfl⟩ : ∃ m, n = m + 1 := ⟨n - 1, by omega⟩
    unfold sh_Mo_plan_L97
    rw [if_pos (by omega)]
    rfl
  | succ d ih =>
    intro n p s hp hn
    obtain ⟨n, rfl⟩ : ∃ m, n = m + 1 := ⟨n - 1, by omega⟩
    have e1 : w32 ((p : Int) + 1) = ((p + 1 : Nat) : Int) := by rw [w32_s (by omega) (by omega)]; omega
    unfold sh_Mo_plan_L97
    rw [if_neg (c := 80 ≤ (p : Int)) (by omega), e1]
    simp only [zisP_e (p := p) (u := u) (by omega) hu e2 hD]
    rw [show zrp D (d + 1) p = if p / 10 < p % 10 ∧ p % 10 < D then p :: zrp D d (p + 1) else zrp D d (p + 1) from rfl]
    by_cases c : p / 10 < p % 10 ∧ p % 10 < D
    · rw [if_pos (c := p / 10 < p % 10 ∧ p % 10 < D) c, List.foldl_cons]
      have hs : zyS (dn f) (fun u' => (zyf dn (zrp D 80 0) (F - (f + 1)) (f + 1) u').1) u s p = if zel u p = true then (if dn f p + (zyf dn (zrp D 80 0) (F - (f + 1)) (f + 1) (u ||| zbt2 p)).1 ≤ s.1 then s else (dn f p + (zyf dn (zrp D 80 0) (F - (f + 1)) (f + 1) (u ||| zbt2 p)).1, (p : Int))) else s := rfl
      rw [hs]
      by_cases c2 : zel u p = true
      · rw [if_neg (fun q => q ⟨c, c2⟩), if_pos c2, zby_r hD hF hf hu hdn h95 M (by omega) c.1 c.2]
        simp only [zb1_some]
        by_cases c3 : dn f p + (zyf dn (zrp D 80 0) (F - (f + 1)) (f + 1) (u ||| zbt2 p)).1 ≤ s.1
        · rw [if_pos c3, if_pos c3]
          exact ih n (p + 1) s (by omega) (by omega)
        · rw [if_neg c3, if_neg c3]
          exact ih n (p + 1) (dn f p + (zyf dn (zrp D 80 0) (F - (f + 1)) (f + 1) (u ||| zbt2 p)).1, (p : Int)) (by omega) (by omega)
      · rw [if_pos (fun q => c2 q.2), if_neg c2]
        exact ih n (p + 1) s (by omega) (by omega)
    · rw [if_pos (fun q => c q.1), if_neg (c := p / 10 < p % 10 ∧ p % 10 < D) c]
      exact ih n (p + 1) s (by omega) (by omega)
theorem zrL_86 {dn : Nat → Nat → Int} {D F f N : Nat} {x2 : Int} (hN : 1300 ≤ N) (hD : D ≤ 8) (hF : F ≤ 4) (hf : f < F) (hdn : ∀ f p, 0 ≤ dn f p ∧ dn f p ≤ 99) : ∀ (d n u : Nat) (g : zHp), g 86 2 = D → zR9 g dn D F 0 → zRI g dn (zrp D 80 0) F (f + 1) → u + d = 256 → d < n → (∀ i, i < u → g 96 (256 * f + i) = (zyf dn (zrp D 80 0) (F - f) f i).1) →
    ∃ g1, sh_Mo_plan_L86 N n x2 (f : Int) (u : Int) g = some (x2, (f : Int), g1) ∧ zRI g1 dn (zrp D 80 0) F f ∧ zFr [96] g g1 := by
  intro d
  induction d with
  | zero =>
    intro n u g e2 h95 M hu hn hh
    obtain ⟨n, rfl⟩ : ∃ m, n = m + 1 := ⟨n - 1, by omega⟩
    refine ⟨g, ?_, fun f' w1 w2 u' w3 => ?_, zFr.refl g⟩
    · unfold sh_Mo_plan_L86
      rw [if_pos (by omega)]
    · by_cases e : f' = f
      · subst e; exact hh u' (by omega)
      · exact M f' (by omega) w2 u' w3
  | succ d ih =>
    intro n u g e2 h95 M hu hn hh
    obtain ⟨n, rfl⟩ : ∃ m, n = m + 1 := ⟨n - 1, by omega⟩
    have eu : w32 ((u : Int) + 1) = ((u + 1 : Nat) : Int) := by rw [w32_s (by omega) (by omega)]; omega
    have ex : w32 (w32 (256 * (f : Int)) + (u : Int)) = ((256 * f + u : Nat) : Int) := by rw [w32_s (a := 256 * (f : Int)) (by omega) (by omega), w32_s (by omega) (by omega)]; omega
    have p1 := zrL_97 (N := N) (x2 := x2) hD hF hf (u := u) (by omega) hdn h95 M e2 80 N 0 ((zyf dn (zrp D 80 0) (F - (f + 1)) (f + 1) u).1, -1) (by omega) (by omega)
    have hz : zyf dn (zrp D 80 0) (F - f) f u = (zrp D 80 0).foldl (zyS (dn f) (fun u' => (zyf dn (zrp D 80 0) (F - (f + 1)) (f + 1) u').1) u) ((zyf dn (zrp D 80 0) (F - (f + 1)) (f + 1) u).1, -1) := by
      rw [show F - f = (F - (f + 1)) + 1 by omega]; rfl
    rw [← hz] at p1
    have f1 : zFr [96] g (zst g 96 (256 * f + u) (zyf dn (zrp D 80 0) (F - f) f u).1) := (zFr.refl g).st (by decide)
    obtain ⟨g1, r1, r2, r3⟩ := ih n (u + 1) (zst g 96 (256 * f + u) (zyf dn (zrp D 80 0) (F - f) f u).1) (by rw [f1 86 (by decide)]; exact e2) (fun f' p' w1 w2 w3 w4 => by rw [f1 95 (by decide)]; exact h95 f' p' w1 w2 w3 w4) (fun f' w1 w2 u' w3 => by rw [zst_if, if_pos rfl, zup1_ne _ _ (by omega)]; exact M f' w1 w2 u' w3) (by omega) (by omega) (fun i hi => by
      rw [zst_if, if_pos rfl, zup1_if]
      by_cases e : i = u
      · rw [if_pos (by omega), e]
      · rw [if_neg (by omega)]; exact hh i (by omega))
    refine ⟨g1, ?_, r2, f1.trans r3⟩
    unfold sh_Mo_plan_L86
    rw [if_neg (c := 256 ≤ (u : Int)) (by omega), zby_n hF hf (by omega) M]
    simp only [zb1_some]
    refine (congrArg (fun o => zb4 o fun y67 y68 y69 y70 => if 0 ≤ w32 ((w32 (256 * y68)) + y69) ∧ w32 ((w32 (256 * y68)) + y69) < 1280 then sh_Mo_plan_L86 N n y67 y68 (w32 (y69 + 1)) (zst g 96 (w32 ((w32 (256 * y68)) + y69)).toNat y70) else none) p1).trans ?_
    simp only [zb4_some]
    rw [ex, zgrd (by omega) (by omega), eu, Int.toNat_natCast]
    exact r1
theorem zrL_82 {dn : Nat → Nat → Int} {D F N : Nat} {x2 : Int} (hN : 1300 ≤ N) (hD : D ≤ 8) (hF : F ≤ 4) (hdn : ∀ f p, 0 ≤ dn f p ∧ dn f p ≤ 99) : ∀ (d n : Nat) (g : zHp), g 86 2 = D → zR9 g dn D F 0 → zRI g dn (zrp D 80 0) F d → d ≤ F → d < n →
    ∃ g1, sh_Mo_plan_L82 N n x2 ((d : Int) - 1) g = some (x2, g1) ∧ zRI g1 dn (zrp D 80 0) F 0 ∧ zFr [96] g g1 := by
  intro d
  induction d with
  | zero =>
    intro n g e2 h95 M hd hn
    obtain ⟨n, rfl⟩ : ∃ m, n = m + 1 := ⟨n - 1, by omega⟩
    refine ⟨g, ?_, M, zFr.refl g⟩
    unfold sh_Mo_plan_L82
    rw [if_pos (by omega)]
  | succ d ih =>
    intro n g e2 h95 M hd hn
    obtain ⟨n, rfl⟩ : ∃ m, n = m + 1 := ⟨n - 1, by omega⟩
    obtain ⟨g1, p1, p2, p3⟩ := zrL_86 (x2 := x2) hN hD hF (f := d) (by omega) hdn 256 N 0 g e2 h95 M (by omega) (by omega) (fun i hi => by omega)
    obtain ⟨g2, r1, r2, r3⟩ := ih n g1 (by rw [p3 86 (by decide)]; exact e2) (fun f' p' w1 w2 w3 w4 => by rw [p3 95 (by decide)]; exact h95 f' p' w1 w2 w3 w4) p2 (by omega) (by omega)
    refine ⟨g2, ?_, r2, p3.trans r3⟩
    unfold sh_Mo_plan_L82
    rw [show ((d + 1 : Nat) : Int) - 1 = (d : Int) by omega, if_neg (by omega)]
    refine (congrArg (fun o => zb3 o fun y73 y74 h75 => sh_Mo_plan_L82 N n y73 (w32 (y74 + (-1))) h75) p1).trans ?_
    simp only [zb3_some]
    rw [w32_s (by omega) (by omega)]
    exact r1
/-- the first that reaches the most -/
theorem zfst_p {dn : Nat → Int} {Y : Nat → Int} {u D : Nat} : ∀ (d p : Nat) (s : Int × Int), p + d = 80 →
    (((zrp D d p).foldl (zyS dn Y u) s = s ∧ ∀ p', p ≤ p' → p' < 80 → p' / 10 < p' % 10 → p' % 10 < D → zel u p' = true → dn p' + Y (u ||| zbt2 p') ≤ s.1) ∨
    (∃ Q : Nat, p ≤ Q ∧ Q < 80 ∧ Q / 10 < Q % 10 ∧ Q % 10 < D ∧ zel u Q = true ∧ (zrp D d p).foldl (zyS dn Y u) s = (dn Q + Y (u ||| zbt2 Q), (Q : Int)) ∧ s.1 < dn Q + Y (u ||| zbt2 Q) ∧ ∀ p', p ≤ p' → p' < Q → p' / 10 < p' % 10 → p' % 10 < D → zel u p' = true → dn p' + Y (u ||| zbt2 p') < dn Q + Y (u ||| zbt2 Q))) := by
  intro d
  induction d with
  | zero => intro p s hp; exact Or.inl ⟨rfl, fun p' w1 w2 => by omega⟩
  | succ d ih =>
    intro p s hp
    rw [show zrp D (d + 1) p = if p / 10 < p % 10 ∧ p % 10 < D then p :: zrp D d (p + 1) else zrp D d (p + 1) from rfl]
    by_cases c : (p / 10 < p % 10 ∧ p % 10 < D) ∧ zel u p = true ∧ s.1 < dn p + Y (u ||| zbt2 p)
    · obtain ⟨c1, c2, c3⟩ := c
      have hs : zyS dn Y u s p = (dn p + Y (u ||| zbt2 p), (p : Int)) := by
        unfold zyS
        rw [if_pos c2, if_neg (by omega)]
      rw [if_pos c1, List.foldl_cons, hs]
      rcases ih (p + 1) (dn p + Y (u ||| zbt2 p), (p : Int)) (by omega) with ⟨q1, q2⟩ | ⟨Q, q1, q2, q3, q4, q5, q6, q7, q8⟩
      · exact Or.inr ⟨p, Nat.le_refl p, by omega, c1.1, c1.2, c2, q1, c3, fun p' w1 w2 => by omega⟩
      · refine Or.inr ⟨Q, by omega, q2, q3, q4, q5, q6, ?_, fun p' w1 w2 w3 w4 w5 => ?_⟩
        · have : dn p + Y (u ||| zbt2 p) < _ := q7
          omega
        · by_cases e : p' = p
          · subst e; exact q7
          · exact q8 p' (by omega) w2 w3 w4 w5
    · have hs : (p / 10 < p % 10 ∧ p % 10 < D) → zyS dn Y u s p = s := by
        intro c1
        unfold zyS
        by_cases c2 : zel u p = true
        · rw [if_pos c2, if_pos (by have h9 : ¬ (s.1 < dn p + Y (u ||| zbt2 p)) := fun q => c ⟨c1, c2, q⟩; omega)]
        · rw [if_neg c2]
      have hf : (if p / 10 < p % 10 ∧ p % 10 < D then p :: zrp D d (p + 1) else zrp D d (p + 1)).foldl (zyS dn Y u) s = (zrp D d (p + 1)).foldl (zyS dn Y u) s := by
        by_cases c1 : p / 10 < p % 10 ∧ p % 10 < D
        · rw [if_pos c1, List.foldl_cons, hs c1]
        · rw [if_neg c1]
      rw [hf]
      have hle : p / 10 < p % 10 → p % 10 < D → zel u p = true → dn p + Y (u ||| zbt2 p) ≤ s.1 := fun w1 w2 w3 => by
        have h9 : ¬ (s.1 < dn p + Y (u ||| zbt2 p)) := fun q => c ⟨⟨w1, w2⟩, w3, q⟩
        omega
      rcases ih (p + 1) s (by omega) with ⟨q1, q2⟩ | ⟨Q, q1, q2, q3, q4, q5, q6, q7, q8⟩
      · refine Or.inl ⟨q1, fun p' w1 w2 w3 w4 w5 => ?_⟩
        by_cases e : p' = p
        · subst e; exact hle w3 w4 w5
        · exact q2 p' (by omega) w2 w3 w4 w5
      · refine Or.inr ⟨Q, by omega, q2, q3, q4, q5, q6, q7, fun p' w1 w2 w3 w4 w5 => ?_⟩
        by_cases e : p' = p
        · subst e
          have := hle w3 w4 w5
          omega
        · exact q8 p' (by omega) w2 w3 w4 w5
/-- the reference finds it -/
theorem zrL_152 {g : zHp} {dn : Nat → Nat → Int} {D F f u N : Nat} {x2 : Int} (hD : D ≤ 8) (hF : F ≤ 4) (hf : f < F) (hu : u < 256) (hdn : ∀ f p, 0 ≤ dn f p ∧ dn f p ≤ 99) (h95 : zR9 g dn D F 0) (M : zRI g dn (zrp D 80 0) F 0) (e2 : g 86 2 = D) (hN : 1300 ≤ N) :
    sh_Mo_plan_L152 N g N x2 (u : Int) (-1) (f : Int) = some (x2, (u : Int), (zyf dn (zrp D 80 0) (F - f) f u).2, (f : Int)) := by
  obtain ⟨N', rfl⟩ : ∃ m, N = m + 1 := ⟨N - 1, by omega⟩
  have M1 : zRI g dn (zrp D 80 0) F (f + 1) := fun f' w1 w2 u' w3 => M f' (Nat.zero_le _) w2 u' w3
  have ex : w32 (w32 (256 * (f : Int)) + (u : Int)) = ((256 * f + u : Nat) : Int) := by rw [w32_s (a := 256 * (f : Int)) (by omega) (by omega), w32_s (by omega) (by omega)]; omega
  have hz : zyf dn (zrp D 80 0) (F - f) f u = (zrp D 80 0).foldl (zyS (dn f) (fun u' => (zyf dn (zrp D 80 0) (F - (f + 1)) (f + 1) u').1) u) ((zyf dn (zrp D 80 0) (F - (f + 1)) (f + 1) u).1, -1) := by
    rw [show F - f = (F - (f + 1)) + 1 by omega]; rfl
  have em1 : sh_Mo_isPair (-1) (u : Int) g = 1 := by
    unfold sh_Mo_isPair
    rw [if_pos (by decide)]
  have hcell := M f (Nat.zero_le _) (by omega) u hu
  have key := zfst_p (dn := dn f) (Y := fun u' => (zyf dn (zrp D 80 0) (F - (f + 1)) (f + 1) u').1) (u := u) (D := D) 80 0 ((zyf dn (zrp D 80 0) (F - (f + 1)) (f + 1) u).1, -1) (by omega)
  rw [← hz] at key
  conv => enter [1]; unfold sh_Mo_plan_L152
  rw [em1, if_neg (by decide), zby_n hF hf hu M1]
  simp only [zb1_some]
  rw [ex, zgrd (by omega) (by omega), Int.toNat_natCast, hcell]
  rcases key with ⟨q1, -⟩ | ⟨Q, q1, q2, q3, q4, q5, q6, q7, q8⟩
  · rw [q1, if_pos rfl]
  · rw [q6]
    rw [if_neg (by have : (zyf dn (zrp D 80 0) (F - (f + 1)) (f + 1) u).1 < dn f Q + (zyf dn (zrp D 80 0) (F - (f + 1)) (f + 1) (u ||| zbt2 Q)).1 := q7
                   show ¬ (zyf dn (zrp D 80 0) (F - (f + 1)) (f + 1) u).1 = dn f Q + (zyf dn (zrp D 80 0) (F - (f + 1)) (f + 1) (u ||| zbt2 Q)).1
                   omega)]
    rw [show w32 ((-1 : Int) + 1) = ((0 : Nat) : Int) by rw [w32_s (by decide) (by decide)]; rfl]
    rw [q6] at hcell
    have hloop : ∀ (d n p : Nat), p + d = Q → d < n → sh_Mo_plan_L152 (N' + 1) g n x2 (u : Int) (p : Int) (f : Int) = some (x2, (u : Int), (Q : Int), (f : Int)) := by
      intro d
      induction d with
      | zero =>
        intro n p hp hn
        obtain ⟨n, rfl⟩ : ∃ m, n = m + 1 := ⟨n - 1, by omega⟩
        obtain rfl : p = Q := by omega
        unfold sh_Mo_plan_L152
        simp only [zisP_e (p := p) (u := u) (by omega) hu e2 hD]
        rw [if_neg (fun q => q ⟨⟨q3, q4⟩, q5⟩), zby_r hD hF hf hu hdn h95 M1 (by omega) q3 q4]
        simp only [zb1_some]
        rw [ex, zgrd (by omega) (by omega), Int.toNat_natCast, hcell, if_pos rfl]
      | succ d ihd =>
        intro n p hp hn
        obtain ⟨n, rfl⟩ : ∃ m, n = m + 1 := ⟨n - 1, by omega⟩
        have e1 : w32 ((p : Int) + 1) = ((p + 1 : Nat) : Int) := by rw [w32_s (by omega) (by omega)]; omega
        unfold sh_Mo_plan_L152
        simp only [zisP_e (p := p) (u := u) (by omega) hu e2 hD]
        rw [e1]
        by_cases c : (p / 10 < p % 10 ∧ p % 10 < D) ∧ zel u p = true
        · rw [if_neg (fun q => q c), zby_r hD hF hf hu hdn h95 M1 (by omega) c.1.1 c.1.2]
          simp only [zb1_some]
          have h8 := q8 p (by omega) (by omega) c.1.1 c.1.2 c.2
          rw [ex, zgrd (by omega) (by omega), Int.toNat_natCast, hcell, if_neg (by
            have : dn f p + (zyf dn (zrp D 80 0) (F - (f + 1)) (f + 1) (u ||| zbt2 p)).1 < dn f Q + (zyf dn (zrp D 80 0) (F - (f + 1)) (f + 1) (u ||| zbt2 Q)).1 := h8
            show ¬ _ = dn f Q + (zyf dn (zrp D 80 0) (F - (f + 1)) (f + 1) (u ||| zbt2 Q)).1
            omega)]
          exact ihd n (p + 1) (by omega) (by omega)
        · rw [if_pos c]
          exact ihd n (p + 1) (by omega) (by omega)
    exact hloop Q N' 0 (by omega) (by omega)
theorem zrL_147 {g : zHp} {dn : Nat → Nat → Int} {D F l N : Nat} (hD : D ≤ 8) (hF : F ≤ 4) (hl : l < F) (hdn : ∀ f p, 0 ≤ dn f p ∧ dn f p ≤ 99) (h95 : zR9 g dn D F 0) (M : zRI g dn (zrp D 80 0) F 0) (e2 : g 86 2 = D) (hN : 1300 ≤ N) : ∀ (d n f u : Nat) (x4 : Int), f + d = l → d + 1 < n → u < 256 →
    sh_Mo_plan_L147 N g n (l : Int) (u : Int) x4 (f : Int) = some (zpp dn (zrp D 80 0) F d f u) := by
  have hL : zpL D (zrp D 80 0) := zrp_L 80 0 (by omega)
  have hx : ∀ f u, u < 256 → (if (zyf dn (zrp D 80 0) (F - f) f u).2 < 0 then (u : Int) else zor (u : Int) (zor (zshl 1 (w32 ((zyf dn (zrp D 80 0) (F - f) f u).2.tdiv 10))) (zshl 1 (w32 ((zyf dn (zrp D 80 0) (F - f) f u).2.tmod 10)))) : Int) = (znx u (zyf dn (zrp D 80 0) (F - f) f u).2 : Int) := by
    intro f u hu
    have hq := (zyf_b (dn := dn) hdn hD hL (F - f) f u hu).2
    have hz := znx_z hu hD hq
    rw [← hz]
    rcases hq with hq | ⟨p, hq, hp1, hp2, hp3⟩
    · rw [if_pos (by omega), if_pos hq]
      have := zor_8 u hu 0 (by decide)
      rw [Nat.or_zero] at this
      exact this.symm
    · rw [if_neg (by omega), if_neg (by omega)]
  intro d
  induction d with
  | zero =>
    intro n f u x4 hf hn hu
    obtain ⟨n, rfl⟩ : ∃ m, n = m + 2 := ⟨n - 2, by omega⟩
    obtain rfl : f = l := by omega
    have e1 : w32 ((f : Int) + 1) = ((f + 1 : Nat) : Int) := by rw [w32_s (by omega) (by omega)]; omega
    unfold sh_Mo_plan_L147
    rw [if_neg (by omega), zrL_152 hD hF hl hu hdn h95 M e2 hN]
    simp only [zb4_some]
    rw [e1]
    unfold sh_Mo_plan_L147
    rw [if_pos (by omega)]
    rfl
  | succ d ih =>
    intro n f u x4 hf hn hu
    obtain ⟨n, rfl⟩ : ∃ m, n = m + 1 := ⟨n - 1, by omega⟩
    have e1 : w32 ((f : Int) + 1) = ((f + 1 : Nat) : Int) := by rw [w32_s (by omega) (by omega)]; omega
    unfold sh_Mo_plan_L147
    rw [if_neg (by omega), zrL_152 hD hF (by omega) hu hdn h95 M e2 hN]
    simp only [zb4_some]
    rw [e1, hx f u hu]
    exact ih n (f + 1) _ _ (by omega) (by omega) (znx_b hdn hD hL hu)
theorem zc_plan {h : zHp} (x y : Int) (hI : zInv h) {N : Nat} (hN : 1300 ≤ N) : ∃ h2, zcas (sh_Ox_plan N x y) (sh_Mo_plan N x y) h = some (1, h2) ∧ zInv h2 := by
  have hI' := hI
  obtain ⟨⟨hy, hk⟩, -⟩ := hI'
  have e1 : h 16 1 = h 86 1 := hy.1.2.1
  have k0 := hk.1
  by_cases c1 : 1 ≤ x ∧ x ≤ 24
  case neg =>
    refine ⟨h, zcas_of (r := -2) (h1 := h) ?_ ?_, hI⟩
    · unfold sh_Ox_plan
      simp only [within_z]
      rw [if_pos c1]
    · unfold sh_Mo_plan
      simp only [isIn_z]
      rw [if_pos c1]
  by_cases c2 : y = -1 ∨ (0 ≤ y ∧ y < h 86 1)
  case neg =>
    refine ⟨h, zcas_of (r := -2) (h1 := h) ?_ ?_, hI⟩
    · unfold sh_Ox_plan
      simp only [within_z, isField_z (h := h) (x := y) (by omega), e1]
      rw [if_neg (fun q => q c1), if_neg (fun q => c2 (Or.inl q)), if_pos (fun q => c2 (Or.inr q))]
    · unfold sh_Mo_plan
      simp only [isIn_z, isFieldR_z (h := h) (x := y) (by omega)]
      rw [if_neg (fun q => q c1), if_neg (fun q => c2 (Or.inl q)), if_pos (fun q => c2 (Or.inr q))]
  obtain ⟨T, K, R⟩ := zK_of hI
  obtain ⟨q, rfl⟩ : ∃ n : Nat, x = n := ⟨x.toNat, by omega⟩
  obtain ⟨D, hD⟩ : ∃ D : Nat, h 86 2 = D := ⟨(h 86 2).toNat, by omega⟩
  obtain ⟨F, hF⟩ : ∃ F : Nat, h 86 1 = F := ⟨(h 86 1).toNat, by omega⟩
  obtain ⟨h1, p1, p2, p3, p4⟩ := zplan_c hN (q := q) hD hF (by omega) K
  have f86 := p4 86 (by decide)
  obtain ⟨g1, r1, r2, r3⟩ := zrd_2 (T := T) (x2 := y) hN hD hF (q := q) (by omega) F N 0 h1 (zKr_eq R f86 (p4 88 (by decide))) f86 (by omega) (by omega) (fun f' p' _ _ _ w => by omega)
  have g86 : g1 86 = h 86 := by rw [r3 86 (by decide)]; exact f86
  obtain ⟨g2, s1, s2, s3⟩ := zr0_96 (F := F) (x2 := y) N (by omega) 256 N 0 g1 (by rw [g86]; exact hF) (by omega) (by omega) (fun i hi => by omega)
  have M0 : zRI g2 (zdF (h 86) T q) (zrp D 80 0) F F := fun f w1 w2 u w3 => by
    obtain rfl : f = F := by omega
    rw [s2 u w3, Nat.sub_self]; rfl
  obtain ⟨g3, t1, t2, t3⟩ := zrL_82 (x2 := y) hN (D := D) (F := F) (by omega) (by omega) (zdF_b hk) F N g2 (by rw [s3 86 (by decide), g86]; exact hD) (fun f' p' w1 w2 w3 w4 => by rw [s3 95 (by decide)]; exact r2 f' p' w1 w2 w3 w4) M0 (Nat.le_refl F) (by omega)
  have f3 : zFr [91, 92, 93, 95, 96] h1 g3 := ((r3.mono (by simp)).trans (s3.mono (by simp))).trans (t3.mono (by simp))
  have hQ : zQ h g3 := (zQ_fr p4 (by decide)).trans (zQ_fr f3 (by decide))
  have h95 : zR9 g3 (zdF (h 86) T q) D F 0 := fun f' p' w1 w2 w3 w4 => by rw [t3 95 (by decide), s3 95 (by decide)]; exact r2 f' p' w1 w2 w3 w4
  have e0 : g3 96 0 = (zyf (zdF (h 86) T q) (zrp D 80 0) F 0 0).1 := t2 0 (Nat.le_refl 0) (Nat.zero_le _) 0 (by decide)
  have eg2 : w32 (g2 86 1 - 1) = (F : Int) - 1 := by rw [s3 86 (by decide), g86, hF, w32_s (by omega) (by omega)]
  have hF4 : F ≤ 4 := by omega
  have hend : ∀ G : zHp → Option (Int × zHp), (zb2 (sh_Mo_plan_L16 N N (q : Int) y 0 h1) fun y30 h31 => zb2 (sh_Mo_plan_L58 N N y30 0 h31) fun y35 h36 => zb2 (sh_Mo_plan_L82 N N y35 (w32 ((h36 86 1) - 1)) h36) fun y77 h78 => if y77 = (-1) then some (h78 96 0, h78) else zb1 (sh_Mo_plan_L147 N h78 N y77 0 (-1) 0) fun y103 => some (y103, h78)) = if y = -1 then some (g3 96 0, g3) else zb1 (sh_Mo_plan_L147 N g3 N y 0 (-1) 0) fun y103 => some (y103, g3) := by
    intro _
    refine (congrArg (fun o => zb2 o fun y30 h31 => zb2 (sh_Mo_plan_L58 N N y30 0 h31) fun y35 h36 => zb2 (sh_Mo_plan_L82 N N y35 (w32 ((h36 86 1) - 1)) h36) fun y77 h78 => if y77 = (-1) then some (h78 96 0, h78) else zb1 (sh_Mo_plan_L147 N h78 N y77 0 (-1) 0) fun y103 => some (y103, h78)) r1).trans ?_
    simp only [zb2_some]
    refine (congrArg (fun o => zb2 o fun y35 h36 => zb2 (sh_Mo_plan_L82 N N y35 (w32 ((h36 86 1) - 1)) h36) fun y77 h78 => if y77 = (-1) then some (h78 96 0, h78) else zb1 (sh_Mo_plan_L147 N h78 N y77 0 (-1) 0) fun y103 => some (y103, h78)) s1).trans ?_
    simp only [zb2_some]
    rw [eg2, t1]
    simp only [zb2_some]
  by_cases c3 : y = -1
  · refine ⟨g3, zcas_of (r := (zyf (zdF (h 86) T q) (zrp D 80 0) F 0 0).1) (h1 := h1) ?_ ?_, zqry hI hQ⟩
    · unfold sh_Ox_plan
      simp only [within_z]
      rw [if_neg (fun q => q c1), if_pos c3, p1]
      simp only [zb1_some]
      rw [if_pos c3, p2]
    · unfold sh_Mo_plan
      simp only [isIn_z]
      rw [if_neg (fun q => q c1), if_pos c3, hend (fun _ => none), if_pos c3, e0]
  · obtain ⟨l, rfl⟩ : ∃ n : Nat, y = n := ⟨y.toNat, by omega⟩
    have h147 := zrL_147 (g := g3) (dn := zdF (h 86) T q) (N := N) (D := D) (F := F) (l := l) (by omega) hF4 (by omega) (zdF_b hk) h95 t2 (by rw [f3 86 (by decide), f86]; exact hD) hN l N 0 0 (-1) (by omega) (by omega) (by decide)
    refine ⟨g3, zcas_of (r := zpp (zdF (h 86) T q) (zrp D 80 0) F l 0 0) (h1 := h1) ?_ ?_, zqry hI hQ⟩
    · unfold sh_Ox_plan
      simp only [within_z, isField_z (h := h) (x := (l : Int)) (by omega), e1]
      rw [if_neg (fun q => q c1), if_neg c3, if_neg (fun q => q (by omega)), p1]
      simp only [zb1_some]
      rw [if_neg c3, rget_in (by omega) (by omega), Int.toNat_natCast, p3 l (by omega)]
    · unfold sh_Mo_plan
      simp only [isIn_z, isFieldR_z (h := h1) (x := (l : Int)) (by rw [f86]; omega), f86]
      rw [if_neg (fun q => q c1), if_neg c3, if_neg (fun q => q (by omega)), hend (fun _ => none), if_neg c3]
      exact congrArg (fun o => zb1 o fun y103 => some (y103, g3)) h147
