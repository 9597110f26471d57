/-! PURE: whistle -/
def zbs (P : Nat → Bool) : Nat → Nat
  | 0 => 0
  | k + 1 => if P k = true then zbs P k ||| 2 ^ k else zbs P k
theorem zbs_lt (P : Nat → Bool) : ∀ k, zbs P k < 2 ^ k := by
  intro k
  induction k with
  | zero => exact Nat.one_pos
  | succ k ih =>
    have h2 : 2 ^ (k + 1) = 2 ^ k * 2 := Nat.pow_succ 2 k
    unfold zbs
    split
    · exact Nat.or_lt_two_pow (by omega) (by omega)
    · omega
theorem zbs_256 (P : Nat → Bool) {k : Nat} (hk : k ≤ 8) : zbs P k < 256 := by
  have h1 := zbs_lt P k
  have h2 : 2 ^ k ≤ 2 ^ 8 := Nat.pow_le_pow_right (by decide) hk
  omega
theorem zbs_t (P : Nat → Bool) (o : Nat) : ∀ k, (zbs P k).testBit o = (decide (o < k) && P o) := by
  intro k
  induction k with
  | zero => unfold zbs; rw [Nat.zero_testBit]; rfl
  | succ k ih =>
    unfold zbs
    by_cases h : P k = true
    · rw [if_pos h, Nat.testBit_or, ih, Nat.testBit_two_pow]
      by_cases e : o = k
      · subst e
        rw [h]
        simp
      · have e2 : ¬ k = o := fun q => e q.symm
        have e3 : (o < k + 1) = (o < k) := propext (by omega)
        simp only [e2, e3, decide_false, Bool.or_false]
    · rw [if_neg h, ih]
      by_cases e : o = k
      · subst e
        have : P o = false := by simpa using h
        rw [this, Bool.and_false, Bool.and_false]
      · have e3 : (o < k + 1) = (o < k) := propext (by omega)
        simp only [e3]
theorem zbs_y {P : Nat → Bool} {k : Nat} (hk : k < 8) (h : P k = true) : zor (zbs P k : Int) (zshl 1 (k : Int)) = (zbs P (k + 1) : Int) := by
  have h2 : 2 ^ k ≤ 2 ^ 7 := Nat.pow_le_pow_right (by decide) (by omega)
  rw [zbit_8 k hk, zor_8 _ (zbs_256 P (by omega)) _ (by omega)]
  show _ = ((if P k = true then _ else _ : Nat) : Int)
  rw [if_pos h]
theorem zbs_n {P : Nat → Bool} {k : Nat} (h : P k = false) : zbs P (k + 1) = zbs P k := by
  show (if P k = true then _ else _) = _
  rw [if_neg (by rw [h]; decide)]
theorem zbs_0 {P : Nat → Bool} {k : Nat} (hk : k < 8) (h : P k = false) : zor (zbs P k : Int) 0 = (zbs P (k + 1) : Int) := by
  have := zor_8 _ (zbs_256 P (k := k) (by omega)) 0 (by decide)
  rw [zbs_n h]
  rw [Nat.or_zero] at this
  exact this
theorem zis_8 {s o : Nat} (hs : s < 256) (ho : o < 8) : sh_Ox_isIn (s : Int) (o : Int) = if s.testBit o then 1 else 0 := by
  unfold sh_Ox_isIn
  rw [zhas_8 s hs o ho]
  cases s.testBit o <;> rfl
def zyb (a : zFn) (o : Nat) : Int := if a (48 + 8 * o) = -1 then 0 else 1
def zhv (a : zFn) (T : Nat → Nat → List Int) (f p : Int) (o : Nat) : Int := zHv a T o f p (a (47 + 8 * o) - 10).toNat (zyb a o) (a 3)
def zsv (a : zFn) (T : Nat → Nat → List Int) (f p : Int) (o : Nat) : Int := zSd a T o f p (a (47 + 8 * o) - 10).toNat (zyb a o) (a 3)
def zhb (a : zFn) (T : Nat → Nat → List Int) (f p : Int) (o : Nat) : Bool := decide (10 ≤ a (47 + 8 * o) ∧ zhv a T f p o = 1)
def zSb (a : zFn) (T : Nat → Nat → List Int) (f p : Int) (o : Nat) : Bool := decide ((10 ≤ a (47 + 8 * o) ∧ zhv a T f p o = 1) ∧ (a (42 + 8 * o) ≠ -1 ∧ zsv a T f p o = 1))
def zGl (a : zFn) (T : Nat → Nat → List Int) (f p : Int) (o : Nat) : Int := if zSb a T f p o = true then a (42 + 8 * o) else a (41 + 8 * o)
theorem zyb_B (a : zFn) (o : Nat) : zB6 (zyb a o) := by
  unfold zyb
  split <;> exact ⟨by decide, by decide⟩
theorem zyb_c (a : zFn) (o : Nat) : (if (if a (48 + 8 * o) = -1 then 0 else 1 : Int) = 0 then (0 : Int) else 1) = zyb a o := by
  unfold zyb
  split <;> rfl
theorem zyb_r {a : zFn} {o : Nat} (h : -1 ≤ a (48 + 8 * o)) : (if a (48 + 8 * o) < 0 then (0 : Int) else 1) = zyb a o := by
  unfold zyb
  by_cases c : a (48 + 8 * o) = -1
  · rw [if_pos (by omega), if_pos c]
  · rw [if_neg (by omega), if_neg c]
theorem zwh_c1 {a : zFn} {T : Nat → Nat → List Int} {N : Nat} (hN : 1300 ≤ N) {f p : Int} (hf : -1 ≤ f ∧ f < 5) (hp : zB6 p) : ∀ (d n k : Nat) (h : zHp), zKc h a T → (k : Int) + d = a 2 → d < n → ∃ h1, sh_Ox_blow_14_L6 N n f p (zbs (zhb a T f p) k : Int) (zbs (zSb a T f p) k : Int) k h = some ((zbs (zhb a T f p) (k + d) : Int), (zbs (zSb a T f p) (k + d) : Int), h1) ∧ zFr [33, 35, 37] h h1 := by
  intro d
  induction d with
  | zero =>
    intro n k h K ho hn
    obtain ⟨n, rfl⟩ : ∃ m, n = m + 1 := ⟨n - 1, by omega⟩
    refine ⟨h, ?_, zFr.refl h⟩
    have e0 : h 16 2 = a 2 := K.1.1.1.2.2.1
    unfold sh_Ox_blow_14_L6
    rw [oxen_s, e0, if_pos (by omega)]
    rfl
  | succ d ih =>
    intro n k h K ho hn
    obtain ⟨n, rfl⟩ : ∃ m, n = m + 1 := ⟨n - 1, by omega⟩
    have hk := K.1.2
    have hy := K.1.1
    have e0 : h 16 2 = a 2 := hy.1.2.2.1
    have e3 : h 16 0 = a 3 := hy.1.2.2.2.1
    have b2 := hk.1.2.2.1
    have b3 := hk.1.2.2.2.1
    have b1 := hk.1.2.1
    have b0 := hk.1.1
    have hx := (hk.2.2.2.1 k (by omega)).1
    unfold zOx at hx
    have y4 := hy.2.2.2.1
    simp only [Nat.reduceAdd] at y4
    have g6 : h 16 (7 + 8 * k + 6) = a (47 + 8 * k) := by rw [y4 k (by omega) 6 (by decide)]; congr 1; omega
    have g7 : h 16 (7 + 8 * k + 7) = a (48 + 8 * k) := by rw [y4 k (by omega) 7 (by decide)]; congr 1; omega
    suffices hs : ∃ h1, zFr [33, 35, 37] h h1 ∧ sh_Ox_blow_14_L6 N (n + 1) f p (zbs (zhb a T f p) k : Int) (zbs (zSb a T f p) k : Int) k h = sh_Ox_blow_14_L6 N n f p (zbs (zhb a T f p) (k + 1) : Int) (zbs (zSb a T f p) (k + 1) : Int) ((k + 1 : Nat) : Int) h1 by
      obtain ⟨h1, p2, p3⟩ := hs
      obtain ⟨h2, q1, q2⟩ := ih n (k + 1) h1 (zKc_fr K p2 (by decide)) (by omega) (by omega)
      refine ⟨h2, ?_, p2.trans q2⟩
      rw [show k + (d + 1) = k + 1 + d by omega]
      exact p3.trans q1
    have e1 : w32 ((k : Int) + 1) = ((k + 1 : Nat) : Int) := by rw [w32_s (by omega) (by omega)]; omega
    conv => enter [1, h1, 2, 1]; unfold sh_Ox_blow_14_L6
    rw [oxen_s, e0, if_neg (by omega), e1]
    simp only [get_s (x := (k : Int)) (h := h) (by omega) (by omega) (w := 6) (by decide) (by decide), get_s (x := (k : Int)) (h := h) (by omega) (by omega) (w := 7) (by decide) (by decide), Int.toNat_natCast, Int.reduceToNat, g6, g7, hour_s, e3]
    rw [w32_s (by omega) (by omega)]
    by_cases c : a (47 + 8 * k) < 10
    · rw [if_pos (by omega)]
      have z1 : zhb a T f p k = false := decide_eq_false (fun q => by omega)
      have z2 : zSb a T f p k = false := decide_eq_false (fun q => by omega)
      refine ⟨h, zFr.refl h, ?_⟩
      rw [zbs_n z1, zbs_n z2]
    · rw [if_neg (by omega)]
      obtain ⟨l, hl⟩ : ∃ l : Nat, a (47 + 8 * k) = 10 + (l : Int) := ⟨(a (47 + 8 * k) - 10).toNat, by omega⟩
      have el2 : (a (47 + 8 * k) - 10).toNat = l := by omega
      have el : a (47 + 8 * k) - 10 = (l : Int) := by omega
      obtain ⟨h1, p1, p2, p3, p4, p5⟩ := zhd_c hN K (o := k) (l := l) (f := f) (p := p) (y := if a (48 + 8 * k) = -1 then 0 else 1) (hr := a 3) (by omega) (by omega) hf hp (by unfold zB6; omega)
      rw [zyb_c] at p1 p4 p5
      have ehv : zhv a T f p k = zHv a T k f p l (zyb a k) (a 3) := by unfold zhv; rw [el2]
      rw [el, p1]
      simp only [zb2_some]
      by_cases c1 : zHv a T k f p l (zyb a k) (a 3) = 0
      · rw [if_pos c1]
        have z1 : zhb a T f p k = false := decide_eq_false (fun q => by rw [ehv, c1] at q; exact absurd q.2 (by decide))
        have z2 : zSb a T f p k = false := decide_eq_false (fun q => by rw [ehv, c1] at q; exact absurd q.1.2 (by decide))
        refine ⟨h1, p2, ?_⟩
        rw [zbs_n z1, zbs_n z2]
      · rw [if_neg c1]
        have c2 : zhv a T f p k = 1 := by rw [ehv]; exact p5.resolve_left c1
        have z1 : zhb a T f p k = true := decide_eq_true ⟨by omega, c2⟩
        obtain ⟨h2, q1, q2, q3⟩ := zsec_c hN (zKc_fr K p2 (by decide)) (o := k) (l := l) (f := f) (p := p) (y := zyb a k) (hr := a 3) (by omega) (by omega) hf hp (zyb_B a k) (by unfold zB6; omega) p3 p4
        have esv : zsv a T f p k = zSd a T k f p l (zyb a k) (a 3) := by unfold zsv; rw [el2]
        rw [q1]
        simp only [zb2_some]
        refine ⟨h2, p2.trans (q2.mono (by simp)), ?_⟩
        rw [zbs_y (by omega) z1]
        by_cases c3 : a (42 + 8 * k) = -1
        · have z2 : zSb a T f p k = false := decide_eq_false (fun q => q.2.1 c3)
          rw [if_pos c3, if_pos rfl, zbs_0 (by omega) z2]
        · rw [if_neg c3]
          by_cases c4 : zSd a T k f p l (zyb a k) (a 3) = 0
          · have z2 : zSb a T f p k = false := decide_eq_false (fun q => by rw [esv, c4] at q; exact absurd q.2.2 (by decide))
            rw [if_pos c4, zbs_0 (by omega) z2]
          · have z2 : zSb a T f p k = true := decide_eq_true ⟨⟨by omega, c2⟩, c3, by rw [esv]; exact q3.resolve_left c4⟩
            rw [if_neg c4, zbs_y (by omega) z2]
theorem zwh_r1 {T : Nat → Nat → List Int} {N : Nat} (hN : 1300 ≤ N) {f : Int} (hf : 0 ≤ f ∧ f < 5) (a : zFn) : ∀ (d n k : Nat) (g : zHp), zKr g T → g 86 = a → (k : Int) + d = a 2 → d < n → (∀ o, o < k → g 94 o = if zhb a T f (a (12 + 3 * f.toNat)) o = true then zGl a T f (a (12 + 3 * f.toNat)) o else -1) →
    ∃ g1, sh_Mo_whistle_L12 N n f (zbs (zhb a T f (a (12 + 3 * f.toNat))) k : Int) k g = some ((zbs (zhb a T f (a (12 + 3 * f.toNat))) (k + d) : Int), g1) ∧ (∀ o, o < k + d → g1 94 o = if zhb a T f (a (12 + 3 * f.toNat)) o = true then zGl a T f (a (12 + 3 * f.toNat)) o else -1) ∧ zFr [91, 92, 93, 94] g g1 := by
  generalize hp : a (12 + 3 * f.toNat) = p
  intro d
  induction d with
  | zero =>
    intro n k g K ea ho hn hg
    obtain ⟨n, rfl⟩ : ∃ m, n = m + 1 := ⟨n - 1, by omega⟩
    refine ⟨g, ?_, hg, zFr.refl g⟩
    unfold sh_Mo_whistle_L12
    rw [ea, if_pos (by omega)]
    rfl
  | succ d ih =>
    intro n k g K ea ho hn hg
    obtain ⟨n, rfl⟩ : ∃ m, n = m + 1 := ⟨n - 1, by omega⟩
    have hk := K.1
    rw [ea] at hk
    have b2 := hk.1.2.2.1
    have b3 := hk.1.2.2.2.1
    have b1 := hk.1.2.1
    have b0 := hk.1.1
    have bp := (hk.2.1 f.toNat (by omega)).2.2
    rw [hp] at bp
    have hx := (hk.2.2.2.1 k (by omega)).1
    unfold zOx at hx
    suffices hs : ∃ g1, zFr [91, 92, 93, 94] g g1 ∧ (∀ o, o < k → g1 94 o = g 94 o) ∧ (g1 94 k = if zhb a T f p k = true then zGl a T f p k else -1) ∧ sh_Mo_whistle_L12 N (n + 1) f (zbs (zhb a T f p) k : Int) k g = sh_Mo_whistle_L12 N n f (zbs (zhb a T f p) (k + 1) : Int) ((k + 1 : Nat) : Int) g1 by
      obtain ⟨g1, p2, p3, p4, p5⟩ := hs
      obtain ⟨g2, q1, q2, q3⟩ := ih n (k + 1) g1 (zKr_eq K (p2 86 (by decide)) (p2 88 (by decide))) (by rw [p2 86 (by decide)]; exact ea) (by omega) (by omega) (fun o ho => by
        by_cases e : o = k
        · subst e; exact p4
        · rw [p3 o (by omega)]; exact hg o (by omega))
      refine ⟨g2, ?_, fun o ho => q2 o (by omega), p2.trans q3⟩
      rw [show k + (d + 1) = k + 1 + d by omega]
      exact p5.trans q1
    have e1 : w32 ((k : Int) + 1) = ((k + 1 : Nat) : Int) := by rw [w32_s (by omega) (by omega)]; omega
    have t6 : 41 + 8 * k + 6 = 47 + 8 * k := by omega
    have t7 : 41 + 8 * k + 7 = 48 + 8 * k := by omega
    have fr0 : zFr [91, 92, 93, 94] g (zst g 94 k (-1)) := (zFr.refl g).st (by decide)
    have e86 : zst g 94 k (-1) 86 = a := by rw [fr0 86 (by decide)]; exact ea
    have K0 : zKr (zst g 94 k (-1)) T := zKr_eq K (fr0 86 (by decide)) (fr0 88 (by decide))
    have ep : sh_Mo_pitchOf N f (zst g 94 k (-1)) = some p := by
      unfold sh_Mo_pitchOf
      have ex : (10 + 3 * f + 2).toNat = 12 + 3 * f.toNat := by omega
      rw [e86]
      simp (disch := omega) only [zst_if, zup1_ne, zup1_eq, w32_s, rget_in, rput_in, zgrd, Nat.reduceEqDiff, Nat.reduceAdd, ↓reduceIte, Int.reduceToNat, zb1_some, zb2_some, zb3_some, zb4_some, zb5_some, Int.toNat_natCast, true_and, and_true, ex, hp]
    conv => enter [1, g1, 2, 2, 2, 1]; unfold sh_Mo_whistle_L12
    rw [ea, if_neg (c := a 2 ≤ (k : Int)) (by omega), zgrd (by omega) (by omega), e1, Int.toNat_natCast, ep, told_s (by omega) (by omega) (by decide) (by decide), told_s (by omega) (by omega) (by decide) (by decide), e86]
    simp only [zb1_some, Int.toNat_natCast, Int.reduceToNat, t6, t7]
    have a94 : ∀ o, o < k → zst g 94 k (-1) 94 o = g 94 o := fun o h => by rw [zst_if, if_pos rfl, zup1_ne _ _ (by omega)]
    have b94 : zst g 94 k (-1) 94 k = -1 := by rw [zst_if, if_pos rfl, zup1_eq]
    by_cases c : a (47 + 8 * k) < 10
    · rw [if_neg (c := 10 ≤ a (47 + 8 * k)) (by omega)]
      have z1 : zhb a T f p k = false := decide_eq_false (fun q => by omega)
      refine ⟨_, fr0, a94, ?_, ?_⟩
      · rw [b94, if_neg (by rw [z1]; decide)]
      · rw [zbs_n z1]
    · rw [if_pos (c := 10 ≤ a (47 + 8 * k)) (by omega), w32_s (by omega) (by omega)]
      obtain ⟨l, hl⟩ : ∃ l : Nat, a (47 + 8 * k) = 10 + (l : Int) := ⟨(a (47 + 8 * k) - 10).toNat, by omega⟩
      have el2 : (a (47 + 8 * k) - 10).toNat = l := by omega
      have el : a (47 + 8 * k) - 10 = (l : Int) := by omega
      have hp6 : zB6 p := by unfold zB6; omega
      have hh6 : zB6 (a 3) := by unfold zB6; omega
      obtain ⟨g1, g2, p1, p2, p3, p4, p5⟩ := zhd_r hN K0 (o := k) (l := l) (f := f) (p := p) (y := zyb a k) (hr := a 3) (by rw [e86]; omega) (by omega) (by omega) hp6 (zyb_B a k) hh6
      rw [e86] at p2 p4 p5
      have ehv : zhv a T f p k = zHv a T k f p l (zyb a k) (a 3) := by unfold zhv; rw [el2]
      rw [el, zyb_r (by omega), p1]
      simp only [zb1_some]
      rw [p2]
      simp only [zb2_some]
      have f2 : zFr [91, 92, 93, 94] g g2 := fr0.trans (p3.mono (by simp))
      by_cases c1 : zHv a T k f p l (zyb a k) (a 3) = 0
      · rw [if_pos c1]
        have z1 : zhb a T f p k = false := decide_eq_false (fun q => by rw [ehv, c1] at q; exact absurd q.2 (by decide))
        refine ⟨g2, f2, fun o h => by rw [p3 94 (by decide)]; exact a94 o h, ?_, ?_⟩
        · rw [p3 94 (by decide), b94, if_neg (by rw [z1]; decide)]
        · rw [zbs_n z1]
      · rw [if_neg c1]
        have c2 : zhv a T f p k = 1 := by
          rw [ehv]
          exact p5.resolve_left c1
        have z1 : zhb a T f p k = true := decide_eq_true ⟨by omega, c2⟩
        have K2 : zKr g2 T := zKr_eq K (f2 86 (by decide)) (f2 88 (by decide))
        have e862 : g2 86 = a := by rw [f2 86 (by decide)]; exact ea
        obtain ⟨g3, q1, q2, q3⟩ := zgoal_r hN K2 (o := k) (l := l) (f := f) (p := p) (y := zyb a k) (hr := a 3) (by rw [e862]; omega) (by omega) (by omega) hp6 (zyb_B a k) hh6 (by rw [e862]; exact p4)
        rw [e862] at q1 q3
        have esv : zsv a T f p k = zSd a T k f p l (zyb a k) (a 3) := by unfold zsv; rw [el2]
        rw [q1]
        simp only [zb2_some]
        rw [zgrd (by omega) (by omega), zbs_y (by omega) z1]
        have f3 : zFr [91, 92, 93, 94] g g3 := f2.trans (q2.mono (by simp))
        refine ⟨_, f3.st (by decide), fun o h => ?_, ?_, rfl⟩
        · rw [zst_if, if_pos rfl, zup1_ne _ _ (by omega), q2 94 (by decide), p3 94 (by decide)]; exact a94 o h
        · rw [zst_if, if_pos rfl, zup1_eq, z1, if_pos rfl]
          unfold zGl
          by_cases c3 : a (42 + 8 * k) = -1 ∨ zSd a T k f p l (zyb a k) (a 3) = 0
          · have z2 : zSb a T f p k = false := decide_eq_false (fun q => c3.elim q.2.1 (fun u => by rw [esv, u] at q; exact absurd q.2.2 (by decide)))
            rw [if_pos c3, z2]; rfl
          · have hb := q3 (fun u => c3 (Or.inl u))
            have z2 : zSb a T f p k = true := decide_eq_true ⟨⟨by omega, c2⟩, fun u => c3 (Or.inl u), by rw [esv]; exact hb.resolve_left (fun u => c3 (Or.inr u))⟩
            rw [if_neg c3, z2]; rfl
/-- one ox goes -/
def zwh1 (H : Nat → Bool) (G : Nat → Int) (a : zFn) (o : Nat) : zFn := if H o = true then zup1 (zprt a o) (41 + 8 * o + 6) (G o) else a
def zwh (H : Nat → Bool) (G : Nat → Int) : Nat → Nat → zFn → zFn
  | 0, _, a => a
  | d + 1, o, a => zwh H G d (o + 1) (zwh1 H G a o)
theorem zwh1_lo {H : Nat → Bool} {G : Nat → Int} {a : zFn} {o j : Nat} (hk : zOk a) (ho : (o : Int) < a 2) (h : j < 41 ∨ 105 ≤ j ∨ ((j - 41) % 8 ≠ 6 ∧ (j - 41) % 8 ≠ 7)) : zwh1 H G a o j = a j := by
  have hx := (hk.2.2.2.1 o ho).1
  have b2 := hk.1.2.2.1
  unfold zOx at hx
  unfold zwh1
  split
  · rw [zup1_ne _ _ (by omega), zprt_lo (by omega) (by omega) (by omega)]
  · rfl
theorem zwh1_ok {H : Nat → Bool} {G : Nat → Int} {a : zFn} {o : Nat} (hk : zOk a) (ho : (o : Int) < a 2) (hG : H o = true → 0 ≤ G o ∧ G o < a 0) : zOk (zwh1 H G a o) := by
  have hx := (hk.2.2.2.1 o ho).1
  have b2 := hk.1.2.2.1
  unfold zOx at hx
  unfold zwh1
  by_cases c : H o = true
  · rw [if_pos c]
    have hp := zprt_ok hk ho
    have hg := hG c
    have lo : ∀ j, (j < 41 ∨ 105 ≤ j ∨ (j - 41) % 8 ≠ 7) → zprt a o j = a j := fun j hj => zprt_lo hj (by omega) (by omega)
    refine zOk_ox hp (fun j hj => zup1_ne _ _ (by omega)) (fun q hq => ⟨zup1_ne _ _ (by omega), zup1_ne _ _ (by omega), zup1_ne _ _ (by omega)⟩) (fun q hq => ?_)
    have hy := (hp.2.2.2.1 q hq).1
    rw [zup1_ne _ _ (by omega), zup1_ne _ _ (by omega), zup1_ne _ _ (by omega), zup1_ne _ (j := 48 + 8 * q) _ (by omega)]
    by_cases e : q = o
    · subst e
      rw [zup1_e _ _ (by omega)]
      unfold zOx at hy ⊢
      have hs := zprt_self (a := a) (n := q) (by omega)
      rw [hs] at hy ⊢
      rw [lo 0 (by omega)] at hy ⊢
      exact ⟨hy.1, hy.2.1, hy.2.2.1, Or.inl hg, hy.2.2.2.2.1, hy.2.2.2.2.2.1, hy.2.2.2.2.2.2.1, fun u => absurd u (by decide)⟩
    · rw [zup1_ne _ _ (by omega)]
      exact hy
  · rw [if_neg c]; exact hk
theorem zwh_lo {H : Nat → Bool} {G : Nat → Int} : ∀ (d o : Nat) (a : zFn), zOk a → (o : Int) + d = a 2 → (∀ q : Nat, (q : Int) < a 2 → H q = true → 0 ≤ G q ∧ G q < a 0) → ∀ j, (j < 41 ∨ 105 ≤ j) → zwh H G d o a j = a j := by
  intro d
  induction d with
  | zero => intro o a hk ho hG j hj; rfl
  | succ d ih =>
    intro o a hk ho hG j hj
    have lo : ∀ i, (i < 41 ∨ 105 ≤ i) → zwh1 H G a o i = a i := fun i hi => zwh1_lo hk (by omega) (by omega)
    unfold zwh
    rw [ih (o + 1) _ (zwh1_ok hk (by omega) (hG o (by omega))) (by rw [lo 2 (by omega)]; omega) (fun q hq => by rw [lo 0 (by omega)]; rw [lo 2 (by omega)] at hq; exact hG q hq) j hj, lo j hj]
theorem zwh_c2 {H S : Nat → Bool} {G : Nat → Int} {s t D : Nat} (N : Nat) (hs : s < 256) (ht : t < 256) (eS : ∀ o, o < D → s.testBit o = H o) (eT : ∀ o, o < D → H o = true → t.testBit o = S o) : ∀ (d n o : Nat) (h : zHp) (a : zFn), zYc 0 h a → zOk a → (o : Int) + d = a 2 → d < n → o + d = D →
    (∀ q : Nat, (q : Int) < a 2 → H q = true → 0 ≤ G q ∧ G q < a 0) → (∀ q : Nat, (q : Int) < a 2 → H q = true → G q = if S q = true then a (42 + 8 * q) else a (41 + 8 * q)) →
    ∃ h1, sh_Ox_blow_14_L63 N n (s : Int) (t : Int) o h = some ((s : Int), h1) ∧ zYc 0 h1 (zwh H G d o a) ∧ zOk (zwh H G d o a) ∧ ∀ id, id ≠ 16 → h1 id = h id := by
  intro d
  induction d with
  | zero =>
    intro n o h a hy hk ho hn _ hG hg
    obtain ⟨n, rfl⟩ : ∃ m, n = m + 1 := ⟨n - 1, by omega⟩
    refine ⟨h, ?_, hy, hk, fun _ _ => rfl⟩
    have e0 : h 16 2 = a 2 := hy.1.2.2.1
    unfold sh_Ox_blow_14_L63
    rw [oxen_s, e0, if_pos (by omega)]
  | succ d ih =>
    intro n o h a hy hk ho hn hsd hG hg
    obtain ⟨n, rfl⟩ : ∃ m, n = m + 1 := ⟨n - 1, by omega⟩
    have e0 : h 16 2 = a 2 := hy.1.2.2.1
    have b2 := hk.1.2.2.1
    have hx := (hk.2.2.2.1 o (by omega)).1
    unfold zOx at hx
    have y4 := hy.2.2.2.1
    simp only [Nat.reduceAdd] at y4
    have lo : ∀ i, (i < 41 ∨ 105 ≤ i ∨ ((i - 41) % 8 ≠ 6 ∧ (i - 41) % 8 ≠ 7)) → zwh1 H G a o i = a i := fun i hi => zwh1_lo hk (by omega) hi
    suffices hh : ∃ h1, sh_Ox_blow_14_L63 N (n + 1) (s : Int) (t : Int) o h = sh_Ox_blow_14_L63 N n (s : Int) (t : Int) ((o + 1 : Nat) : Int) h1 ∧ zYc 0 h1 (zwh1 H G a o) ∧ ∀ id, id ≠ 16 → h1 id = h id by
      obtain ⟨h1, p1, p2, p3⟩ := hh
      obtain ⟨h2, q1, q2, q3, q4⟩ := ih n (o + 1) h1 (zwh1 H G a o) p2 (zwh1_ok hk (by omega) (hG o (by omega))) (by rw [lo 2 (by omega)]; omega) (by omega) (by omega) (fun q hq => by rw [lo 0 (by omega)]; rw [lo 2 (by omega)] at hq; exact hG q hq) (fun q hq => by
        rw [lo 2 (by omega)] at hq
        rw [lo _ (by omega), lo _ (by omega)]; exact hg q hq)
      exact ⟨h2, p1.trans q1, q2, q3, fun id hid => (q4 id hid).trans (p3 id hid)⟩
    have e1 : w32 ((o : Int) + 1) = ((o + 1 : Nat) : Int) := by rw [w32_s (by omega) (by omega)]; omega
    conv => enter [1, h1, 1, 1]; unfold sh_Ox_blow_14_L63
    rw [oxen_s, e0, if_neg (by omega), e1, zis_8 hs (by omega), eS o (by omega)]
    by_cases c : H o = true
    · rw [if_pos c, if_neg (by decide)]
      obtain ⟨h1, p1, p2, p3, p4⟩ := zprt_c (n := o) y4 (by omega) (by omega)
      have lp : ∀ j, (j < 41 ∨ 105 ≤ j ∨ (j - 41) % 8 ≠ 7) → zprt a o j = a j := fun j hj => zprt_lo hj (by omega) (by omega)
      rw [p1, put_s (by omega) (by omega) (by decide) (by decide), zis_8 ht (by omega), eT o (by omega) c, Int.toNat_natCast, show (6 : Int).toNat = 6 from rfl]
      have ev : sh_Herd_get_14 (o : Int) (if (if S o = true then 1 else 0 : Int) = 0 then 0 else 1 : Int) h1 = G o := by
        rw [hg o (by omega) c]
        have v0 : h1 16 (7 + 8 * o) = a (41 + 8 * o) := by
          have := p2 o (by omega) 0 (by decide)
          rw [Nat.add_zero, Nat.add_zero, lp _ (by omega)] at this; exact this
        have v1 : h1 16 (7 + 8 * o + 1) = a (42 + 8 * o) := by
          rw [p2 o (by omega) 1 (by decide), lp _ (by omega)]; congr 1; omega
        by_cases c1 : S o = true
        · rw [if_pos c1, if_pos c1, if_neg (by decide), get_s (by omega) (by omega) (by decide) (by decide), Int.toNat_natCast, show (1 : Int).toNat = 1 from rfl, v1]
        · rw [if_neg c1, if_neg c1, if_pos rfl, get_s (by omega) (by omega) (by decide) (by decide), Int.toNat_natCast, show (0 : Int).toNat = 0 from rfl, Nat.add_zero, v0]
      rw [ev]
      refine ⟨_, rfl, ?_, fun id hid => by rw [zst_if, if_neg hid]; exact p4 id hid⟩
      refine zYc_ox hy hk (fun id u _ _ => by rw [zst_if, if_neg u]; exact p4 id u) (fun j hj => by rw [zst_if, if_pos rfl, zup1_ne _ _ (by omega)]; exact p3 j hj) (fun j hj => lo j (by omega)) (fun q hq => ⟨lo _ (by omega), lo _ (by omega), lo _ (by omega)⟩) ?_
      rw [zst_if, if_pos rfl]
      have := zYc_put (h := h1) (a := zprt a o) (x := o) (w := 6) (v := G o) p2 (by omega) (by decide)
      unfold zwh1
      rw [if_pos c]
      exact this
    · rw [if_neg c, if_pos rfl]
      refine ⟨h, rfl, ?_, fun _ _ => rfl⟩
      unfold zwh1
      rw [if_neg c]
      exact hy
theorem zwh_r2 {H : Nat → Bool} {G : Nat → Int} (N : Nat) (s : Int) : ∀ (d n o : Nat) (g : zHp), zOk (g 86) → (o : Int) + d = g 86 2 → d < n → (∀ q : Nat, (q : Int) < g 86 2 → H q = true → 0 ≤ G q ∧ G q < g 86 0) → (∀ q : Nat, (q : Int) < g 86 2 → g 94 q = if H q = true then G q else -1) →
    ∃ g1, sh_Mo_whistle_L75 N n s o g = some (s, g1) ∧ g1 86 = zwh H G d o (g 86) ∧ zOk (g1 86) ∧ ∀ id, id ≠ 86 → g1 id = g id := by
  intro d
  induction d with
  | zero =>
    intro n o g hk ho hn hG hg
    obtain ⟨n, rfl⟩ : ∃ m, n = m + 1 := ⟨n - 1, by omega⟩
    refine ⟨g, ?_, rfl, hk, fun _ _ => rfl⟩
    unfold sh_Mo_whistle_L75
    rw [if_pos (by omega)]
  | succ d ih =>
    intro n o g hk ho hn hG hg
    obtain ⟨n, rfl⟩ : ∃ m, n = m + 1 := ⟨n - 1, by omega⟩
    have b2 := hk.1.2.2.1
    have hx := (hk.2.2.2.1 o (by omega)).1
    unfold zOx at hx
    have lo : ∀ i, (i < 41 ∨ 105 ≤ i ∨ ((i - 41) % 8 ≠ 6 ∧ (i - 41) % 8 ≠ 7)) → zwh1 H G (g 86) o i = g 86 i := fun i hi => zwh1_lo hk (by omega) hi
    suffices hh : ∃ g1, sh_Mo_whistle_L75 N (n + 1) s o g = sh_Mo_whistle_L75 N n s ((o + 1 : Nat) : Int) g1 ∧ g1 86 = zwh1 H G (g 86) o ∧ ∀ id, id ≠ 86 → g1 id = g id by
      obtain ⟨g1, p1, p2, p3⟩ := hh
      obtain ⟨g2, q1, q2, q3, q4⟩ := ih n (o + 1) g1 (by rw [p2]; exact zwh1_ok hk (by omega) (hG o (by omega))) (by rw [p2, lo 2 (by omega)]; omega) (by omega) (fun q hq => by rw [p2, lo 0 (by omega)]; rw [p2, lo 2 (by omega)] at hq; exact hG q hq) (fun q hq => by
        rw [p2, lo 2 (by omega)] at hq
        rw [p3 94 (by decide)]; exact hg q hq)
      rw [p2] at q2
      exact ⟨g2, p1.trans q1, q2, q3, fun id hid => (q4 id hid).trans (p3 id hid)⟩
    have e1 : w32 ((o : Int) + 1) = ((o + 1 : Nat) : Int) := by rw [w32_s (by omega) (by omega)]; omega
    conv => enter [1, g1, 1, 1]; unfold sh_Mo_whistle_L75
    rw [if_neg (by omega), zgrd (by omega) (by omega), e1, Int.toNat_natCast, hg o (by omega)]
    by_cases c : H o = true
    · have hgo := hG o (by omega) c
      rw [if_pos c, if_pos hgo.1]
      obtain ⟨g1, p1, p2, p3⟩ := zprt_r (N := N) (g := g) (n := o) (by omega) (by omega)
      rw [p1]
      simp only [zb1_some]
      rw [zgrd (by omega) (by omega), make_s (by omega) (by omega) (by decide) (by decide), Int.toNat_natCast, show (6 : Int).toNat = 6 from rfl, p3 94 (by decide), hg o (by omega), if_pos c]
      simp only [zb1_some]
      refine ⟨_, rfl, ?_, fun id hid => by rw [zst_if, if_neg hid]; exact p3 id hid⟩
      rw [zst_if, if_pos rfl, p2]
      unfold zwh1
      rw [if_pos c]
    · rw [if_neg c, if_neg (by decide)]
      refine ⟨g, rfl, ?_, fun _ _ => rfl⟩
      unfold zwh1
      rw [if_neg c]
theorem zGl_b {a : zFn} {T : Nat → Nat → List Int} {f p : Int} (hk : zOk a) (q : Nat) (hq : (q : Int) < a 2) : 0 ≤ zGl a T f p q ∧ zGl a T f p q < a 0 := by
  have hx := hk.2.2.2.1 q hq
  have h1 := hx.1
  unfold zOx at h1
  unfold zGl
  by_cases c : zSb a T f p q = true
  · rw [if_pos c]
    have := (of_decide_eq_true c).2.1
    omega
  · rw [if_neg c]; omega
theorem zc_whistle {h : zHp} (x : Int) (hI : zInv h) {N : Nat} (hN : 1300 ≤ N) : ∃ h2, zcas (sh_Ox_whistle N x) (sh_Mo_whistle N x) h = some (1, h2) ∧ zInv h2 := by
  have hI' := hI
  obtain ⟨⟨hy, hk⟩, -⟩ := hI'
  have e9 : h 1 0 = h 86 0 := hy.1.1
  have k9 := hk.1.1
  by_cases c : 0 ≤ x ∧ x < h 86 0
  · obtain ⟨T, K, R⟩ := zK_of hI
    have k0 := hk.1.2.2.1
    obtain ⟨h1, p1, z1, f16, f1⟩ := zkeep_c hy hk
    have hkk := zkeep_ok hk
    have lo : ∀ j, j < 121 → j ≠ 7 → zkeep (h 86) j = h 86 j := fun j h1 h2 => zkeep_lo h1 h2
    obtain ⟨d, hd⟩ : ∃ d : Nat, h 86 2 = d := ⟨(h 86 2).toNat, by omega⟩
    have d2 : zkeep (h 86) 2 = d := by rw [lo 2 (by omega) (by omega)]; exact hd
    have K1 : zKc h1 (zkeep (h 86)) T := by
      refine ⟨⟨z1, hkk⟩, fun t ht c hc => ?_⟩
      rw [lo 4 (by omega) (by omega)] at ht
      have := K.2 t ht c hc
      refine ⟨?_, this.2⟩
      have t1 := this.1
      unfold zTw at t1 ⊢
      rw [f1 28 (by decide) (by decide), f1 30 (by decide) (by decide), f1 32 (by decide) (by decide)]
      exact t1
    have hp : rget h1 7 5 x = zkeep (h 86) (12 + 3 * x.toNat) := by
      rw [rget_in (by omega) (by omega)]
      exact (z1.2.1 x.toNat (by omega)).2.2
    have bp := (hkk.2.1 x.toNat (by omega)).2.2
    generalize ea : zkeep (h 86) = a at *
    have hG : ∀ q : Nat, (q : Int) < a 2 → zhb a T x (a (12 + 3 * x.toNat)) q = true → 0 ≤ zGl a T x (a (12 + 3 * x.toNat)) q ∧ zGl a T x (a (12 + 3 * x.toNat)) q < a 0 := fun q hq _ => zGl_b hkk q hq
    have b0 := hkk.1.1
    obtain ⟨h2, r1, r2⟩ := zwh_c1 (a := a) (T := T) hN (f := x) (p := a (12 + 3 * x.toNat)) (by omega) (by unfold zB6; omega) d N 0 h1 K1 (by omega) (by omega)
    rw [Nat.zero_add] at r1
    have K2 := zKc_fr K1 r2 (by decide)
    obtain ⟨h3, s1, s2, s3, s4⟩ := zwh_c2 (H := zhb a T x (a (12 + 3 * x.toNat))) (S := zSb a T x (a (12 + 3 * x.toNat))) (G := zGl a T x (a (12 + 3 * x.toNat))) (s := zbs (zhb a T x (a (12 + 3 * x.toNat))) d) (t := zbs (zSb a T x (a (12 + 3 * x.toNat))) d) N (D := d) (zbs_256 _ (by omega)) (zbs_256 _ (by omega)) (fun o ho => by rw [zbs_t]; simp [ho]) (fun o ho _ => by rw [zbs_t]; simp [ho]) d N 0 h2 a K2.1.1 hkk (by omega) (by omega) (by omega) hG (fun q _ _ => rfl)
    have f86 : h3 86 = h 86 := by rw [s4 86 (by decide), r2 86 (by decide), f1 86 (by decide) (by decide)]
    have f88 : h3 88 = h 88 := by rw [s4 88 (by decide), r2 88 (by decide), f1 88 (by decide) (by decide)]
    obtain ⟨g1, q1, q2, q3⟩ := zkeep_r N (by omega) (h := h3) (by rw [f86]; exact hk.1.2.2.2.2.2.2.2)
    rw [f86, ea] at q2
    have R1 : zKr g1 T := by
      refine ⟨by rw [q2]; exact hkk, ?_⟩
      rw [q2, lo 4 (by omega) (by omega)]
      have := R.2
      unfold zTv at this ⊢
      rw [q3 88 (by decide), f88]
      exact this
    obtain ⟨g2, t1, t2, t3⟩ := zwh_r1 (T := T) hN (f := x) (by omega) a d N 0 g1 R1 q2 (by omega) (by omega) (fun o ho => by omega)
    rw [Nat.zero_add] at t1 t2
    have u86 : g2 86 = a := by rw [t3 86 (by decide)]; exact q2
    obtain ⟨g3, v1, v2, v3, v4⟩ := zwh_r2 (H := zhb a T x (a (12 + 3 * x.toNat))) (G := zGl a T x (a (12 + 3 * x.toNat))) N (zbs (zhb a T x (a (12 + 3 * x.toNat))) d : Int) d N 0 g2 (by rw [u86]; exact hkk) (by rw [u86]; omega) (by omega) (by rw [u86]; exact hG) (fun q hq => t2 q (by rw [u86] at hq; omega))
    rw [u86] at v2
    refine ⟨g3, zcas_of (r := (zbs (zhb a T x (a (12 + 3 * x.toNat))) d : Int)) (h1 := h3) ?_ ?_, ?_⟩
    · unfold sh_Ox_whistle
      simp only [isFarm_z (h := h) (x := x) (by omega), e9]
      rw [if_neg (by omega), p1, hp]
      unfold sh_Ox_blow_14
      refine (congrArg (fun o => zb2 (zb3 o fun y54 y55 h56 => zb2 (sh_Ox_blow_14_L63 N N y54 y55 0 h56) fun y87 h88 => some (y87, h88)) fun r19 h20 => some (r19, h20)) r1).trans ?_
      simp only [zb3_some]
      refine (congrArg (fun o => zb2 (zb2 o fun y87 h88 => some (y87, h88)) fun r19 h20 => some (r19, h20)) s1).trans ?_
      simp only [zb2_some]
    · unfold sh_Mo_whistle
      simp only [isFarmR_z (h := h3) (x := x) (by rw [f86]; omega), f86]
      rw [if_neg (by omega), q1]
      simp only [zb1_some]
      refine (congrArg (fun o => zb2 o fun y66 h67 => zb2 (sh_Mo_whistle_L75 N N y66 0 h67) fun y86 h87 => some (y86, h87)) t1).trans ?_
      simp only [zb2_some]
      refine (congrArg (fun o => zb2 o fun y86 h87 => some (y86, h87)) v1).trans ?_
      simp only [zb2_some]
    · have lz := zwh_lo (H := zhb a T x (a (12 + 3 * x.toNat))) (G := zGl a T x (a (12 + 3 * x.toNat))) d 0 a hkk (by omega) hG
      refine zmut hI (h1 := h3) (a := zwh (zhb a T x (a (12 + 3 * x.toNat))) (zGl a T x (a (12 + 3 * x.toNat))) d 0 a) ?_ s2 ?_ v2 s3 ?_
      · intro id q r
        rw [s4 id (by omega), r2 id (by intro m; simp at m; rcases m with rfl | rfl | rfl <;> first | omega | cases q), f1 id (by omega) (by omega)]
      · intro id q r
        rw [v4 id r, t3 id (by intro m; simp at m; rcases m with rfl | rfl | rfl | rfl <;> first | omega | cases q), q3 id r]
      · rw [lz 4 (by omega), lo 4 (by omega) (by omega)]
  · refine ⟨h, zcas_of (r := -1) (h1 := h) ?_ ?_, hI⟩
    · unfold sh_Ox_whistle
      simp only [isFarm_z (h := h) (x := x) (by omega), e9]
      rw [if_pos (by omega)]
    · unfold sh_Mo_whistle
      simp only [isFarmR_z (h := h) (x := x) (by omega)]
      rw [if_pos (by omega)]
