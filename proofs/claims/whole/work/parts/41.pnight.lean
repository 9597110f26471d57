/-! PURE: heeds, night -/
theorem zQ_fr {S : List Nat} {h h1 : zHp} (a : zFr S h h1) (hS : ∀ x, x ∈ S → zScr x = true) : zQ h h1 := fun id q => a id (fun r => by have := hS id r; rw [q] at this; cases this)
theorem isDigit_z {x : Int} : (sh_Ox_isDigit x = 0) = ¬ (0 ≤ x ∧ x ≤ 9) := within_z
theorem zc_heeds {h : zHp} (x y p f b : Int) (hI : zInv h) {N : Nat} (hN : 1300 ≤ N) : ∃ h2, zcas (sh_Ox_heeds N x y p f b) (sh_Mo_heeds N x y p f b) h = some (1, h2) ∧ zInv h2 := by
  have hI' := hI
  obtain ⟨⟨hy, hk⟩, -⟩ := hI'
  have e0 : h 16 2 = h 86 2 := hy.1.2.2.1
  have e1 : h 16 1 = h 86 1 := hy.1.2.1
  have e3 : h 16 0 = h 86 3 := hy.1.2.2.2.1
  have e9 : h 1 0 = h 86 0 := hy.1.1
  have k0 := hk.1
  by_cases c : (0 ≤ x ∧ x < h 86 2) ∧ (0 ≤ y ∧ y < h 86 0) ∧ (0 ≤ p ∧ p ≤ 9) ∧ (0 ≤ f ∧ f < h 86 1)
  · obtain ⟨T, K, R⟩ := zK_of hI
    obtain ⟨o, rfl⟩ : ∃ n : Nat, x = n := ⟨x.toNat, by omega⟩
    obtain ⟨l, rfl⟩ : ∃ n : Nat, f = n := ⟨f.toNat, by omega⟩
    have hp : zB6 p := by unfold zB6; omega
    have hh : zB6 (h 86 3) := by unfold zB6; omega
    obtain ⟨h1, p1, f1, -⟩ := zhd_c hN K (o := o) (l := l) (f := y) (p := p) (y := b) (hr := h 86 3) (by omega) (by omega) (by omega) hp hh
    have f86 := f1 86 (by decide)
    obtain ⟨g1, g2, q1, q2, f2, -⟩ := zhd_r hN (zKr_eq R f86 (f1 88 (by decide))) (o := o) (l := l) (f := y) (p := p) (y := if b = 0 then 0 else 1) (hr := h 86 3) (by rw [f86]; omega) (by omega) (by omega) hp (zYB b) hh
    rw [f86] at q2
    refine ⟨g2, zcas_of (r := zHv (h 86) T o y p l (if b = 0 then 0 else 1) (h 86 3)) (h1 := h1) ?_ ?_, zqry hI ((zQ_fr f1 (by decide)).trans (zQ_fr f2 (by decide)))⟩
    · unfold sh_Ox_heeds
      simp only [isOx_z (h := h) (x := (o : Int)) (by omega), isFarm_z (h := h) (x := y) (by omega), isField_z (h := h) (x := (l : Int)) (by omega), isDigit_z, e0, e1, e9, hour_s, e3]
      rw [if_neg (by omega), if_neg (by omega), if_neg (by omega), if_neg (by omega), p1]
      rfl
    · unfold sh_Mo_heeds
      simp only [isOxR_z (h := h1) (x := (o : Int)) (by rw [f86]; omega), isFarmR_z (h := h1) (x := y) (by rw [f86]; omega), isFieldR_z (h := h1) (x := (l : Int)) (by rw [f86]; omega), isIn_z, f86]
      rw [if_neg (by omega), if_neg (by omega), if_neg (by omega), if_neg (by omega), q1]
      simp only [zb1_some]
      rw [q2]
      rfl
  · refine ⟨h, zcas_of (r := 0) (h1 := h) ?_ ?_, hI⟩
    · unfold sh_Ox_heeds
      simp only [isOx_z (h := h) (x := x) (by omega), isFarm_z (h := h) (x := y) (by omega), isField_z (h := h) (x := f) (by omega), isDigit_z, e0, e1, e9]
      by_cases c1 : 0 ≤ x ∧ x < h 86 2
      · rw [if_neg (by omega)]
        by_cases c2 : 0 ≤ y ∧ y < h 86 0
        · rw [if_neg (by omega)]
          by_cases c3 : 0 ≤ p ∧ p ≤ 9
          · rw [if_neg (by omega), if_pos (by omega)]
          · rw [if_pos (by omega)]
        · rw [if_pos (by omega)]
      · rw [if_pos (by omega)]
    · unfold sh_Mo_heeds
      simp only [isOxR_z (h := h) (x := x) (by omega), isFarmR_z (h := h) (x := y) (by omega), isFieldR_z (h := h) (x := f) (by omega), isIn_z]
      by_cases c1 : 0 ≤ x ∧ x < h 86 2
      · rw [if_neg (by omega)]
        by_cases c2 : 0 ≤ y ∧ y < h 86 0
        · rw [if_neg (by omega)]
          by_cases c3 : 0 ≤ p ∧ p ≤ 9
          · rw [if_neg (by omega), if_pos (by omega)]
          · rw [if_pos (by omega)]
        · rw [if_pos (by omega)]
      · rw [if_pos (by omega)]
/-! night -/
def znc (a : zFn) (o : Nat) : Prop := a (47 + 8 * o) = a (45 + 8 * o) ∧ ¬ a (41 + 8 * o) = a (45 + 8 * o)
def znt1 (a : zFn) (o : Nat) : zFn := if a (47 + 8 * o) = a (45 + 8 * o) then (if a (41 + 8 * o) = a (45 + 8 * o) then a else if a (46 + 8 * o) + 1 < 3 then zup1 a (41 + 8 * o + 5) (a (46 + 8 * o) + 1) else zup1 (zup1 a (41 + 8 * o + 5) 0) (41 + 8 * o + 0) (a (45 + 8 * o))) else a
def znb1 (a : zFn) (o : Nat) (s : Int) : Int := if a (47 + 8 * o) = a (45 + 8 * o) then (if a (41 + 8 * o) = a (45 + 8 * o) then s else if a (46 + 8 * o) + 1 < 3 then s else zor s (zshl 1 o)) else s
def znt : Nat → Nat → zFn → Int → Int × zFn
  | 0, _, a, s => (s, a)
  | d + 1, o, a, s => znt d (o + 1) (znt1 a o) (znb1 a o s)
theorem znt1_lo {a : zFn} {o j : Nat} (h : j < 41 ∨ 105 ≤ j ∨ (41 ≤ j ∧ ((j - 41) % 8 ≠ 0 ∧ (j - 41) % 8 ≠ 5))) (ho : o < 8) : znt1 a o j = a j := by
  unfold znt1
  split
  · split
    · rfl
    · split
      · rw [zup1_ne _ _ (by omega)]
      · rw [zup1_ne _ _ (by omega), zup1_ne _ _ (by omega)]
  · rfl
theorem znt_lo : ∀ (d o : Nat) (a : zFn) (s : Int) {j : Nat}, (j < 41 ∨ 105 ≤ j) → o + d ≤ 8 → (znt d o a s).2 j = a j := by
  intro d
  induction d with
  | zero => intro o a s j _ _; rfl
  | succ d ih =>
    intro o a s j hj ho
    unfold znt
    rw [ih (o + 1) _ _ hj (by omega), znt1_lo (by omega) (by omega)]
theorem znt1_ok {a : zFn} {o : Nat} (hk : zOk a) (ho : (o : Int) < a 2) : zOk (znt1 a o) := by
  have b2 := hk.1.2.2.1
  refine zOk_ox hk (fun j hj => znt1_lo (by omega) (by omega)) (fun q hq => ⟨znt1_lo (by omega) (by omega), znt1_lo (by omega) (by omega), znt1_lo (by omega) (by omega)⟩) (fun q hq => ?_)
  have hx := (hk.2.2.2.1 q hq).1
  rw [znt1_lo (j := 45 + 8 * q) (by omega) (by omega), znt1_lo (j := 47 + 8 * q) (by omega) (by omega), znt1_lo (j := 48 + 8 * q) (by omega) (by omega)]
  unfold znt1
  by_cases e : q = o
  · subst e
    split
    · split
      · exact hx
      · split
        · rw [zup1_ne _ _ (by omega), zup1_e _ _ (by omega)]
          unfold zOx at hx ⊢
          exact ⟨hx.1, hx.2.1, ⟨by omega, by omega⟩, hx.2.2.2⟩
        · rw [zup1_e _ _ (by omega), zup1_ne _ _ (by omega), zup1_e _ _ (by omega)]
          unfold zOx at hx ⊢
          exact ⟨hx.2.1, hx.2.1, ⟨by decide, by decide⟩, hx.2.2.2⟩
    · exact hx
  · split
    · split
      · exact hx
      · split
        · rw [zup1_ne _ _ (by omega), zup1_ne _ _ (by omega)]
          exact hx
        · rw [zup1_ne _ _ (by omega), zup1_ne _ _ (by omega), zup1_ne _ _ (by omega), zup1_ne _ _ (by omega)]
          exact hx
    · exact hx
theorem znt1_c {h : zHp} {a : zFn} {o : Nat} (hy : zYc 0 h a) (hk : zOk a) (ho : (o : Int) < a 2) : ∃ r h1, sh_Herd_sleepAtOwner_14 o h = some (r, h1) ∧ (∀ s, (if r = 0 then s else zor s (zshl 1 o)) = znb1 a o s) ∧ zYc 0 h1 (znt1 a o) ∧ ∀ id, id ≠ 16 → h1 id = h id := by
  have b2 := hk.1.2.2.1
  have y4 := hy.2.2.2.1
  simp only [Nat.reduceAdd] at y4
  have g0 : h 16 (7 + 8 * o + 0) = a (41 + 8 * o) := y4 o (by omega) 0 (by decide)
  have g4 : h 16 (7 + 8 * o + 4) = a (45 + 8 * o) := by rw [y4 o (by omega) 4 (by decide)]; congr 1; omega
  have g5 : h 16 (7 + 8 * o + 5) = a (46 + 8 * o) := by rw [y4 o (by omega) 5 (by decide)]; congr 1; omega
  have g6 : h 16 (7 + 8 * o + 6) = a (47 + 8 * o) := by rw [y4 o (by omega) 6 (by decide)]; congr 1; omega
  have hx := (hk.2.2.2.1 o ho).1
  have en := hx.2.2.1
  have lo : ∀ j, (j < 41 ∨ 105 ≤ j) → znt1 a o j = a j := fun j hj => znt1_lo (by omega) (by omega)
  have lw : ∀ q, q < 8 → znt1 a o (42 + 8 * q) = a (42 + 8 * q) ∧ znt1 a o (43 + 8 * q) = a (43 + 8 * q) ∧ znt1 a o (44 + 8 * q) = a (44 + 8 * q) := fun q hq => ⟨znt1_lo (by omega) (by omega), znt1_lo (by omega) (by omega), znt1_lo (by omega) (by omega)⟩
  unfold sh_Herd_sleepAtOwner_14
  simp only [get_s (x := (o : Int)) (by omega) (by omega) (w := 6) (by decide) (by decide), get_s (x := (o : Int)) (by omega) (by omega) (w := 4) (by decide) (by decide), get_s (x := (o : Int)) (by omega) (by omega) (w := 5) (by decide) (by decide), get_s (x := (o : Int)) (by omega) (by omega) (w := 0) (by decide) (by decide), Int.toNat_natCast, Int.reduceToNat, g0, g4, g5, g6]
  rw [w32_s (by omega) (by omega)]
  by_cases c1 : a (47 + 8 * o) = a (45 + 8 * o)
  · rw [if_pos c1]
    by_cases c2 : a (41 + 8 * o) = a (45 + 8 * o)
    · rw [if_pos c2]
      refine ⟨0, h, rfl, fun s => ?_, ?_, fun _ _ => rfl⟩
      · rw [if_pos rfl]; unfold znb1; rw [if_pos c1, if_pos c2]
      · unfold znt1; rw [if_pos c1, if_pos c2]; exact hy
    · rw [if_neg c2]
      by_cases c3 : a (46 + 8 * o) + 1 < 3
      · rw [if_pos c3, if_pos rfl, put_s (by omega) (by omega) (by decide) (by decide)]
        refine ⟨0, _, rfl, fun s => ?_, ?_, fun id hid => by rw [zst_if, if_neg hid]⟩
        · rw [if_pos rfl]; unfold znb1; rw [if_pos c1, if_neg c2, if_pos c3]
        · refine zYc_ox hy hk (fun id u _ _ => by rw [zst_if, if_neg u]) (fun j hj => by rw [zst_if, if_pos rfl, zup1_ne _ _ (by omega)]) lo lw ?_
          rw [zst_if, if_pos rfl, if_pos rfl]
          have := zYc_put (h := h) (x := o) (w := 5) (v := a (46 + 8 * o) + 1) y4 (by omega) (by decide)
          unfold znt1
          rw [if_pos c1, if_neg c2, if_pos c3]
          exact this
      · rw [if_neg c3, if_neg (by decide), put_s (by omega) (by omega) (by decide) (by decide), put_s (by omega) (by omega) (by decide) (by decide)]
        refine ⟨1, _, rfl, fun s => ?_, ?_, fun id hid => by rw [zst_if, if_neg hid, zst_if, if_neg hid]⟩
        · rw [if_neg (by decide)]; unfold znb1; rw [if_pos c1, if_neg c2, if_neg c3]
        · refine zYc_ox hy hk (fun id u _ _ => by rw [zst_if, if_neg u, zst_if, if_neg u]) (fun j hj => by rw [zst_if, if_pos rfl, zup1_ne _ _ (by omega), zst_if, if_pos rfl, zup1_ne _ _ (by omega)]) lo lw ?_
          rw [zst_if, if_pos rfl, zst_if, if_pos rfl, if_neg (by decide)]
          have s1 := zYc_put (h := h) (x := o) (w := 5) (v := 0) y4 (by omega) (by decide)
          have s2 := zYc_put (h := zst h 16 (7 + 8 * o + 5) 0) (x := o) (w := 0) (v := a (45 + 8 * o)) (by rw [zst_if, if_pos rfl]; exact s1) (by omega) (by decide)
          rw [zst_if, if_pos rfl] at s2
          unfold znt1
          rw [if_pos c1, if_neg c2, if_neg c3]
          exact s2
  · rw [if_neg c1]
    refine ⟨0, h, rfl, fun s => ?_, ?_, fun _ _ => rfl⟩
    · rw [if_pos rfl]; unfold znb1; rw [if_neg c1]
    · unfold znt1; rw [if_neg c1]; exact hy
theorem znt_c (N : Nat) : ∀ (d n o : Nat) (h : zHp) (a : zFn) (s : Int), zYc 0 h a → zOk a → (o : Int) + d = a 2 → d < n → ∃ h1, sh_Ox_night_L7 N n s o h = some ((znt d o a s).1, h1) ∧ zYc 0 h1 (znt d o a s).2 ∧ zOk (znt d o a s).2 ∧ ∀ id, id ≠ 16 → h1 id = h id := by
  intro d
  induction d with
  | zero =>
    intro n o h a s hy hk ho hn
    obtain ⟨n, rfl⟩ : ∃ m, n = m + 1 := ⟨n - 1, by omega⟩
    refine ⟨h, ?_, hy, hk, fun _ _ => rfl⟩
    have e0 : h 16 2 = a 2 := hy.1.2.2.1
    unfold sh_Ox_night_L7
    rw [oxen_s, e0, if_pos (by omega)]
    rfl
  | succ d ih =>
    intro n o h a s hy hk ho hn
    obtain ⟨n, rfl⟩ : ∃ m, n = m + 1 := ⟨n - 1, by omega⟩
    have e0 : h 16 2 = a 2 := hy.1.2.2.1
    have b2 := hk.1.2.2.1
    obtain ⟨r, h1, p1, p2, p3, p4⟩ := znt1_c hy hk (o := o) (by omega)
    obtain ⟨h2, q1, q2, q3, q4⟩ := ih n (o + 1) h1 (znt1 a o) (znb1 a o s) p3 (znt1_ok hk (by omega)) (by rw [znt1_lo (by omega) (by omega)]; omega) (by omega)
    refine ⟨h2, ?_, q2, q3, fun id hid => (q4 id hid).trans (p4 id hid)⟩
    unfold sh_Ox_night_L7
    rw [oxen_s, e0, if_neg (by omega), p1]
    simp only [zb2_some]
    rw [p2, w32_s (by omega) (by omega)]
    exact q1
theorem znt_r (N : Nat) : ∀ (d n o : Nat) (g : zHp) (s : Int), zOk (g 86) → (o : Int) + d = g 86 2 → d < n → ∃ g1, sh_Mo_night_L6 N n s o g = some ((znt d o (g 86) s).1, g1) ∧ g1 86 = (znt d o (g 86) s).2 ∧ ∀ id, id ≠ 86 → g1 id = g id := by
  intro d
  induction d with
  | zero =>
    intro n o g s hk ho hn
    obtain ⟨n, rfl⟩ : ∃ m, n = m + 1 := ⟨n - 1, by omega⟩
    refine ⟨g, ?_, rfl, fun _ _ => rfl⟩
    unfold sh_Mo_night_L6
    rw [if_pos (by omega)]
    rfl
  | succ d ih =>
    intro n o g s hk ho hn
    obtain ⟨n, rfl⟩ : ∃ m, n = m + 1 := ⟨n - 1, by omega⟩
    have b2 := hk.1.2.2.1
    have en := (hk.2.2.2.1 o (by omega)).1.2.2.1
    suffices hs : ∃ g1, g1 86 = znt1 (g 86) o ∧ (∀ id, id ≠ 86 → g1 id = g id) ∧ sh_Mo_night_L6 N (n + 1) s o g = sh_Mo_night_L6 N n (znb1 (g 86) o s) ((o + 1 : Nat) : Int) g1 by
      obtain ⟨g1, p1, p2, p3⟩ := hs
      obtain ⟨g2, q1, q2, q3⟩ := ih n (o + 1) g1 (znb1 (g 86) o s) (by rw [p1]; exact znt1_ok hk (by omega)) (by rw [p1, znt1_lo (by omega) (by omega)]; omega) (by omega)
      rw [p1] at q1 q2
      exact ⟨g2, p3.trans q1, q2, fun id hid => (q3 id hid).trans (p2 id hid)⟩
    have e1 : w32 ((o : Int) + 1) = ((o + 1 : Nat) : Int) := by rw [w32_s (by omega) (by omega)]; omega
    have t4 : 41 + 8 * o + 4 = 45 + 8 * o := by omega
    have t5 : 41 + 8 * o + 5 = 46 + 8 * o := by omega
    have t6 : 41 + 8 * o + 6 = 47 + 8 * o := by omega
    have tld : ∀ (w : Int) (g2 : zHp), 0 ≤ w → w < 8 → sh_Mo_told N o w g2 = some (g2 86 (41 + 8 * o + w.toNat)) := fun w g2 w0 w1 => by
      rw [told_s (by omega) (by omega) w0 w1, Int.toNat_natCast]
    have mk : ∀ (w v : Int) (g2 : zHp), 0 ≤ w → w < 8 → sh_Mo_make N o w v g2 = some (zst g2 86 (41 + 8 * o + w.toNat) v) := fun w v g2 w0 w1 => by
      rw [make_s (by omega) (by omega) w0 w1, Int.toNat_natCast]
    conv => enter [1, g1, 2, 2, 1]; unfold sh_Mo_night_L6
    rw [if_neg (by omega), e1]
    simp (disch := decide) only [tld, mk, zb1_some, Int.reduceToNat, t4, t6, Nat.add_zero]
    rw [t5]
    by_cases c1 : g 86 (47 + 8 * o) = g 86 (45 + 8 * o)
    · rw [if_pos c1]
      by_cases c2 : g 86 (41 + 8 * o) = g 86 (45 + 8 * o)
      · rw [if_pos c2.symm]
        refine ⟨g, ?_, fun _ _ => rfl, ?_⟩
        · unfold znt1; rw [if_pos c1, if_pos c2]
        · unfold znb1; rw [if_pos c1, if_pos c2]
      · rw [if_neg (fun e => c2 e.symm), w32_s (by omega) (by omega)]
        have u5 : zst g 86 (46 + 8 * o) (g 86 (46 + 8 * o) + 1) 86 (46 + 8 * o) = g 86 (46 + 8 * o) + 1 := by rw [zst_if, if_pos rfl, zup1_eq]
        have u4 : zst g 86 (46 + 8 * o) (g 86 (46 + 8 * o) + 1) 86 (45 + 8 * o) = g 86 (45 + 8 * o) := by rw [zst_if, if_pos rfl, zup1_ne _ _ (by omega)]
        rw [u5, u4]
        by_cases c3 : g 86 (46 + 8 * o) + 1 < 3
        · rw [if_neg (by omega)]
          refine ⟨zst g 86 (46 + 8 * o) (g 86 (46 + 8 * o) + 1), ?_, fun id hid => by rw [zst_if, if_neg hid], ?_⟩
          · unfold znt1; rw [if_pos c1, if_neg c2, if_pos c3, zst_if, if_pos rfl, t5]
          · unfold znb1; rw [if_pos c1, if_neg c2, if_pos c3]
        · rw [if_pos (by omega)]
          refine ⟨zst (zst (zst g 86 (46 + 8 * o) (g 86 (46 + 8 * o) + 1)) 86 (41 + 8 * o) (g 86 (45 + 8 * o))) 86 (46 + 8 * o) 0, ?_, fun id hid => by rw [zst_if, if_neg hid, zst_if, if_neg hid, zst_if, if_neg hid], ?_⟩
          · unfold znt1; rw [if_pos c1, if_neg c2, if_neg c3, zst_if, if_pos rfl, zst_if, if_pos rfl, zst_if, if_pos rfl, t5, Nat.add_zero]
            funext j
            unfold zup1
            by_cases j5 : j = 46 + 8 * o
            · rw [if_pos j5, if_neg (by omega), if_pos j5]
            · rw [if_neg j5, if_neg j5, if_neg j5]
          · unfold znb1; rw [if_pos c1, if_neg c2, if_neg c3]
    · rw [if_neg c1]
      refine ⟨g, ?_, fun _ _ => rfl, ?_⟩
      · unfold znt1; rw [if_neg c1]
      · unfold znb1; rw [if_neg c1]
theorem zc_night {h : zHp} (hI : zInv h) {N : Nat} (hN : 1300 ≤ N) : ∃ h2, zcas (sh_Ox_night N) (sh_Mo_night N) h = some (1, h2) ∧ zInv h2 := by
  have hI' := hI
  obtain ⟨⟨hy, hk⟩, -⟩ := hI'
  have k0 := hk.1.2.2.1
  obtain ⟨h1, p1, z1, f16, f1⟩ := zkeep_c hy hk
  have hkk := zkeep_ok hk
  obtain ⟨d, hd⟩ : ∃ d : Nat, h 86 2 = d := ⟨(h 86 2).toNat, by omega⟩
  have d2 : zkeep (h 86) 2 = d := by rw [zkeep_lo (by omega) (by omega)]; exact hd
  obtain ⟨h2, r1, r2, r3, r4⟩ := znt_c N d N 0 h1 (zkeep (h 86)) 0 z1 hkk (by omega) (by omega)
  have f86 : h2 86 = h 86 := by rw [r4 86 (by decide), f1 86 (by decide) (by decide)]
  obtain ⟨g1, q1, q2, q3⟩ := zkeep_r N (by omega) (h := h2) (by rw [f86]; exact hk.1.2.2.2.2.2.2.2)
  rw [f86] at q2
  obtain ⟨g2, s1, s2, s3⟩ := znt_r N d N 0 g1 0 (by rw [q2]; exact hkk) (by rw [q2]; omega) (by omega)
  rw [q2] at s1 s2
  refine ⟨g2, zcas_of (r := (znt d 0 (zkeep (h 86)) 0).1) (h1 := h2) ?_ ?_, ?_⟩
  · unfold sh_Ox_night
    rw [p1]
    exact congrArg (fun o => zb2 o fun y20 h21 => some (y20, h21)) r1
  · unfold sh_Mo_night
    rw [q1]
    exact congrArg (fun o => zb2 o fun y20 h21 => some (y20, h21)) s1
  · refine zmut hI (h1 := h2) (a := (znt d 0 (zkeep (h 86)) 0).2) (fun id _ r => by rw [r4 id (by omega), f1 id (by omega) (by omega)]) r2 (fun id _ r => by rw [s3 id r, q3 id r]) s2 r3 ?_
    rw [znt_lo d 0 _ _ (by omega) (by omega), zkeep_lo (by omega) (by omega)]
