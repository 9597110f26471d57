/-! PURE: pairs, and longest -/
def zin (i : Nat) : Nat → Nat → List Nat
  | 0, _ => []
  | n + 1, j => (10 * i + j) :: zin i n (j + 1)
def zou (d : Nat) : Nat → Nat → List Nat
  | 0, _ => []
  | n + 1, i => zin i (d - (i + 1)) (i + 1) ++ zou d n (i + 1)
def zrp (d : Nat) : Nat → Nat → List Nat
  | 0, _ => []
  | n + 1, p => if p / 10 < p % 10 ∧ p % 10 < d then p :: zrp d n (p + 1) else zrp d n (p + 1)
theorem zpr_eq : ∀ d, d < 9 → zou d d 0 = zrp d 80 0 := by decide +kernel
theorem zdm_s {p : Nat} (hp : p < 80) : w32 ((p : Int).tmod 10) = ((p % 10 : Nat) : Int) ∧ w32 ((p : Int).tdiv 10) = ((p / 10 : Nat) : Int) := by
  rw [Int.tmod_eq_emod_of_nonneg (by omega), Int.tdiv_eq_ediv_of_nonneg (by omega), w32_s (by omega) (by omega), w32_s (by omega) (by omega)]
  constructor <;> omega
theorem zisP {p u d : Nat} {g : zHp} (hp : p < 80) (hu : u < 256) (hd : g 86 2 = d) (hd8 : d ≤ 8) : (sh_Mo_isPair (p : Int) (u : Int) g = 0) = ¬ ((p / 10 < p % 10 ∧ p % 10 < d) ∧ u.testBit (p / 10) = false ∧ u.testBit (p % 10) = false) := by
  obtain ⟨e1, e2⟩ := zdm_s hp
  apply propext
  unfold sh_Mo_isPair
  rw [if_neg (by omega), e1, e2, hd]
  by_cases c1 : p / 10 < p % 10
  · rw [if_neg (by omega)]
    by_cases c2 : p % 10 < d
    · rw [if_neg (by omega)]
      simp only [zhasR (s := u) (o := p / 10) hu (by omega), zhasR (s := u) (o := p % 10) hu (by omega)]
      by_cases c3 : u.testBit (p / 10) = true
      · rw [if_neg (fun q => q c3)]
        exact ⟨fun _ q => by rw [c3] at q; exact absurd q.2.1 (by decide), fun _ => rfl⟩
      · rw [if_pos c3]
        by_cases c4 : u.testBit (p % 10) = true
        · rw [if_neg (fun q => q c4)]
          exact ⟨fun _ q => by rw [c4] at q; exact absurd q.2.2 (by decide), fun _ => rfl⟩
        · rw [if_pos c4]
          exact ⟨fun q => absurd q (by decide), fun q => absurd ⟨⟨c1, c2⟩, by simpa using c3, by simpa using c4⟩ q⟩
    · rw [if_pos (by omega)]
      exact ⟨fun _ q => c2 q.1.2, fun _ => rfl⟩
  · rw [if_pos (by omega)]
    exact ⟨fun _ q => c1 q.1.1, fun _ => rfl⟩
theorem zms_c {a : zFn} {T : Nat → Nat → List Int} {N : Nat} (hN : 1300 ≤ N) {l q D : Nat} (hD : a 2 = D) (hl : l < 4) (hq : q < 100) : ∀ (d n k : Nat) (h : zHp), zKc h a T → k + d = D → d < n → (∀ o, o < k → h 40 o = (zhT (zBq a T o l) q 0 : Int)) →
    ∃ h1, sh_Stays_measure_L2 N n (l : Int) (q : Int) (k : Int) h = some h1 ∧ (∀ o, o < D → h1 40 o = (zhT (zBq a T o l) q 0 : Int)) ∧ zFr [33, 35, 37, 40] h h1 := by
  intro d
  induction d with
  | zero =>
    intro n k h K ho hn hh
    obtain ⟨n, rfl⟩ : ∃ m, n = m + 1 := ⟨n - 1, by omega⟩
    refine ⟨h, ?_, fun o h => hh o (by omega), zFr.refl h⟩
    have e0 : h 16 2 = a 2 := K.1.1.1.2.2.1
    unfold sh_Stays_measure_L2
    rw [oxen_s, e0, if_pos (by omega)]
  | succ d ih =>
    intro n k h K ho hn hh
    obtain ⟨n, rfl⟩ : ∃ m, n = m + 1 := ⟨n - 1, by omega⟩
    have e0 : h 16 2 = a 2 := K.1.1.1.2.2.1
    have b2 := K.1.2.1.2.2.1
    have e1 : w32 ((k : Int) + 1) = ((k + 1 : Nat) : Int) := by rw [w32_s (by omega) (by omega)]; omega
    obtain ⟨h1, p1, p2⟩ := zhS_c hN (o := k) (l := l) (q := q) (by omega) hl hq K
    have f1 : zFr [33, 35, 37, 40] h (zst h1 40 k (zhT (zBq a T k l) q 0 : Int)) := (p2.mono (by simp)).st (by decide)
    obtain ⟨h2, r1, r2, r3⟩ := ih n (k + 1) (zst h1 40 k (zhT (zBq a T k l) q 0 : Int)) (zKc_fr K f1 (by decide)) (by omega) (by omega) (fun o ho => by
      rw [zst_if, if_pos rfl, zup1_if]
      split
      · rename_i e; rw [e]
      · rw [p2 40 (by decide)]; exact hh o (by omega))
    refine ⟨h2, ?_, r2, f1.trans r3⟩
    unfold sh_Stays_measure_L2
    rw [oxen_s, e0, if_neg (c := a 2 ≤ (k : Int)) (by omega), p1]
    simp only [zb2_some]
    rw [e1, rput_in (by omega) (by omega), Int.toNat_natCast]
    exact r1
theorem zmea_c {a : zFn} {T : Nat → Nat → List Int} {N : Nat} (hN : 1300 ≤ N) {l q D : Nat} (hD : a 2 = D) (hl : l < 4) (hq : q < 100) {h : zHp} (K : zKc h a T) :
    ∃ h1, sh_Stays_measure N (l : Int) (q : Int) h = some h1 ∧ (∀ o, o < D → h1 40 o = (zhT (zBq a T o l) q 0 : Int)) ∧ zFr [33, 35, 37, 40] h h1 := by
  have b2 := K.1.2.1.2.2.1
  obtain ⟨h1, p1, p2, p3⟩ := zms_c hN hD hl hq D N 0 h K (by omega) (by omega) (fun o ho => by omega)
  refine ⟨h1, ?_, p2, p3⟩
  unfold sh_Stays_measure
  exact congrArg (fun o => zb1 o fun h18 => some h18) p1
theorem zmd_c {a : zFn} {T : Nat → Nat → List Int} {l q D i j : Nat} {h : zHp} (hh : ∀ o, o < D → h 40 o = (zhT (zBq a T o l) q 0 : Int)) (hi : i < D) (hj : j < D) (hD : D ≤ 8) : sh_Stays_measured (i : Int) (j : Int) h = (zst2 a T i j l q : Int) := by
  unfold sh_Stays_measured
  rw [rget_in (by omega) (by omega), rget_in (by omega) (by omega), Int.toNat_natCast, Int.toNat_natCast, hh i hi, hh j hj]
  exact zmin_n
/-- the best so far -/
def zlF (V : Nat → Int) (s : Int × Int) (p : Nat) : Int × Int := if V p ≤ s.2 then s else ((p : Int), V p)
def zlV (a : zFn) (T : Nat → Nat → List Int) (l q : Nat) (p : Nat) : Int := (zst2 a T (p / 10) (p % 10) l q : Int)
theorem zlo_1 {a : zFn} {T : Nat → Nat → List Int} (N : Nat) {l q D i : Nat} {h : zHp} (h2 : h 16 2 = D) (hh : ∀ o, o < D → h 40 o = (zhT (zBq a T o l) q 0 : Int)) (hD : D ≤ 8) (hi : i < D) : ∀ (d n j : Nat) (s : Int × Int), j + d = D → d < n →
    sh_Stays_longestPair_L20 N h n s.1 s.2 (i : Int) (j : Int) = some (((zin i d j).foldl (zlF (zlV a T l q)) s).1, ((zin i d j).foldl (zlF (zlV a T l q)) s).2, (i : Int)) := by
  intro d
  induction d with
  | zero =>
    intro n j s hj hn
    obtain ⟨n, rfl⟩ : ∃ m, n = m + 1 := ⟨n - 1, by omega⟩
    unfold sh_Stays_longestPair_L20
    rw [oxen_s, h2, if_pos (by omega)]
    rfl
  | succ d ih =>
    intro n j s hj hn
    obtain ⟨n, rfl⟩ : ∃ m, n = m + 1 := ⟨n - 1, by omega⟩
    have e1 : w32 ((j : Int) + 1) = ((j + 1 : Nat) : Int) := by rw [w32_s (by omega) (by omega)]; omega
    have e2 : w32 (w32 ((i : Int) * 10) + (j : Int)) = ((10 * i + j : Nat) : Int) := by rw [w32_s (a := (i : Int) * 10) (by omega) (by omega), w32_s (by omega) (by omega)]; omega
    have e3 : zlV a T l q (10 * i + j) = (zst2 a T i j l q : Int) := by
      unfold zlV
      rw [show (10 * i + j) / 10 = i by omega, show (10 * i + j) % 10 = j by omega]
    unfold sh_Stays_longestPair_L20
    rw [oxen_s, h2, if_neg (c := (D : Int) ≤ (j : Int)) (by omega), zmd_c hh hi (by omega) hD, e1, e2]
    have := ih n (j + 1) (zlF (zlV a T l q) s (10 * i + j)) (by omega) (by omega)
    rw [show zin i (d + 1) j = (10 * i + j) :: zin i d (j + 1) from rfl, List.foldl_cons, ← this]
    unfold zlF
    rw [e3]
    split <;> rfl
theorem zlo_2 {a : zFn} {T : Nat → Nat → List Int} (N : Nat) (hN : 1300 ≤ N) {l q D : Nat} {h : zHp} (h2 : h 16 2 = D) (hh : ∀ o, o < D → h 40 o = (zhT (zBq a T o l) q 0 : Int)) (hD : D ≤ 8) : ∀ (d n i : Nat) (s : Int × Int), i + d = D → d < n →
    sh_Stays_longestPair_L10 N h n s.1 s.2 (i : Int) = some ((zou D d i).foldl (zlF (zlV a T l q)) s).1 := by
  intro d
  induction d with
  | zero =>
    intro n i s hj hn
    obtain ⟨n, rfl⟩ : ∃ m, n = m + 1 := ⟨n - 1, by omega⟩
    unfold sh_Stays_longestPair_L10
    rw [oxen_s, h2, if_pos (by omega)]
    rfl
  | succ d ih =>
    intro n i s hj hn
    obtain ⟨n, rfl⟩ : ∃ m, n = m + 1 := ⟨n - 1, by omega⟩
    have e1 : w32 ((i : Int) + 1) = ((i + 1 : Nat) : Int) := by rw [w32_s (by omega) (by omega)]; omega
    have p1 := zlo_1 (a := a) (T := T) N (i := i) h2 hh hD (by omega) (D - (i + 1)) N (i + 1) s (by omega) (by omega)
    unfold sh_Stays_longestPair_L10
    rw [oxen_s, h2, if_neg (c := (D : Int) ≤ (i : Int)) (by omega), e1, p1]
    simp only [zb3_some]
    rw [e1]
    have := ih n (i + 1) ((zin i (D - (i + 1)) (i + 1)).foldl (zlF (zlV a T l q)) s) (by omega) (by omega)
    rw [this, show zou D (d + 1) i = zin i (D - (i + 1)) (i + 1) ++ zou D d (i + 1) from rfl, List.foldl_append]
theorem zlo_r {a : zFn} {T : Nat → Nat → List Int} {N : Nat} (hN : 1300 ≤ N) {l q D : Nat} (hD : a 2 = D) (hD8 : D ≤ 8) (hl : l < 4) (hq : q < 100) : ∀ (d n p : Nat) (s : Int × Int) (g : zHp), zKr g T → g 86 = a → p + d = 80 → d < n →
    ∃ g1, sh_Mo_longest_L17 N n (l : Int) (q : Int) s.1 s.2 (p : Int) g = some (((zrp D d p).foldl (zlF (zlV a T l q)) s).1, g1) ∧ zFr [91, 92, 93] g g1 := by
  intro d
  induction d with
  | zero =>
    intro n p s g K ea hp hn
    obtain ⟨n, rfl⟩ : ∃ m, n = m + 1 := ⟨n - 1, by omega⟩
    refine ⟨g, ?_, zFr.refl g⟩
    unfold sh_Mo_longest_L17
    rw [if_pos (by omega)]
    rfl
  | succ d ih =>
    intro n p s g K ea hp hn
    obtain ⟨n, rfl⟩ : ∃ m, n = m + 1 := ⟨n - 1, by omega⟩
    have e1 : w32 ((p : Int) + 1) = ((p + 1 : Nat) : Int) := by rw [w32_s (by omega) (by omega)]; omega
    obtain ⟨d1, d2⟩ := zdm_s (p := p) (by omega)
    unfold sh_Mo_longest_L17
    rw [if_neg (c := 80 ≤ (p : Int)) (by omega), d1, d2, e1]
    have hz := zisP (p := p) (u := 0) (d := D) (g := g) (by omega) (by decide) (by rw [ea]; exact hD) hD8
    have hz' : (sh_Mo_isPair (p : Int) 0 g = 0) = ¬ (p / 10 < p % 10 ∧ p % 10 < D) := by
      refine hz.trans ?_
      rw [Nat.zero_testBit, Nat.zero_testBit]
      simp
    simp only [hz']
    rw [show zrp D (d + 1) p = if p / 10 < p % 10 ∧ p % 10 < D then p :: zrp D d (p + 1) else zrp D d (p + 1) from rfl]
    by_cases c : p / 10 < p % 10 ∧ p % 10 < D
    · rw [if_neg (fun q => q c), if_pos c]
      obtain ⟨g1, p1, p2⟩ := zhS_r hN (o := p / 10) (m := p % 10) (l := l) (q := q) (a := a) (by omega) (by omega) hl hq K ea
      rw [p1]
      simp only [zb2_some]
      obtain ⟨g2, r1, r2⟩ := ih n (p + 1) (zlF (zlV a T l q) s p) g1 (zKr_eq K (p2 86 (by decide)) (p2 88 (by decide))) (by rw [p2 86 (by decide)]; exact ea) (by omega) (by omega)
      refine ⟨g2, ?_, p2.trans r2⟩
      rw [List.foldl_cons, ← r1]
      unfold zlF zlV
      by_cases c2 : (zst2 a T (p / 10) (p % 10) l q : Int) ≤ s.2
      · rw [if_pos c2, if_neg (by omega), if_neg (by omega)]
      · rw [if_neg c2, if_pos (by omega), if_pos (by omega)]
    · rw [if_pos c, if_neg c]
      exact ih n (p + 1) s g K ea (by omega) (by omega)
theorem zc_longest {h : zHp} (x y : Int) (hI : zInv h) {N : Nat} (hN : 1300 ≤ N) : ∃ h2, zcas (sh_Ox_longest N x y) (sh_Mo_longest N x y) h = some (1, h2) ∧ zInv h2 := by
  have hI' := hI
  obtain ⟨⟨hy, hk⟩, -⟩ := hI'
  have e1 : h 16 1 = h 86 1 := hy.1.2.1
  have k0 := hk.1
  by_cases c : (0 ≤ x ∧ x < h 86 1) ∧ (1 ≤ y ∧ y ≤ 24)
  · obtain ⟨T, K, R⟩ := zK_of hI
    obtain ⟨l, rfl⟩ : ∃ n : Nat, x = n := ⟨x.toNat, by omega⟩
    obtain ⟨q, rfl⟩ : ∃ q : Nat, y = q := ⟨y.toNat, by omega⟩
    obtain ⟨D, hD⟩ : ∃ D : Nat, h 86 2 = D := ⟨(h 86 2).toNat, by omega⟩
    obtain ⟨h1, p1, p2, p3⟩ := zmea_c hN (l := l) (q := q) hD (by omega) (by omega) K
    have f86 := p3 86 (by decide)
    have r1 := zlo_2 (a := h 86) (T := T) N hN (l := l) (q := q) (D := D) (h := h1) (by rw [p3 16 (by decide), ← hD]; exact hy.1.2.2.1) p2 (by omega) D N 0 (-1, -1) (by omega) (by omega)
    obtain ⟨g1, s1, s2⟩ := zlo_r (T := T) hN (l := l) (q := q) hD (by omega) (by omega) (by omega) 80 N 0 (-1, -1) h1 (zKr_eq R f86 (p3 88 (by decide))) f86 (by omega) (by omega)
    rw [← zpr_eq D (by omega)] at s1
    refine ⟨g1, zcas_of (r := ((zou D D 0).foldl (zlF (zlV (h 86) T l q)) (-1, -1)).1) (h1 := h1) ?_ ?_, zqry hI ((zQ_fr p3 (by decide)).trans (zQ_fr s2 (by decide)))⟩
    · unfold sh_Ox_longest
      simp only [isField_z (h := h) (x := (l : Int)) (by omega), within_z, e1]
      rw [if_neg (by omega), if_neg (by omega)]
      unfold sh_Stays_longestPair
      rw [p1]
      simp only [zb1_some]
      exact congrArg (fun o => zb2 (zb1 o fun y32 => some (y32, h1)) fun r23 h24 => some (r23, h24)) r1
    · unfold sh_Mo_longest
      simp only [isFieldR_z (h := h1) (x := (l : Int)) (by rw [f86]; omega), isIn_z, f86]
      rw [if_neg (by omega), if_neg (by omega)]
      exact congrArg (fun o => zb2 o fun y28 h29 => some (y28, h29)) s1
  · refine ⟨h, zcas_of (r := -1) (h1 := h) ?_ ?_, hI⟩
    · unfold sh_Ox_longest
      simp only [isField_z (h := h) (x := x) (by omega), within_z, e1]
      by_cases c2 : 0 ≤ x ∧ x < h 86 1
      · rw [if_neg (by omega), if_pos (by omega)]
      · rw [if_pos (by omega)]
    · unfold sh_Mo_longest
      simp only [isFieldR_z (h := h) (x := x) (by omega), isIn_z]
      by_cases c2 : 0 ≤ x ∧ x < h 86 1
      · rw [if_neg (by omega), if_pos (by omega)]
      · rw [if_pos (by omega)]
