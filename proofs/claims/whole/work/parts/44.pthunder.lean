/-! PURE: thunder -/
def zct (H : Nat → Bool) : Nat → Nat
  | 0 => 0
  | k + 1 => if H k = true then zct H k + 1 else zct H k
theorem zct_ext {H H' : Nat → Bool} : ∀ {k : Nat}, (∀ o, o < k → H o = H' o) → zct H k = zct H' k := by
  intro k
  induction k with
  | zero => intro _; rfl
  | succ k ih =>
    intro h
    unfold zct
    rw [ih (fun o ho => h o (by omega)), h k (by omega)]
theorem zct_hi {H : Nat → Bool} {d : Nat} (h : ∀ o, d ≤ o → H o = false) : ∀ e, zct H (d + e) = zct H d := by
  intro e
  induction e with
  | zero => rfl
  | succ e ih =>
    show (if H (d + e) = true then _ else _) = _
    rw [h (d + e) (by omega), if_neg (by decide)]
    exact ih
theorem zct_le (H : Nat → Bool) : ∀ k, zct H k ≤ k := by
  intro k
  induction k with
  | zero => exact Nat.le_refl 0
  | succ k ih => unfold zct; split <;> omega
theorem zbc_8 : ∀ s : Nat, s < 256 → sh_Integer_bitCount_0f7a4 (s : Int) = (zct (fun o => s.testBit o) 8 : Int) := by decide +kernel
theorem zbc_bs (H : Nat → Bool) {d : Nat} (hd : d ≤ 8) : sh_Integer_bitCount_0f7a4 (zbs H d : Int) = (zct H d : Int) := by
  rw [zbc_8 _ (zbs_256 H hd)]
  have e := zct_hi (H := fun o => (zbs H d).testBit o) (d := d) (fun o ho => by show (zbs H d).testBit o = false; rw [zbs_t]; simp; omega) (8 - d)
  rw [show d + (8 - d) = 8 by omega] at e
  rw [e]
  congr 1
  exact zct_ext (fun o ho => by show (zbs H d).testBit o = H o; rw [zbs_t]; simp [ho])
/-- the oxen while it thunders: where they are, their mates -/
def zTq (a : zFn) (P M : zFn) : Prop := ∀ o : Nat, (o : Int) < a 2 → (0 ≤ P o ∧ P o < 10 + a 1) ∧ (-1 ≤ M o ∧ M o < a 2)
def zTc (h : zHp) (a P M : zFn) : Prop := h 66 2 = a 2 ∧ h 66 0 = a 3 ∧ ∀ o : Nat, (o : Int) < a 2 → h 66 (14 + 8 * o) = M o ∧ (h 66 (13 + 8 * o) = P o ∨ (-1 ≤ h 66 (13 + 8 * o) ∧ h 66 (13 + 8 * o) < 10 ∧ P o < 10)) ∧ h 66 (7 + 8 * o) = a (41 + 8 * o) ∧ h 66 (8 + 8 * o) = a (42 + 8 * o)
def zTk (M : zFn) (o : Nat) : Int := if M o = -1 then 0 else 1
def zTh (a : zFn) (T : Nat → Nat → List Int) (p : Int) (P M : zFn) (o : Nat) : Bool := decide (10 ≤ P o ∧ zHv a T o (-1) p (P o - 10).toNat (zTk M o) (a 3) = 1)
def zTm (M : zFn) (o : Nat) : zFn := zup1 (if M o < 0 then M else zup1 M (M o).toNat (-1)) o (-1)
def zTs (H : Nat → Bool) : Nat → Nat → zFn → zFn → zFn × zFn
  | 0, _, P, M => (P, M)
  | d + 1, o, P, M => if H o = true then zTs H d (o + 1) (zup1 P o 0) (zTm M o) else zTs H d (o + 1) P M
def zTt (a : zFn) (T : Nat → Nat → List Int) (d : Nat) : Nat → Int → zFn → zFn → Int → Int
  | 0, _, _, _, s => s
  | n + 1, x, P, M, s => zTt a T d n ((x * 163 + 47).tmod 30059) (zTs (zTh a T (x.tmod 10) P M) d 0 P M).1 (zTs (zTh a T (x.tmod 10) P M) d 0 P M).2 (w32 (s + (zct (zTh a T (x.tmod 10) P M) d : Int)))
theorem zTk_B (M : zFn) (o : Nat) : zB6 (zTk M o) := by
  unfold zTk
  split <;> exact ⟨by decide, by decide⟩
theorem zTm_b {a M : zFn} {o : Nat} (hM : ∀ q : Nat, (q : Int) < a 2 → -1 ≤ M q ∧ M q < a 2) (h2 : 0 ≤ a 2) (q : Nat) (hq : (q : Int) < a 2) : -1 ≤ zTm M o q ∧ zTm M o q < a 2 := by
  have := hM q hq
  unfold zTm
  rw [zup1_if]
  split
  · omega
  · split
    · exact this
    · rw [zup1_if]
      split
      · omega
      · exact this
theorem zTq_1 {a P M : zFn} {o : Nat} (h : zTq a P M) (h2 : 0 ≤ a 2) (h1 : 0 ≤ a 1) : zTq a (zup1 P o 0) (zTm M o) := by
  intro q hq
  refine ⟨?_, zTm_b (fun q hq => (h q hq).2) h2 q hq⟩
  rw [zup1_if]
  split
  · omega
  · exact (h q hq).1
theorem zTq_s {a : zFn} {H : Nat → Bool} (h2 : 0 ≤ a 2) (h1 : 0 ≤ a 1) : ∀ (d o : Nat) (P M : zFn), zTq a P M → zTq a (zTs H d o P M).1 (zTs H d o P M).2 := by
  intro d
  induction d with
  | zero => intro o P M h; exact h
  | succ d ih =>
    intro o P M h
    unfold zTs
    split
    · exact ih _ _ _ (zTq_1 h h2 h1)
    · exact ih _ _ _ h
theorem get6_s {x w : Int} {h : zHp} (h0 : 0 ≤ x) (h1 : x < 8) (h2 : 0 ≤ w) (h3 : w < 8) : sh_Herd_get_64 x w h = h 66 (7 + 8 * x.toNat + w.toNat) := by
  unfold sh_Herd_get_64
  simp (disch := omega) only [zst_if, zup1_ne, zup1_eq, w32_s, rget_in, rput_in, zgrd, Nat.reduceEqDiff, Nat.reduceAdd, ↓reduceIte, Int.reduceToNat, zb1_some, zb2_some, zb3_some, zb4_some, zb5_some, Int.toNat_natCast, true_and, and_true]
  congr 1; omega
theorem put6_s {x w v : Int} {h : zHp} (h0 : 0 ≤ x) (h1 : x < 8) (h2 : 0 ≤ w) (h3 : w < 8) : sh_Herd_put_64 x w v h = zst h 66 (7 + 8 * x.toNat + w.toNat) v := by
  unfold sh_Herd_put_64
  simp (disch := omega) only [zst_if, zup1_ne, zup1_eq, w32_s, rget_in, rput_in, zgrd, Nat.reduceEqDiff, Nat.reduceAdd, ↓reduceIte, Int.reduceToNat, zb1_some, zb2_some, zb3_some, zb4_some, zb5_some, Int.toNat_natCast, true_and, and_true]
  congr 1; omega
theorem zTc_1 {a : zFn} {T : Nat → Nat → List Int} {N : Nat} (hN : 1300 ≤ N) {p : Int} (hp : zB6 p) {P M : zFn} (hq : zTq a P M) : ∀ (d n k t : Nat) (h : zHp), zKc h a T → zTc h a P M → (k : Int) + d = a 2 → d < n → t < 256 → ∃ t1 h1, t1 < 256 ∧ sh_Ox_blow_64_L6 N n (-1) p (zbs (zTh a T p P M) k : Int) (t : Int) k h = some ((zbs (zTh a T p P M) (k + d) : Int), ((t1 : Nat) : Int), h1) ∧ zFr [33, 35, 37] h h1 := by
  intro d
  induction d with
  | zero =>
    intro n k t h K C ho hn ht
    obtain ⟨n, rfl⟩ : ∃ m, n = m + 1 := ⟨n - 1, by omega⟩
    refine ⟨t, h, ht, ?_, zFr.refl h⟩
    unfold sh_Ox_blow_64_L6
    rw [show sh_Herd_oxen_64 h = h 66 2 from rfl, C.1, if_pos (by omega)]
    rfl
  | succ d ih =>
    intro n k t h K C ho hn ht
    obtain ⟨n, rfl⟩ : ∃ m, n = m + 1 := ⟨n - 1, by omega⟩
    have hk := K.1.2
    have b2 := hk.1.2.2.1
    have b3 := hk.1.2.2.2.1
    have b1 := hk.1.2.1
    obtain ⟨q1, q2⟩ := hq k (by omega)
    obtain ⟨c1, c2, c3⟩ := C
    obtain ⟨c4, c5, -⟩ := c3 k (by omega)
    have g6 : h 66 (7 + 8 * k + 6) = h 66 (13 + 8 * k) := by congr 1; omega
    have g7 : h 66 (7 + 8 * k + 7) = M k := by rw [show 7 + 8 * k + 7 = 14 + 8 * k by omega]; exact c4
    suffices hs : ∃ t1 h1, t1 < 256 ∧ zFr [33, 35, 37] h h1 ∧ sh_Ox_blow_64_L6 N (n + 1) (-1) p (zbs (zTh a T p P M) k : Int) (t : Int) k h = sh_Ox_blow_64_L6 N n (-1) p (zbs (zTh a T p P M) (k + 1) : Int) ((t1 : Nat) : Int) ((k + 1 : Nat) : Int) h1 by
      obtain ⟨t1, h1, p1, p2, p3⟩ := hs
      have C1 : zTc h1 a P M := by
        unfold zTc
        rw [p2 66 (by decide)]
        exact ⟨c1, c2, c3⟩
      obtain ⟨t2, h2, r0, r1, r2⟩ := ih n (k + 1) t1 h1 (zKc_fr K p2 (by decide)) C1 (by omega) (by omega) p1
      refine ⟨t2, h2, r0, ?_, p2.trans r2⟩
      rw [show k + (d + 1) = k + 1 + d by omega]
      exact p3.trans r1
    have e1 : w32 ((k : Int) + 1) = ((k + 1 : Nat) : Int) := by rw [w32_s (by omega) (by omega)]; omega
    conv => enter [1, t1, 1, h1, 2, 2, 1]; unfold sh_Ox_blow_64_L6
    rw [show sh_Herd_oxen_64 h = h 66 2 from rfl, c1, if_neg (c := a 2 ≤ (k : Int)) (by omega), e1]
    simp only [get6_s (x := (k : Int)) (h := h) (by omega) (by omega) (w := 6) (by decide) (by decide), get6_s (x := (k : Int)) (h := h) (by omega) (by omega) (w := 7) (by decide) (by decide), Int.toNat_natCast, Int.reduceToNat, g6, g7, show sh_Herd_hour_64 h = h 66 0 from rfl, c2]
    rw [w32_s (by omega) (by omega)]
    by_cases c : P k < 10
    · rw [if_pos (c := h 66 (13 + 8 * k) - 10 < 0) (by omega)]
      have z1 : zTh a T p P M k = false := decide_eq_false (fun q => by omega)
      refine ⟨t, h, ht, zFr.refl h, ?_⟩
      rw [zbs_n z1]
    · have ep : h 66 (13 + 8 * k) = P k := by omega
      rw [ep, if_neg (c := P k - 10 < 0) (by omega)]
      obtain ⟨l, hl⟩ : ∃ l : Nat, P k = 10 + (l : Int) := ⟨(P k - 10).toNat, by omega⟩
      have el2 : (P k - 10).toNat = l := by omega
      have el : P k - 10 = (l : Int) := by omega
      obtain ⟨h1, p1, p2, p3, p4, p5⟩ := zhd_c hN K (o := k) (l := l) (f := -1) (p := p) (y := if M k = -1 then 0 else 1) (hr := a 3) (by omega) (by omega) (by omega) hp (by unfold zB6; omega)
      have ey : (if (if M k = -1 then 0 else 1 : Int) = 0 then (0 : Int) else 1) = zTk M k := by
        unfold zTk
        split <;> rfl
      rw [ey] at p1 p4 p5
      rw [el, p1]
      simp only [zb2_some]
      by_cases c6 : zHv a T k (-1) p l (zTk M k) (a 3) = 0
      · rw [if_pos c6]
        have z1 : zTh a T p P M k = false := decide_eq_false (fun q => by rw [el2, c6] at q; exact absurd q.2 (by decide))
        refine ⟨t, h1, ht, p2, ?_⟩
        rw [zbs_n z1]
      · rw [if_neg c6]
        have z1 : zTh a T p P M k = true := decide_eq_true ⟨by omega, by rw [el2]; exact p5.resolve_left c6⟩
        obtain ⟨h2, r1, r2, r3⟩ := zsec_c hN (zKc_fr K p2 (by decide)) (o := k) (l := l) (f := -1) (p := p) (y := zTk M k) (hr := a 3) (by omega) (by omega) (by omega) hp (zTk_B M k) (by unfold zB6; omega) p3 p4
        rw [r1]
        simp only [zb2_some]
        rw [zbs_y (by omega) z1]
        have h2k : 2 ^ k ≤ 2 ^ 7 := Nat.pow_le_pow_right (by decide) (by omega)
        generalize (if a (42 + 8 * k) = -1 then (0 : Int) else zSd a T k (-1) p l (zTk M k) (a 3)) = v
        by_cases cv : v = 0
        · refine ⟨t, h2, ht, p2.trans (r2.mono (by simp)), ?_⟩
          have := zor_8 t ht 0 (by decide)
          rw [Nat.or_zero] at this
          rw [if_pos cv]
          exact congrArg (fun u => sh_Ox_blow_64_L6 N n (-1) p (zbs (zTh a T p P M) (k + 1) : Int) u ((k + 1 : Nat) : Int) h2) this
        · refine ⟨t ||| 2 ^ k, h2, ?_, p2.trans (r2.mono (by simp)), ?_⟩
          · exact Nat.or_lt_two_pow (n := 8) ht (by omega)
          · rw [if_neg cv, zbit_8 k (by omega), zor_8 t ht _ (by omega)]
theorem zTc_2 {a : zFn} (hk : zOk a) {H : Nat → Bool} {s t D : Nat} (N : Nat) (hs : s < 256) (ht : t < 256) (eS : ∀ o, o < D → s.testBit o = H o) : ∀ (d n o : Nat) (h : zHp) (P M : zFn), zTc h a P M → zTq a P M → (o : Int) + d = a 2 → o + d = D → d < n →
    ∃ h1, sh_Ox_blow_64_L63 N n (s : Int) (t : Int) o h = some ((s : Int), h1) ∧ zTc h1 a (zTs H d o P M).1 (zTs H d o P M).2 ∧ zFr [66] h h1 := by
  intro d
  induction d with
  | zero =>
    intro n o h P M C hq ho hD hn
    obtain ⟨n, rfl⟩ : ∃ m, n = m + 1 := ⟨n - 1, by omega⟩
    refine ⟨h, ?_, C, zFr.refl h⟩
    unfold sh_Ox_blow_64_L63
    rw [show sh_Herd_oxen_64 h = h 66 2 from rfl, C.1, if_pos (by omega)]
  | succ d ih =>
    intro n o h P M C hq ho hD hn
    obtain ⟨n, rfl⟩ : ∃ m, n = m + 1 := ⟨n - 1, by omega⟩
    have b2 := hk.1.2.2.1
    have b1 := hk.1.2.1
    have b0 := hk.1.1
    obtain ⟨q1, q2⟩ := hq o (by omega)
    obtain ⟨c1, c2, c3⟩ := C
    obtain ⟨c4, c5, c6, c7⟩ := c3 o (by omega)
    have e1 : w32 ((o : Int) + 1) = ((o + 1 : Nat) : Int) := by rw [w32_s (by omega) (by omega)]; omega
    unfold sh_Ox_blow_64_L63
    rw [show sh_Herd_oxen_64 h = h 66 2 from rfl, c1, if_neg (c := a 2 ≤ (o : Int)) (by omega), e1, zis_8 hs (by omega), eS o (by omega)]
    unfold zTs
    by_cases c : H o = true
    · rw [if_pos c, if_neg (by decide), if_pos c]
      -- what is put
      obtain ⟨v, hv⟩ : ∃ v, sh_Herd_get_64 (o : Int) (if sh_Ox_isIn (t : Int) (o : Int) = 0 then 0 else 1 : Int) (sh_Herd_unyoke_64 (o : Int) h) = v := ⟨_, rfl⟩
      have hu : ∃ h1, sh_Herd_unyoke_64 (o : Int) h = h1 ∧ zFr [66] h h1 ∧ (∀ j, (∀ q, j ≠ 14 + 8 * q) → h1 66 j = h 66 j) ∧ (∀ q : Nat, (q : Int) < a 2 → h1 66 (14 + 8 * q) = zTm M o q) := by
        refine ⟨_, rfl, ?_⟩
        unfold sh_Herd_unyoke_64
        rw [get6_s (by omega) (by omega) (by decide) (by decide), Int.toNat_natCast, show 7 + 8 * o + (7 : Int).toNat = 14 + 8 * o by show 7 + 8 * o + 7 = _; omega, c4]
        unfold zTm
        by_cases cm : M o = -1
        · rw [if_pos cm, if_pos (by omega)]
          refine ⟨zFr.refl h, fun _ _ => rfl, fun q hq' => ?_⟩
          rw [(c3 q hq').1, zup1_if]
          split
          · rename_i e; rw [e, cm]
          · rfl
        · rw [if_neg cm, if_neg (by omega), put6_s (by omega) (by omega) (by decide) (by decide), put6_s (by omega) (by omega) (by decide) (by decide)]
          refine ⟨((zFr.refl h).st (by decide)).st (by decide), fun j hj => ?_, fun q hq' => ?_⟩
          · rw [zst_if, if_pos rfl, zup1_ne _ _ (fun e => hj o (by rw [e, Int.toNat_natCast]; show 7 + 8 * o + 7 = _; omega)), zst_if, if_pos rfl, zup1_ne _ _ (fun e => hj (M o).toNat (by rw [e]; show 7 + 8 * (M o).toNat + 7 = _; omega))]
          · rw [zst_if, if_pos rfl, zst_if, if_pos rfl, Int.toNat_natCast, show (7 : Int).toNat = 7 from rfl]
            simp only [zup1_if]
            by_cases e0 : q = o
            · rw [if_pos (by omega), if_pos e0]
            · rw [if_neg (by omega), if_neg e0]
              by_cases e2 : q = (M o).toNat
              · rw [if_pos (by omega), if_pos e2]
              · rw [if_neg (by omega), if_neg e2]; exact (c3 q hq').1
      obtain ⟨h1, u1, u2, u3, u4⟩ := hu
      rw [u1] at hv ⊢
      have hvb : -1 ≤ v ∧ v < 10 := by
        have hx := hk.2.2.2.1 o (by omega)
        have hx1 := hx.1
        unfold zOx at hx1
        rw [← hv, zis_8 ht (by omega)]
        by_cases ct : t.testBit o = true
        · rw [if_pos ct, if_neg (by decide), get6_s (by omega) (by omega) (by decide) (by decide), Int.toNat_natCast, show 7 + 8 * o + (1 : Int).toNat = 8 + 8 * o by show 7 + 8 * o + 1 = _; omega, u3 _ (by omega), c7]
          omega
        · rw [if_neg ct, if_pos rfl, get6_s (by omega) (by omega) (by decide) (by decide), Int.toNat_natCast, show 7 + 8 * o + (0 : Int).toNat = 7 + 8 * o from rfl, u3 _ (by omega), c6]
          omega
      rw [hv, put6_s (by omega) (by omega) (by decide) (by decide), Int.toNat_natCast, show 7 + 8 * o + (6 : Int).toNat = 13 + 8 * o by show 7 + 8 * o + 6 = _; omega]
      have C1 : zTc (zst h1 66 (13 + 8 * o) v) a (zup1 P o 0) (zTm M o) := by
        unfold zTc
        rw [zst_if, if_pos rfl]
        refine ⟨?_, ?_, fun q hq' => ?_⟩
        · rw [zup1_ne _ _ (by omega), u3 _ (by omega)]; exact c1
        · rw [zup1_ne _ _ (by omega), u3 _ (by omega)]; exact c2
        · obtain ⟨d4, d5, d6, d7⟩ := c3 q hq'
          refine ⟨?_, ?_, ?_, ?_⟩
          · rw [zup1_ne _ _ (by omega)]; exact u4 q hq'
          · by_cases e0 : q = o
            · subst e0
              rw [zup1_eq, zup1_eq]
              exact Or.inr ⟨hvb.1, hvb.2, by decide⟩
            · rw [zup1_ne _ _ (by omega), zup1_ne _ _ e0, u3 _ (by omega)]; exact d5
          · rw [zup1_ne _ _ (by omega), u3 _ (by omega)]; exact d6
          · rw [zup1_ne _ _ (by omega), u3 _ (by omega)]; exact d7
      obtain ⟨h2, r1, r2, r3⟩ := ih n (o + 1) _ _ _ C1 (zTq_1 hq b2.1 b1.1) (by omega) (by omega) (by omega)
      exact ⟨h2, r1, r2, (u2.st (by decide)).trans r3⟩
    · rw [if_neg c, if_pos rfl, if_neg c]
      exact ih n (o + 1) h P M ⟨c1, c2, c3⟩ hq (by omega) (by omega) (by omega)
/-- the reference's oxen -/
def zTr (g : zHp) (a P M : zFn) : Prop := ∀ o : Nat, (o : Int) < a 2 → g 100 o = P o ∧ g 101 o = M o
theorem zTr_1 {T : Nat → Nat → List Int} {N : Nat} (hN : 1300 ≤ N) {p : Int} (hp : zB6 p) {a P M : zFn} (hq : zTq a P M) : ∀ (d n k : Nat) (g : zHp), zKr g T → g 86 = a → zTr g a P M → (k : Int) + d = a 2 → d < n → ∃ g1, sh_Mo_strike_L4 N n p (zbs (zTh a T p P M) k : Int) k g = some ((zbs (zTh a T p P M) (k + d) : Int), g1) ∧ zFr [91, 92, 93] g g1 := by
  intro d
  induction d with
  | zero =>
    intro n k g K ea C ho hn
    obtain ⟨n, rfl⟩ : ∃ m, n = m + 1 := ⟨n - 1, by omega⟩
    refine ⟨g, ?_, zFr.refl g⟩
    unfold sh_Mo_strike_L4
    rw [ea, if_pos (by omega)]
    rfl
  | succ d ih =>
    intro n k g K ea C ho hn
    obtain ⟨n, rfl⟩ : ∃ m, n = m + 1 := ⟨n - 1, by omega⟩
    have hk := K.1
    rw [ea] at hk
    have b2 := hk.1.2.2.1
    have b3 := hk.1.2.2.2.1
    have b1 := hk.1.2.1
    obtain ⟨q1, q2⟩ := hq k (by omega)
    obtain ⟨c1, c2⟩ := C k (by omega)
    suffices hs : ∃ g1, zFr [91, 92, 93] g g1 ∧ sh_Mo_strike_L4 N (n + 1) p (zbs (zTh a T p P M) k : Int) k g = sh_Mo_strike_L4 N n p (zbs (zTh a T p P M) (k + 1) : Int) ((k + 1 : Nat) : Int) g1 by
      obtain ⟨g1, p2, p3⟩ := hs
      have C1 : zTr g1 a P M := fun o ho => by rw [p2 100 (by decide), p2 101 (by decide)]; exact C o ho
      obtain ⟨g2, r1, r2⟩ := ih n (k + 1) g1 (zKr_eq K (p2 86 (by decide)) (p2 88 (by decide))) (by rw [p2 86 (by decide)]; exact ea) C1 (by omega) (by omega)
      refine ⟨g2, ?_, p2.trans r2⟩
      rw [show k + (d + 1) = k + 1 + d by omega]
      exact p3.trans r1
    have e1 : w32 ((k : Int) + 1) = ((k + 1 : Nat) : Int) := by rw [w32_s (by omega) (by omega)]; omega
    conv => enter [1, g1, 2, 1]; unfold sh_Mo_strike_L4
    rw [ea, if_neg (c := a 2 ≤ (k : Int)) (by omega), zgrd (by omega) (by omega), e1, Int.toNat_natCast, c1, c2]
    by_cases c : P k < 10
    · rw [if_neg (c := 10 ≤ P k) (by omega)]
      have z1 : zTh a T p P M k = false := decide_eq_false (fun q => by omega)
      exact ⟨g, zFr.refl g, by rw [zbs_n z1]⟩
    · rw [if_pos (c := 10 ≤ P k) (by omega), zgrd (by omega) (by omega), zgrd (by omega) (by omega), w32_s (by omega) (by omega)]
      obtain ⟨l, hl⟩ : ∃ l : Nat, P k = 10 + (l : Int) := ⟨(P k - 10).toNat, by omega⟩
      have el2 : (P k - 10).toNat = l := by omega
      have el : P k - 10 = (l : Int) := by omega
      have ey : (if M k < 0 then (0 : Int) else 1) = zTk M k := by
        unfold zTk
        by_cases cm : M k = -1
        · rw [if_pos (by omega), if_pos cm]
        · rw [if_neg (by omega), if_neg cm]
      obtain ⟨g1, g2, p1, p2, p3, -, p5⟩ := zhd_r hN K (o := k) (l := l) (f := -1) (p := p) (y := zTk M k) (hr := a 3) (by rw [ea]; omega) (by omega) (by omega) hp (zTk_B M k) (by unfold zB6; omega)
      rw [ea] at p2 p5
      rw [el, ey, p1]
      simp only [zb1_some]
      rw [p2]
      simp only [zb2_some]
      refine ⟨g2, p3, ?_⟩
      by_cases c6 : zHv a T k (-1) p l (zTk M k) (a 3) = 0
      · have z1 : zTh a T p P M k = false := decide_eq_false (fun q => by rw [el2, c6] at q; exact absurd q.2 (by decide))
        rw [if_pos c6, zbs_0 (by omega) z1]
      · have z1 : zTh a T p P M k = true := decide_eq_true ⟨by omega, by rw [el2]; exact p5.resolve_left c6⟩
        rw [if_neg c6, zbs_y (by omega) z1]
theorem zhasR {s o : Nat} (hs : s < 256) (ho : o < 8) : (sh_Mo_has (s : Int) (o : Int) = 0) = ¬ s.testBit o = true := by
  unfold sh_Mo_has
  rw [zhas_8 s hs o ho]
  cases s.testBit o <;> simp
theorem zTr_2 {a : zFn} (hk : zOk a) {H : Nat → Bool} {s D : Nat} (N : Nat) (hs : s < 256) (eS : ∀ o, o < D → s.testBit o = H o) : ∀ (d n o : Nat) (g : zHp) (P M : zFn), g 86 = a → zTr g a P M → zTq a P M → (o : Int) + d = a 2 → o + d = D → d < n →
    ∃ g1, sh_Mo_strike_L57 N n (s : Int) (zct H o : Int) o g = some ((zct H (o + d) : Int), g1) ∧ zTr g1 a (zTs H d o P M).1 (zTs H d o P M).2 ∧ zFr [100, 101] g g1 := by
  intro d
  induction d with
  | zero =>
    intro n o g P M ea C hq ho hD hn
    obtain ⟨n, rfl⟩ : ∃ m, n = m + 1 := ⟨n - 1, by omega⟩
    refine ⟨g, ?_, C, zFr.refl g⟩
    unfold sh_Mo_strike_L57
    rw [ea, if_pos (by omega)]
    rfl
  | succ d ih =>
    intro n o g P M ea C hq ho hD hn
    obtain ⟨n, rfl⟩ : ∃ m, n = m + 1 := ⟨n - 1, by omega⟩
    have b2 := hk.1.2.2.1
    have b1 := hk.1.2.1
    obtain ⟨q1, q2⟩ := hq o (by omega)
    obtain ⟨c1, c2⟩ := C o (by omega)
    have e1 : w32 ((o : Int) + 1) = ((o + 1 : Nat) : Int) := by rw [w32_s (by omega) (by omega)]; omega
    have hz := zct_le H o
    unfold sh_Mo_strike_L57
    rw [ea, if_neg (c := a 2 ≤ (o : Int)) (by omega), e1]
    simp only [zhasR (s := s) (o := o) hs (by omega), eS o (by omega)]
    unfold zTs
    rw [show o + (d + 1) = o + 1 + d by omega]
    by_cases c : H o = true
    · rw [if_neg (c := ¬ H o = true) (fun q => q c), if_pos c, zgrd (by omega) (by omega), Int.toNat_natCast, c2]
      have ez : w32 ((zct H o : Int) + 1) = (zct H (o + 1) : Int) := by
        have : zct H (o + 1) = zct H o + 1 := by
          show (if H o = true then _ else _) = _
          rw [if_pos c]
        rw [this, w32_s (by omega) (by omega)]; omega
      have hj : ∀ g1 : zHp, zFr [100, 101] g g1 → g1 100 = g 100 → (∀ q : Nat, (q : Int) < a 2 → g1 101 q = if M o < 0 then M q else zup1 M (M o).toNat (-1) q) → ∃ g2, sh_Mo_strike_L57_J81 N (sh_Mo_strike_L57 N n) (s : Int) (zct H o : Int) (o : Int) g1 = some ((zct H (o + 1 + d) : Int), g2) ∧ zTr g2 a (zTs H d (o + 1) (zup1 P o 0) (zTm M o)).1 (zTs H d (o + 1) (zup1 P o 0) (zTm M o)).2 ∧ zFr [100, 101] g g2 := by
        intro g1 f1 f100 f101
        unfold sh_Mo_strike_L57_J81
        rw [zgrd (by omega) (by omega), zgrd (by omega) (by omega), ez, e1, Int.toNat_natCast]
        have C1 : zTr (zst (zst g1 101 o (-1)) 100 o 0) a (zup1 P o 0) (zTm M o) := by
          intro q hq'
          have d1 := C q hq'
          refine ⟨?_, ?_⟩
          · rw [zst_if, if_pos rfl, zst_if, if_neg (by decide), f100, zup1_if, zup1_if, d1.1]
          · rw [zst_if, if_neg (by decide), zst_if, if_pos rfl]
            unfold zTm
            rw [zup1_if, zup1_if, f101 q hq']
            split
            · rfl
            · split <;> rfl
        have f2 : zFr [100, 101] g (zst (zst g1 101 o (-1)) 100 o 0) := (f1.st (by decide)).st (by decide)
        obtain ⟨g2, r1, r2, r3⟩ := ih n (o + 1) _ _ _ (by rw [f2 86 (by decide)]; exact ea) C1 (zTq_1 hq b2.1 b1.1) (by omega) (by omega) (by omega)
        exact ⟨g2, r1, r2, f2.trans r3⟩
      by_cases cm : M o < 0
      · rw [if_pos cm]
        refine hj g (zFr.refl g) rfl (fun q hq' => ?_)
        rw [if_pos cm]; exact (C q hq').2
      · rw [if_neg cm, zgrd (by omega) (by omega), zgrd (by omega) (by omega)]
        refine hj _ ((zFr.refl g).st (by decide)) (by rw [zst_if, if_neg (by decide)]) (fun q hq' => ?_)
        rw [if_neg cm, zst_if, if_pos rfl, zup1_if, zup1_if, (C q hq').2]
    · rw [if_pos (c := ¬ H o = true) c, if_neg c]
      have ez : zct H (o + 1) = zct H o := by
        show (if H o = true then _ else _) = _
        rw [if_neg c]
      have := ih n (o + 1) g P M ea C hq (by omega) (by omega) (by omega)
      rw [ez] at this
      exact this
theorem zbl_c {a : zFn} {T : Nat → Nat → List Int} {N d : Nat} (hN : 1300 ≤ N) {p : Int} (hp : zB6 p) {P M : zFn} (hd : a 2 = d) (hq : zTq a P M) {h : zHp} (K : zKc h a T) (C : zTc h a P M) :
    ∃ h1, sh_Ox_blow_64 N (-1) p h = some ((zbs (zTh a T p P M) d : Int), h1) ∧ zTc h1 a (zTs (zTh a T p P M) d 0 P M).1 (zTs (zTh a T p P M) d 0 P M).2 ∧ zFr [33, 35, 37, 66] h h1 := by
  have b2 := K.1.2.1.2.2.1
  obtain ⟨t, h1, t1, p1, f1⟩ := zTc_1 (T := T) hN hp hq d N 0 0 h K C (by omega) (by omega) (by decide)
  rw [Nat.zero_add] at p1
  have C1 : zTc h1 a P M := by
    unfold zTc
    rw [f1 66 (by decide)]
    exact C
  obtain ⟨h2, r1, r2, r3⟩ := zTc_2 (H := zTh a T p P M) K.1.2 (s := zbs (zTh a T p P M) d) (t := t) (D := d) N (zbs_256 _ (by omega)) t1 (fun o ho => by rw [zbs_t]; simp [ho]) d N 0 h1 P M C1 hq (by omega) (by omega) (by omega)
  refine ⟨h2, ?_, r2, (f1.mono (by simp)).trans (r3.mono (by simp))⟩
  unfold sh_Ox_blow_64
  refine (congrArg (fun o => zb3 o fun y54 y55 h56 => zb2 (sh_Ox_blow_64_L63 N N y54 y55 0 h56) fun y87 h88 => some (y87, h88)) p1).trans ?_
  simp only [zb3_some]
  exact congrArg (fun o => zb2 o fun y87 h88 => some (y87, h88)) r1
theorem zst_r {T : Nat → Nat → List Int} {N d : Nat} (hN : 1300 ≤ N) {p : Int} (hp : zB6 p) {a P M : zFn} (hd : a 2 = d) (hq : zTq a P M) {g : zHp} (K : zKr g T) (ea : g 86 = a) (C : zTr g a P M) :
    ∃ g1, sh_Mo_strike N p g = some ((zct (zTh a T p P M) d : Int), g1) ∧ zTr g1 a (zTs (zTh a T p P M) d 0 P M).1 (zTs (zTh a T p P M) d 0 P M).2 ∧ zFr [91, 92, 93, 100, 101] g g1 := by
  have hk := K.1
  rw [ea] at hk
  have b2 := hk.1.2.2.1
  obtain ⟨g1, p1, f1⟩ := zTr_1 hN hp hq d N 0 g K ea C (by omega) (by omega)
  rw [Nat.zero_add] at p1
  have C1 : zTr g1 a P M := fun o ho => by rw [f1 100 (by decide), f1 101 (by decide)]; exact C o ho
  obtain ⟨g2, r1, r2, r3⟩ := zTr_2 (H := zTh a T p P M) hk (s := zbs (zTh a T p P M) d) (D := d) N (zbs_256 _ (by omega)) (fun o ho => by rw [zbs_t]; simp [ho]) d N 0 g1 P M (by rw [f1 86 (by decide)]; exact ea) C1 hq (by omega) (by omega) (by omega)
  rw [Nat.zero_add] at r1
  refine ⟨g2, ?_, r2, (f1.mono (by simp)).trans (r3.mono (by simp))⟩
  unfold sh_Mo_strike
  refine (congrArg (fun o => zb2 o fun y25 h26 => zb2 (sh_Mo_strike_L57 N N y25 0 0 h26) fun y43 h44 => some (y43, h44)) p1).trans ?_
  simp only [zb2_some]
  exact congrArg (fun o => zb2 o fun y43 h44 => some (y43, h44)) r1
theorem zT_x {x : Int} (hx : 0 ≤ x ∧ x ≤ 200000) : w32 ((w32 (w32 (x * 163) + 47)).tmod 30059) = (x * 163 + 47).tmod 30059 ∧ w32 (x.tmod 10) = x.tmod 10 ∧ (0 ≤ (x * 163 + 47).tmod 30059 ∧ (x * 163 + 47).tmod 30059 ≤ 200000) ∧ zB6 (x.tmod 10) := by
  rw [w32_s (a := x * 163) (by omega) (by omega), w32_s (a := x * 163 + 47) (by omega) (by omega), Int.tmod_eq_emod_of_nonneg (by omega), Int.tmod_eq_emod_of_nonneg (by omega)]
  refine ⟨w32_s (by omega) (by omega), w32_s (by omega) (by omega), by omega, ?_⟩
  unfold zB6; omega
theorem zTt_c {a : zFn} {T : Nat → Nat → List Int} {N d : Nat} (hN : 1300 ≤ N) (hd : a 2 = d) (q : Nat) (hq100 : q < 100) : ∀ (e n i : Nat) (x s : Int) (h : zHp) (P M : zFn), i + e = q → e < n → (0 ≤ x ∧ x ≤ 200000) → zTq a P M → zKc h a T → zTc h a P M →
    ∃ h1, sh_Ox_thunder_L28 N n (q : Int) s x (i : Int) h = some (zTt a T d e x P M s, h1) ∧ zFr [33, 35, 37, 66] h h1 := by
  intro e
  induction e with
  | zero =>
    intro n i x s h P M hi hn hx hq K C
    obtain ⟨n, rfl⟩ : ∃ m, n = m + 1 := ⟨n - 1, by omega⟩
    refine ⟨h, ?_, zFr.refl h⟩
    unfold sh_Ox_thunder_L28
    rw [if_pos (by omega)]
    rfl
  | succ e ih =>
    intro n i x s h P M hi hn hx hq K C
    obtain ⟨n, rfl⟩ : ∃ m, n = m + 1 := ⟨n - 1, by omega⟩
    obtain ⟨x1, x2, x3, x4⟩ := zT_x hx
    have b2 := K.1.2.1.2.2.1
    have b1 := K.1.2.1.2.1
    obtain ⟨h1, p1, p2, p3⟩ := zbl_c (T := T) hN x4 hd hq K C
    obtain ⟨h2, r1, r2⟩ := ih n (i + 1) ((x * 163 + 47).tmod 30059) (w32 (s + (zct (zTh a T (x.tmod 10) P M) d : Int))) h1 _ _ (by omega) (by omega) x3 (zTq_s b2.1 b1.1 d 0 P M hq) (zKc_fr K p3 (by decide)) p2
    refine ⟨h2, ?_, p3.trans r2⟩
    unfold sh_Ox_thunder_L28
    rw [if_neg (by omega), x1, x2, p1]
    simp only [zb2_some]
    rw [zbc_bs _ (by omega), w32_s (a := (i : Int) + 1) (by omega) (by omega)]
    exact r1
theorem zTt_r {T : Nat → Nat → List Int} {N d : Nat} {a : zFn} (hN : 1300 ≤ N) (hd : a 2 = d) (q : Nat) (hq100 : q < 100) : ∀ (e n i : Nat) (x s : Int) (g : zHp) (P M : zFn), i + e = q → e < n → (0 ≤ x ∧ x ≤ 200000) → zTq a P M → zKr g T → g 86 = a → zTr g a P M →
    ∃ g1, sh_Mo_thunder_L48 N n (q : Int) x s (i : Int) g = some (zTt a T d e x P M s, g1) ∧ zFr [91, 92, 93, 100, 101] g g1 := by
  intro e
  induction e with
  | zero =>
    intro n i x s g P M hi hn hx hq K ea C
    obtain ⟨n, rfl⟩ : ∃ m, n = m + 1 := ⟨n - 1, by omega⟩
    refine ⟨g, ?_, zFr.refl g⟩
    unfold sh_Mo_thunder_L48
    rw [if_pos (by omega)]
    rfl
  | succ e ih =>
    intro n i x s g P M hi hn hx hq K ea C
    obtain ⟨n, rfl⟩ : ∃ m, n = m + 1 := ⟨n - 1, by omega⟩
    obtain ⟨x1, x2, x3, x4⟩ := zT_x hx
    have hk := K.1
    rw [ea] at hk
    have b2 := hk.1.2.2.1
    have b1 := hk.1.2.1
    obtain ⟨g1, p1, p2, p3⟩ := zst_r hN x4 hd hq K ea C
    obtain ⟨g2, r1, r2⟩ := ih n (i + 1) ((x * 163 + 47).tmod 30059) (w32 (s + (zct (zTh a T (x.tmod 10) P M) d : Int))) g1 _ _ (by omega) (by omega) x3 (zTq_s b2.1 b1.1 d 0 P M hq) (zKr_eq K (p3 86 (by decide)) (p3 88 (by decide))) (by rw [p3 86 (by decide)]; exact ea) p2
    refine ⟨g2, ?_, p3.trans r2⟩
    unfold sh_Mo_thunder_L48
    rw [if_neg (by omega), x1, x2, p1]
    simp only [zb2_some]
    rw [w32_s (a := (i : Int) + 1) (by omega) (by omega)]
    exact r1
theorem zTr_0 {N : Nat} (x1 x2 : Int) {a : zFn} (b2 : 0 ≤ a 2 ∧ a 2 ≤ 8) : ∀ (d n k : Nat) (g : zHp), g 86 = a → (k : Int) + d = a 2 → d < n → (∀ o, o < k → g 100 o = a (47 + 8 * o) ∧ g 101 o = a (48 + 8 * o)) →
    ∃ g1, sh_Mo_thunder_L14 N n x1 x2 k g = some (x1, x2, g1) ∧ (∀ o, o < k + d → g1 100 o = a (47 + 8 * o) ∧ g1 101 o = a (48 + 8 * o)) ∧ zFr [100, 101] g g1 := by
  intro d
  induction d with
  | zero =>
    intro n k g ea ho hn hg
    obtain ⟨n, rfl⟩ : ∃ m, n = m + 1 := ⟨n - 1, by omega⟩
    refine ⟨g, ?_, hg, zFr.refl g⟩
    unfold sh_Mo_thunder_L14
    rw [ea, if_pos (by omega)]
  | succ d ih =>
    intro n k g ea ho hn hg
    obtain ⟨n, rfl⟩ : ∃ m, n = m + 1 := ⟨n - 1, by omega⟩
    have e1 : w32 ((k : Int) + 1) = ((k + 1 : Nat) : Int) := by rw [w32_s (by omega) (by omega)]; omega
    have f1 : zFr [100, 101] g (zst (zst g 100 k (a (47 + 8 * k))) 101 k (a (48 + 8 * k))) := ((zFr.refl g).st (by decide)).st (by decide)
    obtain ⟨g1, p1, p2, p3⟩ := ih n (k + 1) (zst (zst g 100 k (a (47 + 8 * k))) 101 k (a (48 + 8 * k))) (by rw [f1 86 (by decide)]; exact ea) (by omega) (by omega) (fun o ho => by
      rw [zst_if, if_neg (by decide), zst_if, if_pos rfl, zst_if, if_pos rfl, zst_if, if_neg (by decide), zup1_if, zup1_if]
      by_cases e : o = k
      · rw [if_pos e, if_pos e, e]; exact ⟨rfl, rfl⟩
      · rw [if_neg e, if_neg e]; exact hg o (by omega))
    refine ⟨g1, ?_, fun o ho => p2 o (by omega), f1.trans p3⟩
    unfold sh_Mo_thunder_L14
    rw [ea, if_neg (c := a 2 ≤ (k : Int)) (by omega), told_s (by omega) (by omega) (by decide) (by decide), ea, Int.toNat_natCast, show 41 + 8 * k + (6 : Int).toNat = 47 + 8 * k by show 41 + 8 * k + 6 = _; omega]
    simp only [zb1_some]
    rw [zgrd (by omega) (by omega), told_s (by omega) (by omega) (by decide) (by decide), zst_if, if_neg (by decide), ea, Int.toNat_natCast, show 41 + 8 * k + (7 : Int).toNat = 48 + 8 * k by show 41 + 8 * k + 7 = _; omega]
    simp only [zb1_some]
    rw [zgrd (by omega) (by omega), e1]
    exact p1
theorem zc_thunder {h : zHp} (x y : Int) (hI : zInv h) {N : Nat} (hN : 1300 ≤ N) : ∃ h2, zcas (sh_Ox_thunder N x y) (sh_Mo_thunder N x y) h = some (1, h2) ∧ zInv h2 := by
  have hI' := hI
  obtain ⟨⟨hy, hk⟩, -⟩ := hI'
  by_cases c : (0 ≤ x ∧ x ≤ 9999) ∧ (1 ≤ y ∧ y ≤ 99)
  · obtain ⟨T, K, R⟩ := zK_of hI
    have b2 := hk.1.2.2.1
    have b1 := hk.1.2.1
    have b0 := hk.1.1
    have y4 := hy.2.2.2.1
    simp only [Nat.reduceAdd] at y4
    obtain ⟨d, hd⟩ : ∃ d : Nat, h 86 2 = d := ⟨(h 86 2).toNat, by omega⟩
    obtain ⟨q, rfl⟩ : ∃ q : Nat, y = q := ⟨y.toNat, by omega⟩
    have hq : zTq (h 86) (fun o => h 86 (47 + 8 * o)) (fun o => h 86 (48 + 8 * o)) := by
      intro o ho
      have hx := (hk.2.2.2.1 o ho).1
      unfold zOx at hx
      show (0 ≤ h 86 (47 + 8 * o) ∧ h 86 (47 + 8 * o) < 10 + h 86 1) ∧ (-1 ≤ h 86 (48 + 8 * o) ∧ h 86 (48 + 8 * o) < h 86 2)
      omega
    have f0 : zFr [66] h (sh_Herd_copyFrom_64_14 h) := by
      intro id hid
      unfold sh_Herd_copyFrom_64_14
      rw [rcopy_if, if_neg (fun e => hid (by simp [e]))]
    have e66 : ∀ j, j < 71 → sh_Herd_copyFrom_64_14 h 66 j = h 16 j := by
      intro j hj
      unfold sh_Herd_copyFrom_64_14
      rw [rcopy_if, if_pos rfl, if_pos ⟨hj, hj⟩]
    have C0 : zTc (sh_Herd_copyFrom_64_14 h) (h 86) (fun o => h 86 (47 + 8 * o)) (fun o => h 86 (48 + 8 * o)) := by
      refine ⟨?_, ?_, fun o ho => ⟨?_, Or.inl ?_, ?_, ?_⟩⟩
      · rw [e66 2 (by decide)]; exact hy.1.2.2.1
      · rw [e66 0 (by decide)]; exact hy.1.2.2.2.1
      · show _ = h 86 (48 + 8 * o)
        rw [e66 _ (by omega), show 14 + 8 * o = 7 + 8 * o + 7 by omega, y4 o (by omega) 7 (by decide)]; congr 1; omega
      · show _ = h 86 (47 + 8 * o)
        rw [e66 _ (by omega), show 13 + 8 * o = 7 + 8 * o + 6 by omega, y4 o (by omega) 6 (by decide)]; congr 1; omega
      · rw [e66 _ (by omega)]; exact y4 o (by omega) 0 (by decide)
      · rw [e66 _ (by omega), show 8 + 8 * o = 7 + 8 * o + 1 by omega, y4 o (by omega) 1 (by decide)]; congr 1; omega
    have ex : w32 (w32 (x * 13) + 2) = x * 13 + 2 := by rw [w32_s (a := x * 13) (by omega) (by omega), w32_s (by omega) (by omega)]
    obtain ⟨h1, p1, p2⟩ := zTt_c (T := T) hN hd q (by omega) q N 0 (x * 13 + 2) 0 _ _ _ (by omega) (by omega) (by omega) hq (zKc_fr K f0 (by decide)) C0
    have f1 : zFr [33, 35, 37, 66] h h1 := (f0.mono (by simp)).trans p2
    have f86 := f1 86 (by decide)
    obtain ⟨g1, r1, r2, r3⟩ := zTr_0 (N := N) x (q : Int) (a := h 86) b2 d N 0 h1 f86 (by omega) (by omega) (fun o ho => by omega)
    rw [Nat.zero_add] at r2
    have R1 : zKr g1 T := zKr_eq R (by rw [r3 86 (by decide)]; exact f86) (by rw [r3 88 (by decide)]; exact f1 88 (by decide))
    obtain ⟨g2, s1, s2⟩ := zTt_r (T := T) hN hd q (by omega) q N 0 (x * 13 + 2) 0 g1 (fun o => h 86 (47 + 8 * o)) (fun o => h 86 (48 + 8 * o)) (by omega) (by omega) (by omega) hq R1 (by rw [r3 86 (by decide)]; exact f86) (fun o ho => r2 o (by omega))
    refine ⟨g2, zcas_of (r := zTt (h 86) T d q (x * 13 + 2) (fun o => h 86 (47 + 8 * o)) (fun o => h 86 (48 + 8 * o)) 0) (h1 := h1) ?_ ?_, zqry hI (((zQ_fr f1 (by decide)).trans (zQ_fr r3 (by decide))).trans (zQ_fr s2 (by decide)))⟩
    · unfold sh_Ox_thunder
      simp only [within_z]
      rw [if_neg (by omega), if_neg (by omega), ex]
      exact congrArg (fun o => zb2 o fun y28 h29 => some (y28, h29)) p1
    · unfold sh_Mo_thunder
      simp only [isIn_z]
      rw [if_neg (by omega), if_neg (by omega)]
      refine (congrArg (fun o => zb3 o fun y27 y28 h29 => zb2 (sh_Mo_thunder_L48 N N y28 (w32 ((w32 (y27 * 13)) + 2)) 0 0 h29) fun y39 h40 => some (y39, h40)) r1).trans ?_
      simp only [zb3_some]
      rw [ex]
      exact congrArg (fun o => zb2 o fun y39 h40 => some (y39, h40)) s1
  · refine ⟨h, zcas_of (r := -1) (h1 := h) ?_ ?_, hI⟩
    · unfold sh_Ox_thunder
      simp only [within_z]
      by_cases c1 : 0 ≤ x ∧ x ≤ 9999
      · rw [if_neg (by omega), if_pos (by omega)]
      · rw [if_pos (by omega)]
    · unfold sh_Mo_thunder
      simp only [isIn_z]
      by_cases c1 : 0 ≤ x ∧ x ≤ 9999
      · rw [if_neg (by omega), if_pos (by omega)]
      · rw [if_pos (by omega)]
