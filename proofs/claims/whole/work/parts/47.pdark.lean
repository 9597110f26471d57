/-! PURE: dark -/
def zSl (a : zFn) (T : Nat → Nat → List Int) (o : Nat) (f p : Int) (l : Nat) (y hr : Int) : Int := zhl (zVal (zna a o f p l y hr) (zcL a T 2) 0) 0 9
theorem zhl_b {v : Int} : 0 ≤ zhl v 0 9 ∧ zhl v 0 9 ≤ 9 := by
  unfold zhl
  split
  · omega
  · split <;> omega
theorem zB6_0 : zB6 0 := ⟨by decide, by decide⟩
theorem zslip_c {h : zHp} {a : zFn} {T : Nat → Nat → List Int} {N : Nat} (hN : 1300 ≤ N) (K : zKc h a T) {o l : Nat} {f p y hr : Int} (ho : (o : Int) < a 2) (hl : l < 4) (hf : -1 ≤ f ∧ f < 5) (hp : zB6 p) (hy : zB6 y) (hh : zB6 hr) (hag : ∀ i, i ≤ 8 → h 35 i = zna a o f p l y hr i) :
    ∃ h1, sh_Laws_slip N h = some (zSl a T o f p l y hr, h1) ∧ zFr [37] h h1 := by
  have hk := K.1.2
  obtain ⟨h1, e1, g1, r1⟩ := zval_c (c := 2) (x := 2) (w := 0) (nm := zna a o f p l y hr) hN K (by decide) rfl (fun i _ _ => zna_b hk ho hl hf hp hy hh i) (fun i _ hi => hag i (zNok_8 (c := 2) (by decide) hi))
  refine ⟨h1, ?_, g1⟩
  unfold sh_Laws_slip
  rw [e1]
  simp only [zb2_some]
  rw [zbtw_s (zVal_b6 zB6_0 (fun z => (r1 z).1))]
  rfl
theorem zslip_r {g : zHp} {T : Nat → Nat → List Int} {N : Nat} (hN : 1300 ≤ N) (K : zKr g T) {o l : Nat} {f p y hr : Int} (ho : (o : Int) < g 86 2) (hl : l < 4) (hf : -1 ≤ f ∧ f < 5) (hp : zB6 p) (hy : zB6 y) (hh : zB6 hr) (hag : ∀ i, i ≤ 8 → g 91 i = zna (g 86) o f p l y hr i) :
    ∃ g1, sh_Mo_slip N g = some (zSl (g 86) T o f p l y hr, g1) ∧ zFr [92, 93] g g1 := by
  obtain ⟨k, e, r⟩ := zcof_r hN K (c := 2) (by decide) (x := 2) rfl
  unfold sh_Mo_slip
  rw [e]
  simp only [zb1_some]
  rcases r with ⟨z, rfl⟩ | ⟨t, m, km, h5, t4, ka, kw⟩
  · rw [if_neg (by decide)]
    refine ⟨g, ?_, zFr.refl g⟩
    have : zSl (g 86) T o f p l y hr = 0 := by
      unfold zSl zVal
      rw [if_pos z]
      rfl
    rw [this]
  · rw [if_pos (by omega)]
    obtain ⟨g1, e1, f1, -, r1⟩ := zwrk_r hN (c := 2) (w := 0) (nm := zna (g 86) o f p l y hr) km h5 t4 ka kw (fun i _ _ => zna_b K.1 ho hl hf hp hy hh i) (fun i _ hi => hag i (zNok_8 (c := 2) (by decide) hi))
    rw [e1]
    simp only [zb1_some]
    obtain ⟨r2, r3⟩ := r1 (by decide)
    rw [r2, zheld_s r3]
    exact ⟨g1, rfl, f1⟩
def znk (f p hr : Int) : zFn := fun i => if i = 0 then hr else if i = 1 then p else if i = 2 then f else 0
def zCw (a : zFn) (T : Nat → Nat → List Int) (f p hr : Int) : Int := zhl (zVal (znk f p hr) (zcL a T 3) 1) 0 9
theorem znk_b {f p hr : Int} (hf : zB6 f) (hp : zB6 p) (hh : zB6 hr) (i : Nat) : zB6 (znk f p hr i) := by
  unfold znk
  split
  · exact hh
  split
  · exact hp
  split
  · exact hf
  · exact zB6_0
theorem zNok_3 {i : Nat} (h : zNok ((3 : Nat) : Int) i = true) : i = 0 ∨ i = 1 ∨ i = 2 := by
  unfold zNok at h
  rw [if_neg (by decide), if_pos (by decide)] at h
  have := of_decide_eq_true h
  omega
theorem zwgt_c {h : zHp} {a : zFn} {T : Nat → Nat → List Int} {N : Nat} (hN : 1300 ≤ N) (K : zKc h a T) {f p hr : Int} (hf : zB6 f) (hp : zB6 p) (hh : zB6 hr) :
    ∃ h1, sh_Laws_weight N f p hr h = some (zCw a T f p hr, h1) ∧ zFr [35, 37] h h1 := by
  unfold sh_Laws_weight sh_Laws_askCall
  have fr : zFr [35] h (rput (rput (rput h 35 11 0 hr) 35 11 1 p) 35 11 2 f) := (((zFr.refl h).rp (by decide)).rp (by decide)).rp (by decide)
  obtain ⟨h1, e1, g1, r1⟩ := zval_c (c := 3) (x := 3) (w := 1) (nm := znk f p hr) hN (zKc_fr K fr (by decide)) (by decide) rfl (fun i _ _ => znk_b hf hp hh i) (fun i _ hi => by
    rcases zNok_3 hi with rfl | rfl | rfl
    · simp (disch := omega) only [zst_if, zup1_ne, zup1_eq, w32_s, rget_in, rput_in, zgrd, Nat.reduceEqDiff, Nat.reduceAdd, ↓reduceIte, Int.reduceToNat, zb1_some, zb2_some, zb3_some, zb4_some, zb5_some, Int.toNat_natCast, true_and, and_true]; rfl
    · simp (disch := omega) only [zst_if, zup1_ne, zup1_eq, w32_s, rget_in, rput_in, zgrd, Nat.reduceEqDiff, Nat.reduceAdd, ↓reduceIte, Int.reduceToNat, zb1_some, zb2_some, zb3_some, zb4_some, zb5_some, Int.toNat_natCast, true_and, and_true]; rfl
    · simp (disch := omega) only [zst_if, zup1_ne, zup1_eq, w32_s, rget_in, rput_in, zgrd, Nat.reduceEqDiff, Nat.reduceAdd, ↓reduceIte, Int.reduceToNat, zb1_some, zb2_some, zb3_some, zb4_some, zb5_some, Int.toNat_natCast, true_and, and_true]; rfl)
  rw [e1]
  simp only [zb2_some]
  rw [zbtw_s (zVal_b6 ⟨by decide, by decide⟩ (fun z => (r1 z).1))]
  exact ⟨h1, rfl, (fr.mono (by simp)).trans (g1.mono (by simp))⟩
theorem zwgt_r {g : zHp} {T : Nat → Nat → List Int} {N : Nat} (hN : 1300 ≤ N) (K : zKr g T) {f p hr : Int} (hf : zB6 f) (hp : zB6 p) (hh : zB6 hr) :
    ∃ g1, sh_Mo_callsOf N f p hr g = some (zCw (g 86) T f p hr, g1) ∧ zFr [91, 92, 93] g g1 := by
  obtain ⟨k, e, r⟩ := zcof_r hN K (c := 3) (by decide) (x := 3) rfl
  unfold sh_Mo_callsOf
  rw [e]
  simp only [zb1_some]
  rcases r with ⟨z, rfl⟩ | ⟨t, m, km, h5, t4, ka, kw⟩
  · rw [if_neg (by decide)]
    refine ⟨g, ?_, zFr.refl g⟩
    have : zCw (g 86) T f p hr = 1 := by
      unfold zCw zVal
      rw [if_pos z]
      rfl
    rw [this]
  · rw [if_pos (by omega)]
    have fr : zFr [91] g (zst (zst (zst g 91 0 hr) 91 1 p) 91 2 f) := (((zFr.refl g).st (by decide)).st (by decide)).st (by decide)
    have hka : zkat (zst (zst (zst g 91 0 hr) 91 1 p) 91 2 f) t m (zcL (g 86) T 3) := by
      have := ka
      unfold zkat at this ⊢
      rw [fr 88 (by decide)]
      exact this
    obtain ⟨g1, e1, f1, -, r1⟩ := zwrk_r hN (c := 3) (w := 1) (nm := znk f p hr) km (by rw [fr 86 (by decide)]; exact h5) t4 hka kw (fun i _ _ => znk_b hf hp hh i) (fun i _ hi => by
      rcases zNok_3 hi with rfl | rfl | rfl
      · simp (disch := omega) only [zst_if, zup1_ne, zup1_eq, w32_s, rget_in, rput_in, zgrd, Nat.reduceEqDiff, Nat.reduceAdd, ↓reduceIte, Int.reduceToNat, zb1_some, zb2_some, zb3_some, zb4_some, zb5_some, Int.toNat_natCast, true_and, and_true]; rfl
      · simp (disch := omega) only [zst_if, zup1_ne, zup1_eq, w32_s, rget_in, rput_in, zgrd, Nat.reduceEqDiff, Nat.reduceAdd, ↓reduceIte, Int.reduceToNat, zb1_some, zb2_some, zb3_some, zb4_some, zb5_some, Int.toNat_natCast, true_and, and_true]; rfl
      · simp (disch := omega) only [zst_if, zup1_ne, zup1_eq, w32_s, rget_in, rput_in, zgrd, Nat.reduceEqDiff, Nat.reduceAdd, ↓reduceIte, Int.reduceToNat, zb1_some, zb2_some, zb3_some, zb4_some, zb5_some, Int.toNat_natCast, true_and, and_true]; rfl)
    rw [e1]
    simp only [zb1_some]
    obtain ⟨r2, r3⟩ := r1 (by decide)
    rw [r2, zheld_s r3]
    exact ⟨g1, rfl, (fr.mono (by simp)).trans (f1.mono (by simp))⟩
/-- one ox's part in a weight -/
def zFc (a : zFn) (T : Nat → Nat → List Int) (W : Nat) (f p : Int) (l : Nat) (hr : Int) (o : Nat) : Int := if zHv a T o f p l 0 hr = (if W.testBit o = true then 1 else 0) then 10 - zSl a T o f p l 0 hr else zSl a T o f p l 0 hr
theorem zFc_b {a : zFn} {T : Nat → Nat → List Int} {W : Nat} {f p : Int} {l : Nat} {hr : Int} {o : Nat} : 0 ≤ zFc a T W f p l hr o ∧ zFc a T W f p l hr o ≤ 10 := by
  have : 0 ≤ zSl a T o f p l 0 hr ∧ zSl a T o f p l 0 hr ≤ 9 := zhl_b
  unfold zFc
  split <;> omega
def zwt (F : Nat → Int) (S : Nat) : Nat → Nat → Int → Int
  | 0, _, w => w
  | d + 1, k, w => if S.testBit k = true then zwt F S d (k + 1) (w64 (w * F k)) else zwt F S d (k + 1) w
theorem zwt_0 (F : Nat → Int) (S : Nat) : ∀ d k, zwt F S d k 0 = 0 := by
  intro d
  induction d with
  | zero => intro k; rfl
  | succ d ih =>
    intro k
    unfold zwt
    rw [Int.zero_mul, w64_s (by decide) (by decide), ih]
    split <;> rfl
theorem zwt_b {F : Nat → Int} {S : Nat} (hF : ∀ k, 0 ≤ F k ∧ F k ≤ 10) : ∀ (d k : Nat) (w : Int) (B : Nat), k + d ≤ 8 → 0 ≤ w → w ≤ B → B * 10 ^ d ≤ 900000000 → 0 ≤ zwt F S d k w ∧ zwt F S d k w ≤ 900000000 := by
  intro d
  induction d with
  | zero => intro k w B _ h0 h1 h2; unfold zwt; simp at h2; omega
  | succ d ih =>
    intro k w B hk h0 h1 h2
    have hp : 10 ^ (d + 1) = 10 ^ d * 10 := Nat.pow_succ 10 d
    have hd : 0 < 10 ^ d := Nat.pow_pos (by decide)
    rw [hp, ← Nat.mul_assoc, Nat.mul_right_comm] at h2
    have hB : B * 10 ≤ 900000000 := Nat.le_trans (Nat.le_mul_of_pos_right _ hd) h2
    have hf := hF k
    have m0 : 0 ≤ w * F k := Int.mul_nonneg h0 hf.1
    have m1 : w * F k ≤ w * 10 := Int.mul_le_mul_of_nonneg_left hf.2 h0
    unfold zwt
    split
    · rw [w64_s (by omega) (by omega)]
      exact ih (k + 1) (w * F k) (B * 10) (by omega) m0 (by omega) h2
    · exact ih (k + 1) w (B * 10) (by omega) h0 (by omega) h2
theorem zhasV {s o : Nat} (hs : s < 256) (ho : o < 8) : sh_Mo_has (s : Int) (o : Int) = if s.testBit o = true then 1 else 0 := by
  unfold sh_Mo_has
  rw [zhas_8 s hs o ho]
  cases s.testBit o <;> rfl
theorem zwt_c {a : zFn} {T : Nat → Nat → List Int} {N : Nat} (hN : 1300 ≤ N) {l S W : Nat} {f p hr x5 : Int} (hl : l < 4) (hf : -1 ≤ f ∧ f < 5) (hp : zB6 p) (hh : zB6 hr) (hS : S < 256) (hW : W < 256) : ∀ (d n k : Nat) (w : Int) (h : zHp), zKc h a T → (k : Int) + d = a 2 → d < n →
    ∃ h1, sh_Odds_weighAll_L28 N n (l : Int) hr (S : Int) (W : Int) x5 f p w (k : Int) h = some ((l : Int), hr, (S : Int), (W : Int), x5, f, p, zwt (zFc a T W f p l hr) S d k w, h1) ∧ zFr [33, 35, 37] h h1 := by
  intro d
  induction d with
  | zero =>
    intro n k w h K ho hn
    obtain ⟨n, rfl⟩ : ∃ m, n = m + 1 := ⟨n - 1, by omega⟩
    refine ⟨h, ?_, zFr.refl h⟩
    have e0 : h 16 2 = a 2 := K.1.1.1.2.2.1
    unfold sh_Odds_weighAll_L28
    rw [oxen_s, e0, if_pos (by omega)]
    rfl
  | succ d ih =>
    intro n k w h K ho hn
    obtain ⟨n, rfl⟩ : ∃ m, n = m + 1 := ⟨n - 1, by omega⟩
    have e0 : h 16 2 = a 2 := K.1.1.1.2.2.1
    have b2 := K.1.2.1.2.2.1
    have e1 : w32 ((k : Int) + 1) = ((k + 1 : Nat) : Int) := by rw [w32_s (by omega) (by omega)]; omega
    unfold sh_Odds_weighAll_L28
    rw [oxen_s, e0, if_neg (c := a 2 ≤ (k : Int)) (by omega)]
    simp only [zcmp_eq]
    by_cases c0 : w = 0
    · rw [if_pos c0, c0, zwt_0]
      exact ⟨h, rfl, zFr.refl h⟩
    · rw [if_neg c0, zis_8 hS (by omega), e1]
      rw [show zwt (zFc a T W f p l hr) S (d + 1) k w = if S.testBit k = true then zwt (zFc a T W f p l hr) S d (k + 1) (w64 (w * zFc a T W f p l hr k)) else zwt (zFc a T W f p l hr) S d (k + 1) w from rfl]
      by_cases c1 : S.testBit k = true
      · rw [if_pos c1, if_neg (by decide), if_pos c1, zis_8 hW (by omega)]
        obtain ⟨h1, p1, n1, m1, g1⟩ := zask_c K.1.1 K.1.2 (o := k) (l := l) (f := f) (p := p) (y := 0) (hr := hr) (by omega) hl hf
        rw [if_pos (c := (0 : Int) = 0) rfl] at n1
        have K1 := zKc_fr K g1 (by decide)
        obtain ⟨h2, s1, s2⟩ := zslip_c hN K1 (o := k) (l := l) (f := f) (p := p) (y := 0) (hr := hr) (by omega) hl hf hp zB6_0 hh n1
        obtain ⟨h3, t1, t2, -⟩ := zheed_c hN (zKc_fr K1 s2 (by decide)) (o := k) (l := l) (f := f) (p := p) (y := 0) (hr := hr) (by omega) hl hf hp zB6_0 hh (by rw [s2 35 (by decide)]; exact n1)
        have f3 : zFr [33, 35, 37] h h3 := ((g1.mono (by simp)).trans (s2.mono (by simp))).trans (t2.mono (by simp))
        rw [p1]
        unfold sh_Odds_times
        rw [s1]
        simp only [zb2_some]
        rw [t1]
        simp only [zb2_some]
        have hb : 0 ≤ zSl a T k f p l 0 hr ∧ zSl a T k f p l 0 hr ≤ 9 := zhl_b
        rw [w32_s (a := 10 - _) (by omega) (by omega)]
        obtain ⟨h4, r1, r2⟩ := ih n (k + 1) (w64 (w * zFc a T W f p l hr k)) h3 (zKc_fr K f3 (by decide)) (by omega) (by omega)
        exact ⟨h4, r1, f3.trans r2⟩
      · rw [if_neg c1, if_pos rfl, if_neg c1]
        exact ih n (k + 1) w h K (by omega) (by omega)
theorem zwt_r {a : zFn} {T : Nat → Nat → List Int} {N : Nat} (hN : 1300 ≤ N) {l S W : Nat} {f p hr : Int} (hl : l < 4) (hf : -1 ≤ f ∧ f < 5) (hp : zB6 p) (hh : zB6 hr) (hS : S < 256) (hW : W < 256) : ∀ (d n k : Nat) (w : Int) (g : zHp), zKr g T → g 86 = a → (k : Int) + d = a 2 → d < n →
    ∃ g1, sh_Mo_weightOf_L9 N n f p (l : Int) hr (S : Int) (W : Int) w (k : Int) g = some (zwt (zFc a T W f p l hr) S d k w, g1) ∧ zFr [91, 92, 93] g g1 := by
  intro d
  induction d with
  | zero =>
    intro n k w g K ea ho hn
    obtain ⟨n, rfl⟩ : ∃ m, n = m + 1 := ⟨n - 1, by omega⟩
    refine ⟨g, ?_, zFr.refl g⟩
    unfold sh_Mo_weightOf_L9
    rw [ea, if_pos (by omega)]
    rfl
  | succ d ih =>
    intro n k w g K ea ho hn
    obtain ⟨n, rfl⟩ : ∃ m, n = m + 1 := ⟨n - 1, by omega⟩
    have b2 := K.1.1.2.2.1
    rw [ea] at b2
    have e1 : w32 ((k : Int) + 1) = ((k + 1 : Nat) : Int) := by rw [w32_s (by omega) (by omega)]; omega
    unfold sh_Mo_weightOf_L9
    rw [ea, if_neg (c := a 2 ≤ (k : Int)) (by omega), e1, zhasV hS (by omega), zhasV hW (by omega)]
    rw [show zwt (zFc a T W f p l hr) S (d + 1) k w = if S.testBit k = true then zwt (zFc a T W f p l hr) S d (k + 1) (w64 (w * zFc a T W f p l hr k)) else zwt (zFc a T W f p l hr) S d (k + 1) w from rfl]
    by_cases c1 : S.testBit k = true
    · rw [if_pos c1, if_neg (by decide), if_pos c1]
      obtain ⟨g1, g2, p1, p2, p3, p4, -⟩ := zhd_r hN K (o := k) (l := l) (f := f) (p := p) (y := 0) (hr := hr) (by rw [ea]; omega) hl hf hp zB6_0 hh
      have ea2 : g2 86 = a := by rw [p3 86 (by decide)]; exact ea
      have K2 := zKr_eq K (p3 86 (by decide)) (p3 88 (by decide))
      obtain ⟨g3, s1, s2⟩ := zslip_r hN K2 (o := k) (l := l) (f := f) (p := p) (y := 0) (hr := hr) (by rw [ea2]; omega) hl hf hp zB6_0 hh (by rw [ea2, ← ea]; exact p4)
      rw [ea] at p2
      rw [ea2] at s1
      rw [p1]
      simp only [zb1_some]
      rw [p2]
      simp only [zb2_some]
      rw [s1]
      simp only [zb2_some]
      have hb : 0 ≤ zSl a T k f p l 0 hr ∧ zSl a T k f p l 0 hr ≤ 9 := zhl_b
      rw [w32_s (a := 10 - _) (by omega) (by omega)]
      have ef : (if (if zHv a T k f p l 0 hr = (if W.testBit k = true then 1 else 0) then 1 else 0 : Int) = 0 then zSl a T k f p l 0 hr else 10 - zSl a T k f p l 0 hr : Int) = zFc a T W f p l hr k := by
        unfold zFc
        by_cases c2 : zHv a T k f p l 0 hr = (if W.testBit k = true then 1 else 0)
        · rw [if_pos c2, if_neg (by decide), if_pos c2]
        · rw [if_neg c2, if_pos rfl, if_neg c2]
      rw [ef]
      have f3 : zFr [91, 92, 93] g g3 := p3.trans (s2.mono (by simp))
      obtain ⟨g4, r1, r2⟩ := ih n (k + 1) (w64 (w * zFc a T W f p l hr k)) g3 (zKr_eq K (f3 86 (by decide)) (f3 88 (by decide))) (by rw [f3 86 (by decide)]; exact ea) (by omega) (by omega)
      exact ⟨g4, r1, f3.trans r2⟩
    · rw [if_neg c1, if_pos rfl, if_neg c1]
      exact ih n (k + 1) w g K ea (by omega) (by omega)
/-- a caller's weight at a pitch -/
def zw1 (a : zFn) (T : Nat → Nat → List Int) (D l S W : Nat) (hr f p : Int) : Int := zwt (zFc a T W f p l hr) S D 0 (zCw a T f p hr)
theorem zw1_b {a : zFn} {T : Nat → Nat → List Int} {D l S W : Nat} {hr f p : Int} (hD : D ≤ 8) : 0 ≤ zw1 a T D l S W hr f p ∧ zw1 a T D l S W hr f p ≤ 900000000 := by
  have hc : 0 ≤ zCw a T f p hr ∧ zCw a T f p hr ≤ 9 := zhl_b
  have hp : 10 ^ D ≤ 10 ^ 8 := Nat.pow_le_pow_right (by decide) hD
  exact zwt_b (fun k => zFc_b) D 0 _ 9 (by omega) hc.1 hc.2 (by omega)
/-- all and own, pitch by pitch and farm by farm -/
def zdi (V : Int → Int) (q : Bool) : Nat → Nat → Int × Int → Int × Int
  | 0, _, s => s
  | n + 1, p, s => zdi V q n (p + 1) (s.1 + V p, s.2 + if q = true then V p else 0)
def zdo (V : Int → Int → Int) (F : Int) : Nat → Nat → Int × Int → Int × Int
  | 0, _, s => s
  | n + 1, f, s => zdo V F n (f + 1) (zdi (V f) (decide ((f : Int) = F)) 10 0 s)
def zdb (s : Int × Int) (B : Int) : Prop := 0 ≤ s.2 ∧ s.2 ≤ s.1 ∧ s.1 ≤ B
theorem zdi_b {V : Int → Int} {q : Bool} (hV : ∀ p, 0 ≤ V p ∧ V p ≤ 900000000) : ∀ (n p : Nat) (s : Int × Int) (B : Int), zdb s B → zdb (zdi V q n p s) (B + 900000000 * n) := by
  intro n
  induction n with
  | zero => intro p s B h; unfold zdi; simp; exact h
  | succ n ih =>
    intro p s B h
    unfold zdi
    have := ih (p + 1) (s.1 + V p, s.2 + if q = true then V p else 0) (B + 900000000) (by
      have := hV p
      unfold zdb at h ⊢
      dsimp only
      split <;> omega)
    unfold zdb at this ⊢
    omega
theorem zdo_b {V : Int → Int → Int} {F : Int} (hV : ∀ f p, 0 ≤ V f p ∧ V f p ≤ 900000000) : ∀ (n f : Nat) (s : Int × Int) (B : Int), zdb s B → zdb (zdo V F n f s) (B + 9000000000 * n) := by
  intro n
  induction n with
  | zero => intro f s B h; unfold zdo; simp; exact h
  | succ n ih =>
    intro f s B h
    unfold zdo
    have := ih (f + 1) _ _ (zdi_b (V := V f) (q := decide ((f : Int) = F)) (hV f) 10 0 s B h)
    unfold zdb at this ⊢
    omega
theorem zdi_c {a : zFn} {T : Nat → Nat → List Int} {N : Nat} (hN : 1300 ≤ N) {l S W D f : Nat} {hr F : Int} (hD : a 2 = D) (hl : l < 4) (hf : f < 5) (hh : zB6 hr) (hS : S < 256) (hW : W < 256) : ∀ (d n p : Nat) (s : Int × Int) (B : Int) (h : zHp), zKc h a T → p + d = 10 → d < n → h 77 3 = s.1 → h 77 2 = s.2 → zdb s B → B + 900000000 * d ≤ 1000000000000 →
    ∃ h1, sh_Odds_weighAll_L15 N n (l : Int) hr (S : Int) (W : Int) F (f : Int) (p : Int) h = some ((l : Int), hr, (S : Int), (W : Int), F, (f : Int), h1) ∧ h1 77 3 = (zdi (zw1 a T D l S W hr f) (decide ((f : Int) = F)) d p s).1 ∧ h1 77 2 = (zdi (zw1 a T D l S W hr f) (decide ((f : Int) = F)) d p s).2 ∧ zFr [33, 35, 37, 77] h h1 := by
  intro d
  induction d with
  | zero =>
    intro n p s B h K hp hn s1 s2 hb hB
    obtain ⟨n, rfl⟩ : ∃ m, n = m + 1 := ⟨n - 1, by omega⟩
    refine ⟨h, ?_, s1, s2, zFr.refl h⟩
    unfold sh_Odds_weighAll_L15
    rw [if_pos (by omega)]
  | succ d ih =>
    intro n p s B h K hp hn s1 s2 hb hB
    obtain ⟨n, rfl⟩ : ∃ m, n = m + 1 := ⟨n - 1, by omega⟩
    have b2 := K.1.2.1.2.2.1
    have e1 : w32 ((p : Int) + 1) = ((p + 1 : Nat) : Int) := by rw [w32_s (by omega) (by omega)]; omega
    have hp6 : zB6 (p : Int) := by unfold zB6; omega
    obtain ⟨h1, p1, p2⟩ := zwgt_c hN K (f := (f : Int)) (p := (p : Int)) (hr := hr) (by unfold zB6; omega) hp6 hh
    obtain ⟨h2, q1, q2⟩ := zwt_c (T := T) (x5 := F) hN (l := l) (S := S) (W := W) (f := (f : Int)) (p := (p : Int)) (hr := hr) hl (by omega) hp6 hh hS hW D N 0 (zCw a T f p hr) h1 (zKc_fr K p2 (by decide)) (by omega) (by omega)
    have f2 : zFr [33, 35, 37, 77] h h2 := (p2.mono (by simp)).trans (q2.mono (by simp))
    have f77 : h2 77 = h 77 := by rw [q2 77 (by decide), p2 77 (by decide)]
    have hv := zw1_b (a := a) (T := T) (D := D) (l := l) (S := S) (W := W) (hr := hr) (f := (f : Int)) (p := (p : Int)) (by omega)
    have hv2 : zw1 a T D l S W hr (f : Int) (p : Int) = zwt (zFc a T W (f : Int) (p : Int) l hr) S D 0 (zCw a T f p hr) := rfl
    rw [← hv2] at q1
    generalize zw1 a T D l S W hr (f : Int) (p : Int) = v at hv q1 hv2
    obtain ⟨hc, ec⟩ : ∃ hc, zst (zst h2 77 3 (w64 ((h2 77 3) + v))) 77 2 (w64 ((zst h2 77 3 (w64 ((h2 77 3) + v)) 77 2) + (if (f : Int) = F then v else 0 : Int))) = hc := ⟨_, rfl⟩
    have f3 : zFr [33, 35, 37, 77] h hc := by rw [← ec]; exact (f2.st (by decide)).st (by decide)
    have hbb : zdb (s.1 + v, s.2 + if decide ((f : Int) = F) = true then v else 0) (B + 900000000) := by
      unfold zdb at hb ⊢
      dsimp only
      split <;> omega
    have c3 : hc 77 3 = s.1 + v := by
      rw [← ec, zst_if, if_pos rfl, zup1_ne _ _ (by omega), zst_if, if_pos rfl, zup1_eq, f77, s1]
      unfold zdb at hb
      exact w64_s (by omega) (by omega)
    have c2 : hc 77 2 = s.2 + if decide ((f : Int) = F) = true then v else 0 := by
      rw [← ec, zst_if, if_pos rfl, zup1_eq, zst_if, if_pos rfl, zup1_ne _ _ (by omega), f77, s2]
      unfold zdb at hb
      by_cases c : (f : Int) = F
      · rw [if_pos c, if_pos (decide_eq_true c)]
        exact w64_s (by omega) (by omega)
      · rw [if_neg c, if_neg (by simp [c])]
        exact w64_s (by omega) (by omega)
    obtain ⟨h3, r1, r2, r3, r4⟩ := ih n (p + 1) (s.1 + v, s.2 + if decide ((f : Int) = F) = true then v else 0) (B + 900000000) hc (zKc_fr K f3 (by decide)) (by omega) (by omega) c3 c2 hbb (by omega)
    refine ⟨h3, ?_, ?_, ?_, f3.trans r4⟩
    · unfold sh_Odds_weighAll_L15
      rw [if_neg (c := 10 ≤ (p : Int)) (by omega), p1]
      simp only [zb2_some]
      refine (congrArg (fun o => zb9 o fun y38 y39 y40 y41 y42 y43 y44 y45 h46 => sh_Odds_weighAll_L15 N n y38 y39 y40 y41 y42 y43 (w32 (y44 + 1)) (zst (zst h46 77 3 (w64 ((h46 77 3) + y45))) 77 2 (w64 ((zst h46 77 3 (w64 ((h46 77 3) + y45)) 77 2) + (if y43 = y42 then y45 else 0 : Int))))) q1).trans ?_
      simp only [zb9_some]
      rw [ec, e1]
      exact r1
    · rw [hv2] at r2; exact r2
    · rw [hv2] at r3; exact r3
theorem zdo_c {a : zFn} {T : Nat → Nat → List Int} {N : Nat} (hN : 1300 ≤ N) {l S W D A : Nat} {hr F : Int} (hD : a 2 = D) (hA : a 0 = A) (hl : l < 4) (hh : zB6 hr) (hS : S < 256) (hW : W < 256) : ∀ (d n f : Nat) (s : Int × Int) (B : Int) (h : zHp), zKc h a T → f + d = A → d < n → h 77 3 = s.1 → h 77 2 = s.2 → zdb s B → B + 9000000000 * d ≤ 500000000000 →
    ∃ h1, sh_Odds_weighAll_L8 N n (l : Int) hr (S : Int) (W : Int) F (f : Int) h = some h1 ∧ h1 77 3 = (zdo (zw1 a T D l S W hr) F d f s).1 ∧ h1 77 2 = (zdo (zw1 a T D l S W hr) F d f s).2 ∧ zFr [33, 35, 37, 77] h h1 := by
  intro d
  induction d with
  | zero =>
    intro n f s B h K hp hn s1 s2 hb hB
    obtain ⟨n, rfl⟩ : ∃ m, n = m + 1 := ⟨n - 1, by omega⟩
    refine ⟨h, ?_, s1, s2, zFr.refl h⟩
    have e0 : h 1 0 = a 0 := K.1.1.1.1
    unfold sh_Odds_weighAll_L8
    rw [e0, if_pos (by omega)]
  | succ d ih =>
    intro n f s B h K hp hn s1 s2 hb hB
    obtain ⟨n, rfl⟩ : ∃ m, n = m + 1 := ⟨n - 1, by omega⟩
    have e0 : h 1 0 = a 0 := K.1.1.1.1
    have b0 := K.1.2.1.1
    have b2 := K.1.2.1.2.2.1
    have e1 : w32 ((f : Int) + 1) = ((f + 1 : Nat) : Int) := by rw [w32_s (by omega) (by omega)]; omega
    obtain ⟨h1, p1, p2, p3, p4⟩ := zdi_c (T := T) (F := F) hN hD hl (f := f) (by omega) hh hS hW 10 N 0 s B h K (by omega) (by omega) s1 s2 hb (by omega)
    have hz := zdi_b (V := zw1 a T D l S W hr f) (q := decide ((f : Int) = F)) (fun p => zw1_b (by omega)) 10 0 s B hb
    obtain ⟨h2, r1, r2, r3, r4⟩ := ih n (f + 1) (zdi (zw1 a T D l S W hr f) (decide ((f : Int) = F)) 10 0 s) (B + 9000000000) h1 (zKc_fr K p4 (by decide)) (by omega) (by omega) p2 p3 (by unfold zdb at hz ⊢; omega) (by omega)
    refine ⟨h2, ?_, r2, r3, p4.trans r4⟩
    unfold sh_Odds_weighAll_L8
    rw [e0, if_neg (c := a 0 ≤ (f : Int)) (by omega)]
    refine (congrArg (fun o => zb7 o fun y50 y51 y52 y53 y54 y55 h56 => sh_Odds_weighAll_L8 N n y50 y51 y52 y53 y54 (w32 (y55 + 1)) h56) p1).trans ?_
    simp only [zb7_some]
    rw [e1]
    exact r1
theorem zdi_r {a : zFn} {T : Nat → Nat → List Int} {N : Nat} (hN : 1300 ≤ N) {l S W D f : Nat} {hr F x6 : Int} (hD : a 2 = D) (hl : l < 4) (hf : f < 5) (hh : zB6 hr) (hS : S < 256) (hW : W < 256) : ∀ (d n p : Nat) (s : Int × Int) (B : Int) (g : zHp), zKr g T → g 86 = a → p + d = 10 → d < n → zdb s B → B + 900000000 * d ≤ 1000000000000 →
    ∃ g1, sh_Mo_dark_L57 N n (l : Int) hr (S : Int) (W : Int) F x6 s.1 s.2 (f : Int) (p : Int) g = some ((l : Int), hr, (S : Int), (W : Int), F, x6, (zdi (zw1 a T D l S W hr f) (decide ((f : Int) = F)) d p s).1, (zdi (zw1 a T D l S W hr f) (decide ((f : Int) = F)) d p s).2, (f : Int), g1) ∧ zFr [91, 92, 93] g g1 := by
  intro d
  induction d with
  | zero =>
    intro n p s B g K ea hp hn hb hB
    obtain ⟨n, rfl⟩ : ∃ m, n = m + 1 := ⟨n - 1, by omega⟩
    refine ⟨g, ?_, zFr.refl g⟩
    unfold sh_Mo_dark_L57
    rw [if_pos (by omega)]
    rfl
  | succ d ih =>
    intro n p s B g K ea hp hn hb hB
    obtain ⟨n, rfl⟩ : ∃ m, n = m + 1 := ⟨n - 1, by omega⟩
    have b2 := K.1.1.2.2.1
    rw [ea] at b2
    have e1 : w32 ((p : Int) + 1) = ((p + 1 : Nat) : Int) := by rw [w32_s (by omega) (by omega)]; omega
    have hp6 : zB6 (p : Int) := by unfold zB6; omega
    obtain ⟨g1, p1, p2⟩ := zwgt_r hN K (f := (f : Int)) (p := (p : Int)) (hr := hr) (by unfold zB6; omega) hp6 hh
    rw [ea] at p1
    have ea1 : g1 86 = a := by rw [p2 86 (by decide)]; exact ea
    obtain ⟨g2, q1, q2⟩ := zwt_r hN (l := l) (S := S) (W := W) (f := (f : Int)) (p := (p : Int)) (hr := hr) hl (by omega) hp6 hh hS hW D N 0 (zCw a T f p hr) g1 (zKr_eq K (p2 86 (by decide)) (p2 88 (by decide))) ea1 (by omega) (by omega)
    have f2 : zFr [91, 92, 93] g g2 := p2.trans q2
    have hv := zw1_b (a := a) (T := T) (D := D) (l := l) (S := S) (W := W) (hr := hr) (f := (f : Int)) (p := (p : Int)) (by omega)
    have hv2 : zw1 a T D l S W hr (f : Int) (p : Int) = zwt (zFc a T W (f : Int) (p : Int) l hr) S D 0 (zCw a T f p hr) := rfl
    rw [← hv2] at q1
    have hbb : zdb (s.1 + zw1 a T D l S W hr (f : Int) (p : Int), s.2 + if decide ((f : Int) = F) = true then zw1 a T D l S W hr (f : Int) (p : Int) else 0) (B + 900000000) := by
      unfold zdb at hb ⊢
      dsimp only
      split <;> omega
    obtain ⟨g3, r1, r2⟩ := ih n (p + 1) (s.1 + zw1 a T D l S W hr (f : Int) (p : Int), s.2 + if decide ((f : Int) = F) = true then zw1 a T D l S W hr (f : Int) (p : Int) else 0) (B + 900000000) g2 (zKr_eq K (f2 86 (by decide)) (f2 88 (by decide))) (by rw [f2 86 (by decide)]; exact ea) (by omega) (by omega) hbb (by omega)
    refine ⟨g3, ?_, f2.trans r2⟩
    unfold sh_Mo_dark_L57
    rw [if_neg (c := 10 ≤ (p : Int)) (by omega)]
    unfold sh_Mo_weightOf
    rw [p1]
    simp only [zb2_some]
    refine (congrArg (fun o => zb2 (zb2 o fun y44 h45 => some (y44, h45)) fun r39 h40 => sh_Mo_dark_L57 N n (l : Int) hr (S : Int) (W : Int) F x6 (w64 (s.1 + r39)) (w64 (s.2 + (if (f : Int) = F then r39 else 0 : Int))) (f : Int) (w32 ((p : Int) + 1)) h40) q1).trans ?_
    simp only [zb2_some]
    rw [e1]
    unfold zdb at hb
    have u1 : w64 (s.1 + zw1 a T D l S W hr (f : Int) (p : Int)) = s.1 + zw1 a T D l S W hr (f : Int) (p : Int) := w64_s (by omega) (by omega)
    have u2 : w64 (s.2 + (if (f : Int) = F then zw1 a T D l S W hr (f : Int) (p : Int) else 0 : Int)) = s.2 + if decide ((f : Int) = F) = true then zw1 a T D l S W hr (f : Int) (p : Int) else 0 := by
      by_cases c : (f : Int) = F
      · rw [if_pos c, if_pos (decide_eq_true c)]
        exact w64_s (by omega) (by omega)
      · rw [if_neg c, if_neg (by simp [c])]
        exact w64_s (by omega) (by omega)
    rw [u1, u2]
    exact r1
theorem zdo_r {a : zFn} {T : Nat → Nat → List Int} {N : Nat} (hN : 1300 ≤ N) {l S W D A : Nat} {hr F x6 : Int} (hD : a 2 = D) (hA : a 0 = A) (hl : l < 4) (hh : zB6 hr) (hS : S < 256) (hW : W < 256) : ∀ (d n f : Nat) (s : Int × Int) (B : Int) (g : zHp), zKr g T → g 86 = a → f + d = A → d < n → zdb s B → B + 9000000000 * d ≤ 500000000000 →
    ∃ g1, sh_Mo_dark_L49 N n (l : Int) hr (S : Int) (W : Int) F x6 s.1 s.2 (f : Int) g = some (x6, (zdo (zw1 a T D l S W hr) F d f s).1, (zdo (zw1 a T D l S W hr) F d f s).2, g1) ∧ zFr [91, 92, 93] g g1 := by
  intro d
  induction d with
  | zero =>
    intro n f s B g K ea hp hn hb hB
    obtain ⟨n, rfl⟩ : ∃ m, n = m + 1 := ⟨n - 1, by omega⟩
    refine ⟨g, ?_, zFr.refl g⟩
    unfold sh_Mo_dark_L49
    rw [ea, if_pos (by omega)]
    rfl
  | succ d ih =>
    intro n f s B g K ea hp hn hb hB
    obtain ⟨n, rfl⟩ : ∃ m, n = m + 1 := ⟨n - 1, by omega⟩
    have b0 := K.1.1.1
    have b2 := K.1.1.2.2.1
    rw [ea] at b0 b2
    have e1 : w32 ((f : Int) + 1) = ((f + 1 : Nat) : Int) := by rw [w32_s (by omega) (by omega)]; omega
    obtain ⟨g1, p1, p4⟩ := zdi_r (T := T) (F := F) (x6 := x6) hN hD hl (f := f) (by omega) hh hS hW 10 N 0 s B g K ea (by omega) (by omega) hb (by omega)
    have hz := zdi_b (V := zw1 a T D l S W hr f) (q := decide ((f : Int) = F)) (fun p => zw1_b (by omega)) 10 0 s B hb
    obtain ⟨g2, r1, r4⟩ := ih n (f + 1) (zdi (zw1 a T D l S W hr f) (decide ((f : Int) = F)) 10 0 s) (B + 9000000000) g1 (zKr_eq K (p4 86 (by decide)) (p4 88 (by decide))) (by rw [p4 86 (by decide)]; exact ea) (by omega) (by omega) (by unfold zdb at hz ⊢; omega) (by omega)
    refine ⟨g2, ?_, p4.trans r4⟩
    unfold sh_Mo_dark_L49
    rw [ea, if_neg (c := a 0 ≤ (f : Int)) (by omega)]
    refine (congrArg (fun o => zb10 o fun y44 y45 y46 y47 y48 y49 y50 y51 y52 h53 => sh_Mo_dark_L49 N n y44 y45 y46 y47 y48 y49 y50 y51 (w32 (y52 + 1)) h53) p1).trans ?_
    simp only [zb10_some]
    rw [e1]
    exact r1
/-! the greatest divisor -/
theorem zgc_c (N : Nat) (h : zHp) : ∀ (m n i S G : Nat), S < 2 ^ m → m ≤ 40 → G < 2 ^ 40 → i + 2 * m < 128 → 2 * m < n → sh_Odds_divisor_L8 N h n (G : Int) (S : Int) (i : Int) = some ((Nat.gcd G S : Nat) : Int) := by
  intro m
  induction m with
  | zero =>
    intro n i S G hS hm hG hi hn
    obtain ⟨n, rfl⟩ : ∃ m, n = m + 1 := ⟨n - 1, by omega⟩
    obtain rfl : S = 0 := by simpa using hS
    unfold sh_Odds_divisor_L8
    simp only [zcmp_eq]
    rw [if_neg (by omega), if_pos (c := ((0 : Nat) : Int) = 0) rfl, Nat.gcd_zero_right]
  | succ m ih =>
    intro n i S G hS hm hG hi hn
    have hp : 2 ^ (m + 1) = 2 ^ m * 2 := Nat.pow_succ 2 m
    have hp2 : 2 ^ (m + 1) ≤ 2 ^ 40 := Nat.pow_le_pow_right (by decide) hm
    have st : ∀ n i G S : Nat, G < 2 ^ 40 → S < 2 ^ 40 → 0 < S → i < 127 → sh_Odds_divisor_L8 N h (n + 1) (G : Int) (S : Int) (i : Int) = sh_Odds_divisor_L8 N h n (S : Int) ((G % S : Nat) : Int) ((i + 1 : Nat) : Int) := by
      intro n i G S hG hS h0 hi
      conv => enter [1]; unfold sh_Odds_divisor_L8
      simp only [zcmp_eq]
      have hmod : G % S < S := Nat.mod_lt _ h0
      rw [if_neg (by omega), if_neg (by omega), if_pos (by omega), w32_s (by omega) (by omega), Int.tmod_eq_emod_of_nonneg (by omega), ← Int.natCast_emod, w64_s (by omega) (by omega)]
      rfl
    obtain ⟨n, rfl⟩ : ∃ m, n = m + 2 := ⟨n - 2, by omega⟩
    by_cases z : S = 0
    · subst z
      unfold sh_Odds_divisor_L8
      simp only [zcmp_eq]
      rw [if_neg (by omega), if_pos (c := ((0 : Nat) : Int) = 0) rfl, Nat.gcd_zero_right]
    · have hmod : G % S < S := Nat.mod_lt _ (by omega)
      rw [st (n + 1) i G S hG (by omega) (by omega) (by omega)]
      have hg : Nat.gcd G S = Nat.gcd S (G % S) := by
        rw [Nat.gcd_comm G S, Nat.gcd_rec S G, Nat.gcd_comm]
      rw [hg]
      by_cases z2 : G % S = 0
      · rw [z2]
        unfold sh_Odds_divisor_L8
        simp only [zcmp_eq]
        rw [if_neg (by omega), if_pos (c := ((0 : Nat) : Int) = 0) rfl, Nat.gcd_zero_right]
      · rw [st n (i + 1) S (G % S) (by omega) (by omega) (by omega) (by omega)]
        have hmod2 : S % (G % S) < G % S := Nat.mod_lt _ (by omega)
        have hle : S % (G % S) + G % S ≤ S := by
          have h1 := Nat.div_add_mod S (G % S)
          have h2 : 0 < S / (G % S) := Nat.div_pos (by omega) (by omega)
          have h3 : G % S ≤ G % S * (S / (G % S)) := Nat.le_mul_of_pos_right _ h2
          omega
        have hg2 : Nat.gcd S (G % S) = Nat.gcd (G % S) (S % (G % S)) := by
          rw [Nat.gcd_comm S (G % S), Nat.gcd_rec (G % S) S, Nat.gcd_comm]
        rw [hg2]
        exact ih n (i + 2) (S % (G % S)) (G % S) (by omega) (by omega) (by omega) (by omega) (by omega)
theorem zgc_r (N : Nat) (h : zHp) : ∀ (m n S G : Nat), S < 2 ^ m → m ≤ 40 → G < 2 ^ 40 → 2 * m < n → sh_Mo_common_L4 N h n (G : Int) (S : Int) = some ((Nat.gcd G S : Nat) : Int) := by
  intro m
  induction m with
  | zero =>
    intro n S G hS hm hG hn
    obtain ⟨n, rfl⟩ : ∃ m, n = m + 1 := ⟨n - 1, by omega⟩
    obtain rfl : S = 0 := by simpa using hS
    unfold sh_Mo_common_L4
    simp only [zcmp_eq]
    rw [if_pos (c := ((0 : Nat) : Int) = 0) rfl, Nat.gcd_zero_right]
  | succ m ih =>
    intro n S G hS hm hG hn
    have hp : 2 ^ (m + 1) = 2 ^ m * 2 := Nat.pow_succ 2 m
    have hp2 : 2 ^ (m + 1) ≤ 2 ^ 40 := Nat.pow_le_pow_right (by decide) hm
    have st : ∀ n G S : Nat, G < 2 ^ 40 → S < 2 ^ 40 → 0 < S → sh_Mo_common_L4 N h (n + 1) (G : Int) (S : Int) = sh_Mo_common_L4 N h n (S : Int) ((G % S : Nat) : Int) := by
      intro n G S hG hS h0
      conv => enter [1]; unfold sh_Mo_common_L4
      simp only [zcmp_eq]
      have hmod : G % S < S := Nat.mod_lt _ h0
      rw [if_neg (by omega), if_pos (by omega), Int.tmod_eq_emod_of_nonneg (by omega), ← Int.natCast_emod, w64_s (by omega) (by omega)]
    obtain ⟨n, rfl⟩ : ∃ m, n = m + 2 := ⟨n - 2, by omega⟩
    by_cases z : S = 0
    · subst z
      unfold sh_Mo_common_L4
      simp only [zcmp_eq]
      rw [if_pos (c := ((0 : Nat) : Int) = 0) rfl, Nat.gcd_zero_right]
    · have hmod : G % S < S := Nat.mod_lt _ (by omega)
      rw [st (n + 1) G S hG (by omega) (by omega)]
      have hg : Nat.gcd G S = Nat.gcd S (G % S) := by
        rw [Nat.gcd_comm G S, Nat.gcd_rec S G, Nat.gcd_comm]
      rw [hg]
      by_cases z2 : G % S = 0
      · rw [z2]
        unfold sh_Mo_common_L4
        simp only [zcmp_eq]
        rw [if_pos (c := ((0 : Nat) : Int) = 0) rfl, Nat.gcd_zero_right]
      · rw [st n S (G % S) (by omega) (by omega) (by omega)]
        have hmod2 : S % (G % S) < G % S := Nat.mod_lt _ (by omega)
        have hle : S % (G % S) + G % S ≤ S := by
          have h1 := Nat.div_add_mod S (G % S)
          have h2 : 0 < S / (G % S) := Nat.div_pos (by omega) (by omega)
          have h3 : G % S ≤ G % S * (S / (G % S)) := Nat.le_mul_of_pos_right _ h2
          omega
        have hg2 : Nat.gcd S (G % S) = Nat.gcd (G % S) (S % (G % S)) := by
          rw [Nat.gcd_comm S (G % S), Nat.gcd_rec (G % S) S, Nat.gcd_comm]
        rw [hg2]
        exact ih n (S % (G % S)) (G % S) (by omega) (by omega) (by omega) (by omega)
theorem zhi_8 : ∀ S : Nat, S < 256 → ∀ i : Nat, i < 32 → 8 ≤ i → bt (Int32.ofInt (S : Int)) i = false := by decide +kernel
theorem zwent {S : Nat} (hS : S < 256) {w : Int} (hw : zI32 w) (h : zand w (zxor (S : Int) (-1)) = 0) : 0 ≤ w ∧ w < 256 := by
  have e1 : (Int32.ofInt w &&& (Int32.ofInt (S : Int) ^^^ (-1))) = 0 := by
    have h2 : (Int32.ofInt w &&& Int32.ofInt (Int32.ofInt (S : Int) ^^^ Int32.ofInt (-1)).toInt).toInt = (0 : Int32).toInt := h
    rw [Int32.ofInt_toInt] at h2
    exact Int32.toInt_inj.mp h2
  have e2 : Int32.ofInt w = Int32.ofInt w &&& 255 := by
    refine b_ext (fun i hi => ?_)
    rw [b_and, b_255]
    by_cases c : i < 8
    · rw [decide_eq_true c, Bool.and_true]
    · rw [decide_eq_false c, Bool.and_false]
      have := congrArg (fun x => bt x i) e1
      simp only [b_and, b_xor, b_0, zhi_8 S hS i hi (by omega), b_m1 i hi, Bool.false_xor, Bool.and_true] at this
      exact this
  have e3 : zand w 255 = w := by
    have h4 : zand w 255 = (Int32.ofInt w &&& 255).toInt := rfl
    rw [h4, ← e2]
    exact w32_i hw
  have := zbyte_r w
  omega
theorem zshm_9 : ∀ d : Nat, d < 9 → 0 ≤ w32 (zshl 1 (d : Int) - 1) ∧ w32 (zshl 1 (d : Int) - 1) ≤ 255 := by decide +kernel
theorem zc_dark {h : zHp} (x1 x2 x3 x4 x5 x6 : Int) (hx4 : zI32 x4) (hI : zInv h) {N : Nat} (hN : 1300 ≤ N) : ∃ h2, zcas (sh_Ox_dark N x1 x2 x3 x4 x5 x6) (sh_Mo_dark N x1 x2 x3 x4 x5 x6) h = some (1, h2) ∧ zInv h2 := by
  have hI' := hI
  obtain ⟨⟨hy, hk⟩, -⟩ := hI'
  have e0 : h 16 2 = h 86 2 := hy.1.2.2.1
  have e1 : h 16 1 = h 86 1 := hy.1.2.1
  have e9 : h 1 0 = h 86 0 := hy.1.1
  have k0 := hk.1
  obtain ⟨D, hD⟩ : ∃ D : Nat, h 86 2 = D := ⟨(h 86 2).toNat, by omega⟩
  have hsm := zshm_9 D (by omega)
  have hour_z : ∀ v, (sh_Ox_isHour v = 0) = ¬ (0 ≤ v ∧ v ≤ 23) := fun v => within_z
  by_cases c1 : 0 ≤ x1 ∧ x1 < h 86 1
  case neg =>
    refine ⟨h, zcas_of (r := -1) (h1 := h) ?_ ?_, hI⟩
    · unfold sh_Ox_dark
      simp only [isField_z (h := h) (x := x1) (by omega), e1]
      rw [if_pos c1]
    · unfold sh_Mo_dark
      simp only [isFieldR_z (h := h) (x := x1) (by omega)]
      rw [if_pos c1]
  by_cases c2 : 0 ≤ x2 ∧ x2 ≤ 23
  case neg =>
    refine ⟨h, zcas_of (r := -1) (h1 := h) ?_ ?_, hI⟩
    · unfold sh_Ox_dark
      simp only [isField_z (h := h) (x := x1) (by omega), e1, hour_z]
      rw [if_neg (fun q => q c1), if_pos c2]
    · unfold sh_Mo_dark
      simp only [isFieldR_z (h := h) (x := x1) (by omega), isIn_z]
      rw [if_neg (fun q => q c1), if_pos c2]
  by_cases cc : (0 ≤ x5 ∧ x5 < h 86 0) ∧ (0 ≤ x6 ∧ x6 ≤ 1) ∧ (0 ≤ x3 ∧ x3 ≤ w32 (zshl 1 (D : Int) - 1)) ∧ zand x4 (zxor x3 (-1)) = 0
  case neg =>
    refine ⟨h, zcas_of (r := -1) (h1 := h) ?_ ?_, hI⟩
    · unfold sh_Ox_dark
      simp only [isField_z (h := h) (x := x1) (by omega), isFarm_z (h := h) (x := x5) (by omega), e1, hour_z, within_z, e9, oxen_s, e0, hD]
      rw [if_neg (fun q => q c1), if_neg (fun q => q c2)]
      by_cases c3 : 0 ≤ x5 ∧ x5 < h 86 0
      · rw [if_neg (fun q => q c3)]
        by_cases c4 : 0 ≤ x6 ∧ x6 ≤ 1
        · rw [if_neg (fun q => q c4)]
          by_cases c5 : 0 ≤ x3 ∧ x3 ≤ w32 (zshl 1 (D : Int) - 1)
          · rw [if_neg (fun q => q c5), if_neg (fun q => cc ⟨c3, c4, c5, q⟩)]
          · rw [if_pos c5]
        · rw [if_pos c4]
      · rw [if_pos c3]
    · unfold sh_Mo_dark
      simp only [isFieldR_z (h := h) (x := x1) (by omega), isFarmR_z (h := h) (x := x5) (by omega), isIn_z, hD]
      rw [if_neg (fun q => q c1), if_neg (fun q => q c2)]
      by_cases c5 : 0 ≤ x3 ∧ x3 ≤ w32 (zshl 1 (D : Int) - 1)
      · rw [if_neg (fun q => q c5)]
        by_cases c7 : 0 ≤ x4 ∧ x4 ≤ 255
        · rw [if_neg (fun q => q c7)]
          by_cases c6 : zand x4 (zxor x3 (-1)) = 0
          · rw [if_pos c6]
            by_cases c3 : 0 ≤ x5 ∧ x5 < h 86 0
            · rw [if_neg (fun q => q c3), if_pos (fun q => cc ⟨c3, q, c5, c6⟩)]
            · rw [if_pos c3]
          · rw [if_neg c6]
        · rw [if_pos c7]
      · rw [if_pos c5]
  obtain ⟨c3, c4, c5, c6⟩ := cc
  obtain ⟨T, K, R⟩ := zK_of hI
  obtain ⟨l, rfl⟩ : ∃ n : Nat, x1 = n := ⟨x1.toNat, by omega⟩
  obtain ⟨S, rfl⟩ : ∃ n : Nat, x3 = n := ⟨x3.toNat, by omega⟩
  have hS : S < 256 := by omega
  have hw := zwent hS hx4 c6
  obtain ⟨W, rfl⟩ : ∃ n : Nat, x4 = n := ⟨x4.toNat, by omega⟩
  obtain ⟨A, hA⟩ : ∃ A : Nat, h 86 0 = A := ⟨(h 86 0).toNat, by omega⟩
  have hh : zB6 x2 := by unfold zB6; omega
  have f0 : zFr [33, 35, 37, 77] h (zst (zst h 77 2 0) 77 3 0) := ((zFr.refl h).st (by decide)).st (by decide)
  have hb0 : zdb (0, 0) 0 := ⟨Int.le_refl _, Int.le_refl _, Int.le_refl _⟩
  obtain ⟨h1, p1, p2, p3, p4⟩ := zdo_c (T := T) (F := x5) hN (l := l) (S := S) (W := W) hD hA (by omega) hh hS (by omega) A N 0 (0, 0) 0 (zst (zst h 77 2 0) 77 3 0) (zKc_fr K f0 (by decide)) (by omega) (by omega) (by simp (disch := omega) only [zst_if, zup1_ne, zup1_eq, w32_s, rget_in, rput_in, zgrd, Nat.reduceEqDiff, Nat.reduceAdd, ↓reduceIte, Int.reduceToNat, zb1_some, zb2_some, zb3_some, zb4_some, zb5_some, Int.toNat_natCast, true_and, and_true]) (by simp (disch := omega) only [zst_if, zup1_ne, zup1_eq, w32_s, rget_in, rput_in, zgrd, Nat.reduceEqDiff, Nat.reduceAdd, ↓reduceIte, Int.reduceToNat, zb1_some, zb2_some, zb3_some, zb4_some, zb5_some, Int.toNat_natCast, true_and, and_true]) hb0 (by omega)
  have f1 : zFr [33, 35, 37, 77] h h1 := f0.trans p4
  have f86 := f1 86 (by decide)
  obtain ⟨g1, q1, q2⟩ := zdo_r (T := T) (F := x5) (x6 := x6) hN (l := l) (S := S) (W := W) hD hA (by omega) hh hS (by omega) A N 0 (0, 0) 0 h1 (zKr_eq R f86 (f1 88 (by decide))) f86 (by omega) (by omega) hb0 (by omega)
  have hz := zdo_b (V := zw1 (h 86) T D l S W x2) (F := x5) (fun f p => zw1_b (by omega)) A 0 (0, 0) 0 hb0
  generalize hs : zdo (zw1 (h 86) T D l S W x2) x5 A 0 (0, 0) = s at *
  obtain ⟨all, own⟩ := s
  unfold zdb at hz
  dsimp only at p2 p3 q1 hz
  obtain ⟨al, rfl⟩ : ∃ n : Nat, all = n := ⟨all.toNat, by omega⟩
  obtain ⟨ow, rfl⟩ : ∃ n : Nat, own = n := ⟨own.toNat, by omega⟩
  have p1' : sh_Odds_weighAll N (l : Int) x2 (S : Int) (W : Int) x5 h = some h1 := by
    unfold sh_Odds_weighAll
    exact congrArg (fun o => zb1 o fun h58 => some h58) p1
  have f2 : zQ h g1 := (zQ_fr f1 (by decide)).trans (zQ_fr q2 (by decide))
  have ec : ∀ r : Int, ∀ F1 : zHp → Option (Int × zHp), True := fun _ _ => trivial
  -- the two calls, up to their end
  have eO : sh_Ox_dark N (l : Int) x2 (S : Int) (W : Int) x5 x6 h = if (al : Int) = 0 then some ((-1), h1) else (if x6 = 0 then zb1 (sh_Odds_lowestUpper N h1) fun r51 => some (r51, h1) else zb1 (sh_Odds_lowestLower N h1) fun r45 => some (r45, h1)) := by
    unfold sh_Ox_dark
    simp only [isField_z (h := h) (x := (l : Int)) (by omega), isFarm_z (h := h) (x := x5) (by omega), e1, hour_z, within_z, e9, oxen_s, e0, hD, zcmp_eq]
    rw [if_neg (fun q => q c1), if_neg (fun q => q c2), if_neg (fun q => q c3), if_neg (fun q => q c4), if_neg (fun q => q c5), if_pos c6, p1']
    simp only [zb1_some]
    rw [p2]
  have eM : sh_Mo_dark N (l : Int) x2 (S : Int) (W : Int) x5 x6 h1 = if (al : Int) = 0 then some ((-1), g1) else zb1 (sh_Mo_common N (ow : Int) (al : Int) g1) fun r69 => if ¬ r69 = 0 then some (w64 (((if x6 = 0 then (ow : Int) else (al : Int) : Int)).tdiv r69), g1) else none := by
    unfold sh_Mo_dark
    simp only [isFieldR_z (h := h1) (x := (l : Int)) (by rw [f86]; omega), isFarmR_z (h := h1) (x := x5) (by rw [f86]; omega), isIn_z, f86, hD, zcmp_eq]
    rw [if_neg (fun q => q c1), if_neg (fun q => q c2), if_neg (fun q => q c5), if_neg (by omega), if_pos c6, if_neg (fun q => q c3), if_neg (fun q => q c4)]
    refine (congrArg (fun o => zb4 o fun y55 y56 y57 h58 => if y56 = 0 then some ((-1), h58) else zb1 (sh_Mo_common N y57 y56 h58) fun r69 => if ¬ r69 = 0 then some (w64 (((if y55 = 0 then y57 else y56 : Int)).tdiv r69), h58) else none) q1).trans ?_
    simp only [zb4_some]
  by_cases ca : al = 0
  · refine ⟨g1, zcas_of (r := -1) (h1 := h1) ?_ ?_, zqry hI f2⟩
    · rw [eO, if_pos (by omega)]
    · rw [eM, if_pos (by omega)]
  · have hg : 0 < Nat.gcd al ow := Nat.gcd_pos_of_pos_left ow (by omega)
    have e40 : (2 : Nat) ^ 40 = 1099511627776 := by decide
    have hd : sh_Odds_divisor N h1 = some ((Nat.gcd al ow : Nat) : Int) := by
      unfold sh_Odds_divisor
      rw [p2, p3]
      refine (congrArg (fun o => zb1 o fun y5 => some y5) (zgc_c N h1 40 N 0 ow al (by omega) (by omega) (by omega) (by omega) (by omega))).trans ?_
      simp only [zb1_some]
    have hm : sh_Mo_common N (ow : Int) (al : Int) g1 = some ((Nat.gcd al ow : Nat) : Int) := by
      unfold sh_Mo_common
      rw [Nat.gcd_comm]
      refine (congrArg (fun o => zb1 o fun y5 => some y5) (zgc_r N g1 40 N al ow (by omega) (by omega) (by omega) (by omega))).trans ?_
      simp only [zb1_some]
    refine ⟨g1, zcas_of (r := w64 ((if x6 = 0 then (ow : Int) else (al : Int) : Int).tdiv ((Nat.gcd al ow : Nat) : Int))) (h1 := h1) ?_ ?_, zqry hI f2⟩
    · rw [eO, if_neg (by omega)]
      by_cases c : x6 = 0
      · rw [if_pos c, if_pos c]
        unfold sh_Odds_lowestUpper
        rw [hd]
        simp only [zb1_some, zcmp_eq]
        rw [if_neg (by omega), if_pos (by omega), p3]
        simp only [zb1_some]
      · rw [if_neg c, if_neg c]
        unfold sh_Odds_lowestLower
        rw [hd]
        simp only [zb1_some, zcmp_eq]
        rw [if_neg (by omega), if_pos (by omega), p2]
        simp only [zb1_some]
    · rw [eM, if_neg (by omega), hm]
      simp only [zb1_some]
      rw [if_pos (by omega)]
