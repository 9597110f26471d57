/-! PURE: frames, and farm, field, ox -/
/-- the class changes its yard alone -/
def zMc (h h' : zHp) : Prop := ∀ id, zScr id = false → (id = 0 ∨ 23 < id) → h' id = h id
/-- the reference changes its row alone -/
def zMr (h h' : zHp) : Prop := ∀ id, zScr id = false → id ≠ 86 → h' id = h id
theorem zMc.refl (h : zHp) : zMc h h := fun _ _ _ => rfl
theorem zMr.refl (h : zHp) : zMr h h := fun _ _ _ => rfl
theorem zMc.trans {h h1 h2 : zHp} (a : zMc h h1) (b : zMc h1 h2) : zMc h h2 := fun id q r => (b id q r).trans (a id q r)
theorem zMr.trans {h h1 h2 : zHp} (a : zMr h h1) (b : zMr h1 h2) : zMr h h2 := fun id q r => (b id q r).trans (a id q r)
theorem zQ.mc {h h1 : zHp} (a : zQ h h1) : zMc h h1 := fun id q _ => a id q
theorem zQ.mr {h h1 : zHp} (a : zQ h h1) : zMr h h1 := fun id q _ => a id q
theorem zMc.st {h h1 : zHp} {o i : Nat} {v : Int} (a : zMc h h1) (ho : 1 ≤ o ∧ o ≤ 23) : zMc h (zst h1 o i v) := by
  intro id q r
  rw [zst_if, if_neg (by omega)]
  exact a id q r
theorem zMc.rp {h h1 : zHp} {o n : Nat} {i v : Int} (a : zMc h h1) (ho : 1 ≤ o ∧ o ≤ 23) : zMc h (rput h1 o n i v) := by
  intro id q r
  rw [rput_ne (by omega)]
  exact a id q r
theorem zMr.st {h h1 : zHp} {i : Nat} {v : Int} (a : zMr h h1) : zMr h (zst h1 86 i v) := by
  intro id q r
  rw [zst_if, if_neg r]
  exact a id q r
theorem zYc_eq0 {h h1 : zHp} {a : zFn} (hy : zYc 0 h a) (e : ∀ id, 1 ≤ id → id ≤ 23 → h1 id = h id) : zYc 0 h1 a := by
  unfold zYc at hy ⊢
  simp only [Nat.reduceAdd] at hy ⊢
  rw [e 1 (by omega) (by omega), e 3 (by omega) (by omega), e 5 (by omega) (by omega), e 7 (by omega) (by omega), e 9 (by omega) (by omega), e 11 (by omega) (by omega), e 13 (by omega) (by omega), e 16 (by omega) (by omega), e 17 (by omega) (by omega), e 19 (by omega) (by omega), e 21 (by omega) (by omega), e 23 (by omega) (by omega)]
  exact hy
theorem zYc_eq4 {h h1 : zHp} {a : zFn} (hy : zYc 40 h a) (e : ∀ id, 41 ≤ id → id ≤ 63 → h1 id = h id) : zYc 40 h1 a := by
  unfold zYc at hy ⊢
  simp only [Nat.reduceAdd] at hy ⊢
  rw [e 41 (by omega) (by omega), e 43 (by omega) (by omega), e 45 (by omega) (by omega), e 47 (by omega) (by omega), e 49 (by omega) (by omega), e 51 (by omega) (by omega), e 53 (by omega) (by omega), e 56 (by omega) (by omega), e 57 (by omega) (by omega), e 59 (by omega) (by omega), e 61 (by omega) (by omega), e 63 (by omega) (by omega)]
  exact hy
theorem zScr_r {id : Nat} (a : 1 ≤ id) (b : id ≤ 32) : zScr id = false := by
  have h : ∀ k, k < 33 → zScr k = false := by decide
  exact h id (by omega)
theorem zScr_k {id : Nat} (a : 41 ≤ id) (b : id ≤ 63) : zScr id = false := by
  have h : ∀ k, k < 64 → 41 ≤ k → zScr k = false := by decide
  exact h id (by omega) a
theorem zTx_eq {h h1 : zHp} {T : Nat → Nat → List Int} (ht : zTx h T) (e : ∀ id, id = 28 ∨ id = 30 ∨ id = 32 ∨ id = 88 → h1 id = h id) (e4 : h1 86 4 ≤ h 86 4) : zTx h1 T := by
  intro t h4 c hc
  have := ht t (by omega) c hc
  unfold zTw zTv at this ⊢
  rw [e 28 (by omega), e 30 (by omega), e 32 (by omega), e 88 (by omega)]
  exact this
/-- the class changed its yard, the reference its row: the invariant stands -/
theorem zmut {h h1 h2 : zHp} {a : zFn} (hI : zInv h) (hc : zMc h h1) (hy : zYc 0 h1 a) (hr : zMr h1 h2) (e : h2 86 = a) (hk : zOk a) (e4 : a 4 = h 86 4) : zInv h2 := by
  obtain ⟨-, ⟨i1, i2⟩, i3, ⟨T, i4⟩, i5, i6, i7⟩ := hI
  have f : ∀ id, zScr id = false → 23 < id → id ≠ 86 → h2 id = h id := fun id q r s => (hr id q s).trans (hc id q (Or.inr r))
  have f0 : h2 0 = h 0 := (hr 0 rfl (by decide)).trans (hc 0 rfl (Or.inl rfl))
  refine ⟨⟨?_, ?_⟩, ⟨?_, ?_⟩, ?_, ⟨T, ?_⟩, ?_, ?_, ?_⟩
  · rw [e]
    exact zYc_eq0 hy (fun id p q => hr id (zScr_r p (by omega)) (by omega))
  · rw [e]; exact hk
  · rw [f 87 rfl (by decide) (by decide)]
    exact zYc_eq4 i1 (fun id p q => f id (zScr_k p q) (by omega) (by omega))
  · rw [f 87 rfl (by decide) (by decide)]; exact i2
  · rw [f 87 rfl (by decide) (by decide), e, e4]; exact i3
  · refine zTx_eq i4 (fun id q => ?_) (by rw [e, e4]; exact Int.le_refl _)
    rcases q with rfl | rfl | rfl | rfl
    · exact f _ rfl (by decide) (by decide)
    · exact f _ rfl (by decide) (by decide)
    · exact f _ rfl (by decide) (by decide)
    · exact f _ rfl (by decide) (by decide)
  · rw [f0, f 85 rfl (by decide) (by decide), f 25 rfl (by decide) (by decide), f 89 rfl (by decide) (by decide)]; exact i5
  · rw [f 67 rfl (by decide) (by decide), f 85 rfl (by decide) (by decide)]; exact i6
  · rw [f 67 rfl (by decide) (by decide), f 85 rfl (by decide) (by decide)]; exact i7
/-- scratch alone was changed -/
theorem zqry {h h2 : zHp} (hI : zInv h) (hq : zQ h h2) : zInv h2 :=
  zmut hI (hq.mc) (zYc_eq0 hI.1.1 (fun id p q => hq id (zScr_r p (by omega)))) (zMr.refl h2) (hq 86 rfl) hI.1.2 rfl
/-- a case of the law: both answers are one -/
def zcas (F G : zHp → Option (Int × zHp)) : zHp → Option (Int × zHp) := fun h => zb2 (F h) fun r h1 => zb2 (G h1) fun q h2 => if r = q then some (1, h2) else some (0, h2)
theorem zcas_of {F G : zHp → Option (Int × zHp)} {h h1 h2 : zHp} {r : Int} (hF : F h = some (r, h1)) (hG : G h1 = some (r, h2)) : zcas F G h = some (1, h2) := by
  show zb2 (F h) _ = _
  rw [hF]
  show zb2 (G h1) _ = _
  rw [hG]
  exact if_pos rfl
theorem within_1 {x a b : Int} (h : a ≤ x ∧ x ≤ b) : sh_Ox_within x a b = 1 := by
  unfold sh_Ox_within
  rw [if_neg (by omega), if_neg (by omega)]
theorem within_0 {x a b : Int} (h : ¬ (a ≤ x ∧ x ≤ b)) : sh_Ox_within x a b = 0 := by
  unfold sh_Ox_within
  by_cases h1 : x < a
  · rw [if_pos h1]
  · rw [if_neg h1, if_pos (by omega)]
theorem within_z {x a b : Int} : (sh_Ox_within x a b = 0) = ¬ (a ≤ x ∧ x ≤ b) := by
  apply propext
  by_cases h : a ≤ x ∧ x ≤ b
  · rw [within_1 h]; exact ⟨fun q => absurd q (by decide), fun q => absurd h q⟩
  · rw [within_0 h]; exact ⟨fun _ => h, fun _ => rfl⟩
theorem isIn_z {x a b : Int} : (sh_Mo_isIn x a b = 0) = ¬ (a ≤ x ∧ x ≤ b) := within_z
theorem isPlace_z {x y : Int} : (sh_Ox_isPlace x y = 0) = ¬ ((0 ≤ x ∧ x ≤ 19) ∧ (0 ≤ y ∧ y ≤ 19)) := by
  apply propext
  unfold sh_Ox_isPlace
  by_cases h : 0 ≤ x ∧ x ≤ 19
  · by_cases g : 0 ≤ y ∧ y ≤ 19
    · rw [within_1 h, within_1 g]; exact ⟨fun q => absurd q (by decide), fun q => absurd ⟨h, g⟩ q⟩
    · rw [within_1 h, within_0 g]; exact ⟨fun _ q => g q.2, fun _ => rfl⟩
  · rw [within_0 h]; exact ⟨fun _ q => h q.1, fun _ => rfl⟩
theorem isIn_w (x a b : Int) : sh_Mo_isIn x a b = sh_Ox_within x a b := rfl
theorem zgrd {α : Type} {e n : Int} {a b : α} (h0 : 0 ≤ e) (h1 : e < n) : (if 0 ≤ e ∧ e < n then a else b) = a := if_pos ⟨h0, h1⟩
theorem zSp_hi {c a a' : zFn} {s x : Nat} (h : zSp c a s x) (hx : 41 ≤ x) (e : ∀ j, 41 ≤ j → a' j = a j) : zSp c a' s x := by
  obtain ⟨⟨h1, h2, h3⟩, h4, h5, h6⟩ := h
  refine ⟨⟨by rw [e _ (by omega)]; exact h1, by rw [e _ (by omega)]; exact h2, by rw [e _ (by omega)]; exact h3⟩, fun f hf => by rw [e _ (by omega)]; exact h4 f hf, fun o ho => ⟨by rw [e _ (by omega)]; exact (h5 o ho).1, fun w hw => by rw [e _ (by omega)]; exact (h5 o ho).2 w hw⟩, fun o ho w h1 h2 => ?_⟩
  rw [e _ (by omega)] at ho ⊢
  exact h6 o ho w h1 h2
theorem zOx_mono {F f n F' f' n' o hm ow ni pl mt : Int} (h : zOx F f n o hm ow ni pl mt) (a : F ≤ F') (b : f ≤ f') (c : n ≤ n') : zOx F' f' n' o hm ow ni pl mt := by
  unfold zOx at h ⊢
  refine ⟨⟨?_, ?_⟩, ⟨?_, ?_⟩, ⟨?_, ?_⟩, ?_, ?_, ?_, ?_, ?_⟩ <;> omega
/-- the steps' part of zOk -/
def zOs (a : zFn) : Prop := ∀ k : Nat, (k : Int) < a 7 → ((0 ≤ a (121 + 47 * k) ∧ a (121 + 47 * k) ≤ 23) ∧ (0 ≤ a (122 + 47 * k) ∧ a (122 + 47 * k) ≤ a 1) ∧ (0 ≤ a (123 + 47 * k) ∧ a (123 + 47 * k) ≤ a 2)) ∧
    (∀ f, f < 4 → 0 ≤ a (124 + 47 * k + f) ∧ a (124 + 47 * k + f) ≤ 99) ∧
    (∀ o : Nat, (o : Int) < a (123 + 47 * k) → zOx (a 0) (a (122 + 47 * k)) (a (123 + 47 * k)) o (a (128 + 47 * k + 5 * o)) (a (129 + 47 * k + 5 * o)) (a (130 + 47 * k + 5 * o)) (a (131 + 47 * k + 5 * o)) (a (132 + 47 * k + 5 * o)))
theorem zOk.s {a : zFn} (h : zOk a) : zOs a := h.2.2.2.2.2
theorem zOs_grow {a a' : zFn} (h : zOs a) (e7 : a' 7 = a 7) (e : ∀ j, 121 ≤ j → a' j = a j) (g0 : a 0 ≤ a' 0) (g1 : a 1 ≤ a' 1) (g2 : a 2 ≤ a' 2) : zOs a' := by
  intro k hk
  rw [e7] at hk
  obtain ⟨⟨h1, h2, h3⟩, h4, h5⟩ := h k hk
  refine ⟨⟨?_, ?_, ?_⟩, fun f hf => ?_, fun o ho => ?_⟩
  · rw [e _ (by omega)]; exact h1
  · rw [e _ (by omega)]; exact ⟨h2.1, by omega⟩
  · rw [e _ (by omega)]; exact ⟨h3.1, by omega⟩
  · rw [e _ (by omega)]; exact h4 f hf
  · rw [e (123 + 47 * k) (by omega)] at ho ⊢
    rw [e (122 + 47 * k) (by omega), e (128 + 47 * k + 5 * o) (by omega), e (129 + 47 * k + 5 * o) (by omega), e (130 + 47 * k + 5 * o) (by omega), e (131 + 47 * k + 5 * o) (by omega), e (132 + 47 * k + 5 * o) (by omega)]
    exact zOx_mono (h5 o ho) g0 (Int.le_refl _) (Int.le_refl _)
theorem zc_farm {h : zHp} (x y p : Int) (hI : zInv h) (N : Nat) : ∃ h2, zcas (sh_Ox_farm x y p) (sh_Mo_farm N x y p) h = some (1, h2) ∧ zInv h2 := by
  have hI' := hI
  obtain ⟨⟨hy, hk⟩, -⟩ := hI'
  have e0 : h 1 0 = h 86 0 := hy.1.1
  have k0 := hk.1.1
  by_cases c : h 86 0 < 5 ∧ (0 ≤ x ∧ x ≤ 19) ∧ (0 ≤ y ∧ y ≤ 19) ∧ (0 ≤ p ∧ p ≤ 9)
  · obtain ⟨c0, cx, cy, cp⟩ := c
    obtain ⟨n, hn⟩ : ∃ n : Nat, h 86 0 = n := ⟨(h 86 0).toNat, by omega⟩
    have hF : sh_Ox_farm x y p h = some ((n : Int), zst (zst (zst (zst h 3 n x) 5 n y) 7 n p) 1 0 (n + 1)) := by
      unfold sh_Ox_farm sh_Ox_isPlace sh_Ox_isDigit
      rw [if_neg (by omega), within_1 cx, within_1 cy, within_1 cp]
      simp only [e0, hn]
      rw [if_neg (by decide), if_neg (by decide)]
      simp (disch := omega) only [zst_if, zup1_ne, zup1_eq, w32_s, rget_in, rput_in, zgrd, Nat.reduceEqDiff, Nat.reduceAdd, ↓reduceIte, Int.reduceToNat, zb1_some, zb2_some, zb3_some, zb4_some, zb5_some, Int.toNat_natCast, true_and, and_true]
    have e1 : ((10 : Int) + 3 * n).toNat = 10 + 3 * n := by omega
    have e2 : ((10 : Int) + 3 * n + 1).toNat = 11 + 3 * n := by omega
    have e3 : ((10 : Int) + 3 * n + 2).toNat = 12 + 3 * n := by omega
    have e4 : (n : Int) + 1 - 1 = n := by omega
    refine ⟨_, zcas_of hF (h2 := ?_) ?_, ?_⟩
    · exact zst (zst (zst (zst (zst (zst (zst (zst h 3 n x) 5 n y) 7 n p) 1 0 (n + 1)) 86 (10 + 3 * n) x) 86 (11 + 3 * n) y) 86 (12 + 3 * n) p) 86 0 (n + 1)
    · unfold sh_Mo_farm
      simp only [isIn_w, within_1 cx, within_1 cy, within_1 cp]
      rw [if_neg (by decide), if_neg (by decide), if_neg (by decide), if_neg (by simp (disch := omega) only [zst_if, zup1_ne, zup1_eq, w32_s, rget_in, rput_in, zgrd, Nat.reduceEqDiff, Nat.reduceAdd, ↓reduceIte, Int.reduceToNat, zb1_some, zb2_some, zb3_some, zb4_some, zb5_some, Int.toNat_natCast, true_and, and_true]; omega)]
      simp (disch := omega) only [zst_if, zup1_ne, zup1_eq, w32_s, rget_in, rput_in, zgrd, Nat.reduceEqDiff, Nat.reduceAdd, ↓reduceIte, Int.reduceToNat, zb1_some, zb2_some, zb3_some, zb4_some, zb5_some, Int.toNat_natCast, true_and, and_true, hn, e1, e2, e3, e4]
    · refine zmut hI (h1 := zst (zst (zst (zst h 3 n x) 5 n y) 7 n p) 1 0 (n + 1)) (a := zup1 (zup1 (zup1 (zup1 (h 86) (10 + 3 * n) x) (11 + 3 * n) y) (12 + 3 * n) p) 0 (n + 1)) ?_ ?_ ?_ ?_ ?_ ?_
      · exact ((((zMc.refl h).st (by omega)).st (by omega)).st (by omega)).st (by omega)
      · obtain ⟨y1, y2, y3, y4, y5, y6⟩ := hy
        simp only [Nat.reduceAdd] at y1 y2 y3 y4 y5 y6
        refine ⟨?_, ?_, ?_, ?_, ?_, ?_⟩
        · simp (disch := omega) only [zst_if, zup1_ne, zup1_eq, w32_s, rget_in, rput_in, zgrd, Nat.reduceEqDiff, Nat.reduceAdd, ↓reduceIte, Int.reduceToNat, zb1_some, zb2_some, zb3_some, zb4_some, zb5_some, Int.toNat_natCast, true_and, and_true]
          exact y1.2
        · intro k hk
          simp (disch := omega) only [zst_if, zup1_ne, zup1_eq, w32_s, rget_in, rput_in, zgrd, Nat.reduceEqDiff, Nat.reduceAdd, ↓reduceIte, Int.reduceToNat, zb1_some, zb2_some, zb3_some, zb4_some, zb5_some, Int.toNat_natCast, true_and, and_true]
          by_cases q : k = n
          · subst q
            simp (disch := omega) only [zst_if, zup1_ne, zup1_eq, w32_s, rget_in, rput_in, zgrd, Nat.reduceEqDiff, Nat.reduceAdd, ↓reduceIte, Int.reduceToNat, zb1_some, zb2_some, zb3_some, zb4_some, zb5_some, Int.toNat_natCast, true_and, and_true]
          · simp (disch := omega) only [zst_if, zup1_ne, zup1_eq, w32_s, rget_in, rput_in, zgrd, Nat.reduceEqDiff, Nat.reduceAdd, ↓reduceIte, Int.reduceToNat, zb1_some, zb2_some, zb3_some, zb4_some, zb5_some, Int.toNat_natCast, true_and, and_true]
            exact y2 k hk
        · intro k hk
          simp (disch := omega) only [zst_if, zup1_ne, zup1_eq, w32_s, rget_in, rput_in, zgrd, Nat.reduceEqDiff, Nat.reduceAdd, ↓reduceIte, Int.reduceToNat, zb1_some, zb2_some, zb3_some, zb4_some, zb5_some, Int.toNat_natCast, true_and, and_true]
          exact y3 k hk
        · intro o ho w hw
          simp (disch := omega) only [zst_if, zup1_ne, zup1_eq, w32_s, rget_in, rput_in, zgrd, Nat.reduceEqDiff, Nat.reduceAdd, ↓reduceIte, Int.reduceToNat, zb1_some, zb2_some, zb3_some, zb4_some, zb5_some, Int.toNat_natCast, true_and, and_true]
          exact y4 o ho w hw
        · intro k hk
          simp (disch := omega) only [zst_if, zup1_ne, zup1_eq, w32_s, rget_in, rput_in, zgrd, Nat.reduceEqDiff, Nat.reduceAdd, ↓reduceIte, Int.reduceToNat, zb1_some, zb2_some, zb3_some, zb4_some, zb5_some, Int.toNat_natCast, true_and, and_true]
          exact y5 k hk
        · intro k hk
          simp (disch := omega) only [zst_if, zup1_ne, zup1_eq, w32_s, rget_in, rput_in, zgrd, Nat.reduceEqDiff, Nat.reduceAdd, ↓reduceIte, Int.reduceToNat, zb1_some, zb2_some, zb3_some, zb4_some, zb5_some, Int.toNat_natCast, true_and, and_true] at hk ⊢
          exact zSp_hi (y6 k hk) (by omega) (fun j hj => by simp (disch := omega) only [zst_if, zup1_ne, zup1_eq, w32_s, rget_in, rput_in, zgrd, Nat.reduceEqDiff, Nat.reduceAdd, ↓reduceIte, Int.reduceToNat, zb1_some, zb2_some, zb3_some, zb4_some, zb5_some, Int.toNat_natCast, true_and, and_true])
      · exact ((((zMr.refl _).st).st).st).st
      · simp (disch := omega) only [zst_if, zup1_ne, zup1_eq, w32_s, rget_in, rput_in, zgrd, Nat.reduceEqDiff, Nat.reduceAdd, ↓reduceIte, Int.reduceToNat, zb1_some, zb2_some, zb3_some, zb4_some, zb5_some, Int.toNat_natCast, true_and, and_true]
      · obtain ⟨k1, k2, k3, k4, k5, k6⟩ := hk
        refine ⟨?_, ?_, ?_, ?_, ?_, zOs_grow k6 ?_ ?_ ?_ ?_ ?_⟩
        · simp (disch := omega) only [zst_if, zup1_ne, zup1_eq, w32_s, rget_in, rput_in, zgrd, Nat.reduceEqDiff, Nat.reduceAdd, ↓reduceIte, Int.reduceToNat, zb1_some, zb2_some, zb3_some, zb4_some, zb5_some, Int.toNat_natCast, true_and, and_true]
          refine ⟨⟨by omega, by omega⟩, k1.2⟩
        · intro k hk
          by_cases q : k = n
          · subst q
            simp (disch := omega) only [zst_if, zup1_ne, zup1_eq, w32_s, rget_in, rput_in, zgrd, Nat.reduceEqDiff, Nat.reduceAdd, ↓reduceIte, Int.reduceToNat, zb1_some, zb2_some, zb3_some, zb4_some, zb5_some, Int.toNat_natCast, true_and, and_true]
            exact ⟨cx, cy, cp⟩
          · simp (disch := omega) only [zst_if, zup1_ne, zup1_eq, w32_s, rget_in, rput_in, zgrd, Nat.reduceEqDiff, Nat.reduceAdd, ↓reduceIte, Int.reduceToNat, zb1_some, zb2_some, zb3_some, zb4_some, zb5_some, Int.toNat_natCast, true_and, and_true]
            exact k2 k hk
        · intro k hk
          simp (disch := omega) only [zst_if, zup1_ne, zup1_eq, w32_s, rget_in, rput_in, zgrd, Nat.reduceEqDiff, Nat.reduceAdd, ↓reduceIte, Int.reduceToNat, zb1_some, zb2_some, zb3_some, zb4_some, zb5_some, Int.toNat_natCast, true_and, and_true]
          exact k3 k hk
        · intro o ho
          simp (disch := omega) only [zst_if, zup1_ne, zup1_eq, w32_s, rget_in, rput_in, zgrd, Nat.reduceEqDiff, Nat.reduceAdd, ↓reduceIte, Int.reduceToNat, zb1_some, zb2_some, zb3_some, zb4_some, zb5_some, Int.toNat_natCast, true_and, and_true] at ho ⊢
          have := k4 o ho
          exact ⟨zOx_mono this.1 (by omega) (by omega) (by omega), ⟨this.2.1.1, by omega⟩, this.2.2⟩
        · intro k hk
          simp (disch := omega) only [zst_if, zup1_ne, zup1_eq, w32_s, rget_in, rput_in, zgrd, Nat.reduceEqDiff, Nat.reduceAdd, ↓reduceIte, Int.reduceToNat, zb1_some, zb2_some, zb3_some, zb4_some, zb5_some, Int.toNat_natCast, true_and, and_true] at hk ⊢
          have := k5 k hk
          exact ⟨this.1, this.2.1, by omega⟩
        · simp (disch := omega) only [zst_if, zup1_ne, zup1_eq, w32_s, rget_in, rput_in, zgrd, Nat.reduceEqDiff, Nat.reduceAdd, ↓reduceIte, Int.reduceToNat, zb1_some, zb2_some, zb3_some, zb4_some, zb5_some, Int.toNat_natCast, true_and, and_true]
        · intro j hj
          simp (disch := omega) only [zst_if, zup1_ne, zup1_eq, w32_s, rget_in, rput_in, zgrd, Nat.reduceEqDiff, Nat.reduceAdd, ↓reduceIte, Int.reduceToNat, zb1_some, zb2_some, zb3_some, zb4_some, zb5_some, Int.toNat_natCast, true_and, and_true]
        · simp (disch := omega) only [zst_if, zup1_ne, zup1_eq, w32_s, rget_in, rput_in, zgrd, Nat.reduceEqDiff, Nat.reduceAdd, ↓reduceIte, Int.reduceToNat, zb1_some, zb2_some, zb3_some, zb4_some, zb5_some, Int.toNat_natCast, true_and, and_true]; omega
        · simp (disch := omega) only [zst_if, zup1_ne, zup1_eq, w32_s, rget_in, rput_in, zgrd, Nat.reduceEqDiff, Nat.reduceAdd, ↓reduceIte, Int.reduceToNat, zb1_some, zb2_some, zb3_some, zb4_some, zb5_some, Int.toNat_natCast, true_and, and_true]; omega
        · simp (disch := omega) only [zst_if, zup1_ne, zup1_eq, w32_s, rget_in, rput_in, zgrd, Nat.reduceEqDiff, Nat.reduceAdd, ↓reduceIte, Int.reduceToNat, zb1_some, zb2_some, zb3_some, zb4_some, zb5_some, Int.toNat_natCast, true_and, and_true]; omega
      · simp (disch := omega) only [zst_if, zup1_ne, zup1_eq, w32_s, rget_in, rput_in, zgrd, Nat.reduceEqDiff, Nat.reduceAdd, ↓reduceIte, Int.reduceToNat, zb1_some, zb2_some, zb3_some, zb4_some, zb5_some, Int.toNat_natCast, true_and, and_true]
  · have hF : sh_Ox_farm x y p h = some (-1, h) := by
      unfold sh_Ox_farm sh_Ox_isDigit
      simp only [within_z, isPlace_z, e0]
      split
      · rfl
      · split
        · rfl
        · split
          · rfl
          · exfalso; omega
    have hG : sh_Mo_farm N x y p h = some (-1, h) := by
      unfold sh_Mo_farm
      simp only [isIn_z]
      split
      · rfl
      · split
        · rfl
        · split
          · rfl
          · split
            · rfl
            · exfalso; omega
    exact ⟨h, zcas_of hF hG, hI⟩
