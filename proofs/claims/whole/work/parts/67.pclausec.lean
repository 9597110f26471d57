/-! PURE: text, the class's clause -/
def zFD (t : Nat) (h h1 : zHp) : Prop := (∀ id, id ≠ 28 → id ≠ 30 → id ≠ 32 → id ≠ 67 → h1 id = h id) ∧ (∀ j, j < 300 * t → h1 28 j = h 28 j) ∧ ∀ j, j < 5 * t → h1 30 j = h 30 j ∧ h1 32 j = h 32 j
theorem zFD.refl {t : Nat} (h : zHp) : zFD t h h := ⟨fun _ _ _ _ _ => rfl, fun _ _ => rfl, fun _ _ => ⟨rfl, rfl⟩⟩
theorem zFD.trans {t : Nat} {h h1 h2 : zHp} (a : zFD t h h1) (b : zFD t h1 h2) : zFD t h h2 :=
  ⟨fun id q1 q2 q3 q4 => (b.1 id q1 q2 q3 q4).trans (a.1 id q1 q2 q3 q4), fun j q => (b.2.1 j q).trans (a.2.1 j q), fun j q => ⟨(b.2.2 j q).1.trans (a.2.2 j q).1, (b.2.2 j q).2.trans (a.2.2 j q).2⟩⟩
theorem zFD_c {t c : Nat} {h h1 : zHp} (a : zFC t c h h1) : zFD t h h1 :=
  ⟨fun id q1 _ _ q4 => a.1 id q1 q4, fun j q => a.2.1 j (by omega), fun j _ => by rw [a.1 30 (by decide) (by decide), a.1 32 (by decide) (by decide)]; exact ⟨rfl, rfl⟩⟩
theorem zFD.st {t : Nat} {h h1 : zHp} {i : Nat} {v : Int} (a : zFD t h h1) : zFD t h (zst h1 67 i v) := by
  refine ⟨fun id q1 q2 q3 q4 => by rw [zst_if, if_neg q4]; exact a.1 id q1 q2 q3 q4, fun j q => by rw [zst_if, if_neg (by decide)]; exact a.2.1 j q, fun j q => ?_⟩
  rw [zst_if, if_neg (by decide), zst_if, if_neg (by decide)]
  exact a.2.2 j q
theorem zscl {h : zHp} {t s f l : Nat} (ht : t ≤ 3) (hs : s < 5) (hf : f ≤ 300) (hl : l ≤ 300) : sh_Texts_setClause (t : Int) (s : Int) (f : Int) (l : Int) h = zst (zst h 30 (5 * t + s) ((300 * t + f : Nat) : Int)) 32 (5 * t + s) ((300 * t + l : Nat) : Int) := by
  have e1 : w32 (w32 ((t : Int) * 5) + (s : Int)) = ((5 * t + s : Nat) : Int) := by rw [w32_s (a := (t : Int) * 5) (by omega) (by omega), w32_s (by omega) (by omega)]; omega
  have e2 : ∀ x : Nat, x ≤ 300 → w32 (w32 ((t : Int) * 300) + (x : Int)) = ((300 * t + x : Nat) : Int) := fun x hx => by rw [w32_s (a := (t : Int) * 300) (by omega) (by omega), w32_s (by omega) (by omega)]; omega
  unfold sh_Texts_setClause
  rw [e1, e2 f hf, e2 l hl, rput_in (by omega) (by omega), rput_in (by omega) (by omega), Int.toNat_natCast]
theorem zhas {h : zHp} {t s : Nat} (ht : t ≤ 3) (hs : s < 5) : sh_Texts_has (t : Int) (s : Int) h = if h 32 (5 * t + s) ≤ h 30 (5 * t + s) then 0 else 1 := by
  have e1 : w32 (w32 ((t : Int) * 5) + (s : Int)) = ((5 * t + s : Nat) : Int) := by rw [w32_s (a := (t : Int) * 5) (by omega) (by omega), w32_s (by omega) (by omega)]; omega
  unfold sh_Texts_has
  rw [e1, rget_in (by omega) (by omega), rget_in (by omega) (by omega), Int.toNat_natCast]
def zHs (h : zHp) (t : Nat) (F : Nat → List Int) : Prop := ∀ s : Nat, s < 5 → (h 32 (5 * t + s) ≤ h 30 (5 * t + s) ↔ F s = [])
theorem zJ63_f {N : Nat} {a : Int} {h : zHp} (h2 : h 67 2 ≠ 0) : sh_Reader_readClause_J63 N a h = some h := by
  unfold sh_Reader_readClause_J63
  rw [if_neg h2]
theorem zcl_c {N : Nat} {b : zFn} {len t : Nat} {cl : Int} {p c : Nat} {h : zHp} {F : Nat → List Int} (hN : 1300 ≤ N) (ht : t ≤ 3) (hl : len ≤ 300) (S : zCS h b len t cl p c) (hc : c ≤ p) (hp : p ≤ len) (hH : zHs h t F) :
    match zCl b len p F with
    | .inl e => ∃ h1, sh_Reader_readClause N h = some h1 ∧ h1 67 2 = e.1 ∧ h1 67 3 = (e.2 : Int) ∧ e.1 ≠ 0 ∧ zFD t h h1
    | .inr (p', l) => ∃ (h1 : zHp) (s : Nat), (s < 5 ∧ zco b len p = 11 + s ∧ F s = []) ∧ sh_Reader_readClause N h = some h1 ∧ zCS h1 b len t s (zne b len p') (c + l.length) ∧ (h1 30 (5 * t + s) = ((300 * t + c : Nat) : Int) ∧ h1 32 (5 * t + s) = ((300 * t + (c + l.length) : Nat) : Int)) ∧ (∀ (i : Nat) (v : Int), l[i]? = some v → h1 28 (300 * t + c + i) = v) ∧
        (∀ j, j ≠ 5 * t + s → h1 30 j = h 30 j ∧ h1 32 j = h 32 j) ∧ (∀ j, j < 300 * t + c → h1 28 j = h 28 j) ∧ (c + l.length ≤ zne b len p' ∧ zne b len p' ≤ len ∧ l ≠ [] ∧ zwf s (0, 0) l = some (if (s : Int) < 2 then (1, 0) else (0, 1))) ∧ zFD t h h1 := by
  have hb := zne_b (b := b) (len := len) hp
  have hz := zco_r (b := b) (len := len) (p := p)
  have hS := S
  obtain ⟨⟨s1, s2, s3, s4⟩, s5, s6, s7, s8, s9, s10⟩ := hS
  have ew : w32 (h 67 10 - 11) = zco b len p - 11 := by rw [s9, w32_s (by omega) (by omega)]
  have S0 : zCS (zst h 67 6 (zco b len p - 11)) b len t (zco b len p - 11) p c := by
    have n : ∀ j, j ≠ 6 → zst h 67 6 (zco b len p - 11) 67 j = h 67 j := fun j q => by rw [zst_if, if_pos rfl, zup1_ne _ _ q]
    refine ⟨⟨by rw [zst_if, if_neg (by decide)]; exact s1, by rw [n 4 (by decide)]; exact s2, by rw [n 5 (by decide)]; exact s3, by rw [zst_if, if_pos rfl, zup1_eq]⟩, by rw [n 2 (by decide)]; exact s5, by rw [n 7 (by decide)]; exact s6, by rw [n 8 (by decide)]; exact s7, by rw [n 9 (by decide)]; exact s8, by rw [n 10 (by decide)]; exact s9, fun q => by rw [n 11 (by decide)]; exact s10.1 q, by rw [n 3 (by decide)]; exact s10.2⟩
  obtain ⟨h0, e0⟩ : ∃ x, zst h 67 6 (zco b len p - 11) = x := ⟨_, rfl⟩
  rw [e0] at S0
  have f0 : zFD t h h0 := by rw [← e0]; exact (zFD.refl h).st
  have g0 : ∀ id, id ≠ 67 → h0 id = h id := fun id q => by rw [← e0, zst_if, if_neg q]
  have hcl : h0 67 6 = zco b len p - 11 := S0.1.2.2.2
  have fails : ∀ k : Int, k ≠ 0 → ∃ h1, sh_Reader_fail k h0 = h1 ∧ h1 67 2 = k ∧ h1 67 3 = (zPl2 b len p : Int) ∧ k ≠ 0 ∧ zFD t h h1 := fun k hk => by
    obtain ⟨h1, r1, r2, r3⟩ := zfai_c 0 k hp (by omega) S0
    exact ⟨h1, r1, r2.1, r2.2.1, hk, f0.trans (zFD_c r3)⟩
  unfold zCl
  by_cases c0 : 11 ≤ zco b len p ∧ zco b len p ≤ 15
  case neg =>
    rw [if_neg c0]
    obtain ⟨h1, r1, r2⟩ := fails 1 (by decide)
    refine ⟨h1, ?_, r2⟩
    unfold sh_Reader_readClause
    rw [ew, e0, hcl]
    by_cases c1 : zco b len p - 11 < 0
    · rw [if_pos c1, r1]
    · rw [if_neg c1, if_neg (by omega), r1]
  rw [if_pos c0]
  obtain ⟨s, hs⟩ : ∃ s : Nat, zco b len p - 11 = s := ⟨(zco b len p - 11).toNat, by omega⟩
  have hs5 : s < 5 := by omega
  rw [hs] at S0 hcl e0 ew ⊢
  rw [Int.toNat_natCast]
  have h05 : h0 67 5 = t := S0.1.2.2.1
  have hhas : sh_Texts_has (t : Int) (s : Int) h0 = if F s = [] then 0 else 1 := by
    rw [zhas ht hs5, g0 32 (by decide), g0 30 (by decide)]
    by_cases c1 : F s = []
    · rw [if_pos c1, if_pos ((hH s hs5).mpr c1)]
    · rw [if_neg c1, if_neg (fun q => c1 ((hH s hs5).mp q))]
  by_cases c1 : F s = []
  case neg =>
    rw [if_neg c1]
    obtain ⟨h1, r1, r2⟩ := fails 4 (by decide)
    refine ⟨h1, ?_, r2⟩
    unfold sh_Reader_readClause
    rw [ew, e0, hcl, h05, hhas, if_neg (by omega), if_pos (by omega), if_neg c1, if_neg (by decide), r1]
  rw [if_pos c1]
  obtain ⟨h2, q1, q2, q3, q4⟩ := zCS_stp hN hl hp S0
  have hcl2 : h2 67 6 = s := q2.1.2.2.2
  have hR : ∃ h3, sh_Reader_readRank N (if (s : Int) < 2 then 0 else 3) 0 h2 = some (0, h3) ∧ zPost 100 h3 b len t s c (zRk b len (s : Int) (zne b len p)) ∧ zFC t c h2 h3 := by
    unfold zRk
    by_cases c2 : (s : Int) < 2
    · rw [if_pos c2, if_pos c2]
      exact zg_eit hN hl ht _ _ _ q2 (by omega) hb.2.1
    · rw [if_neg c2, if_neg c2]
      exact zg_sum hN hl ht _ _ _ q2 (by omega) hb.2.1
  obtain ⟨h3, r1, r2, r3⟩ := hR
  have hrk : (if (if (s : Int) = 0 then 1 else (if (s : Int) = 1 then 1 else 0 : Int) : Int) = 0 then 3 else 0 : Int) = if (s : Int) < 2 then 0 else 3 := by
    have : s = 0 ∨ s = 1 ∨ s = 2 ∨ s = 3 ∨ s = 4 := by omega
    rcases this with rfl | rfl | rfl | rfl | rfl <;> decide
  have h07 : h0 67 7 = c := S0.2.2.1
  have hmain : sh_Reader_readClause N h = if h3 67 2 = 0 then (if h3 67 10 = 30 then sh_Reader_readClause_J63 N (c : Int) h3 else sh_Reader_readClause_J63 N (c : Int) (sh_Reader_fail 1 h3)) else sh_Reader_readClause_J63 N (c : Int) h3 := by
    unfold sh_Reader_readClause
    rw [ew, e0, hcl, h05, hhas, if_neg (by omega), if_pos (by omega), if_pos c1, if_pos rfl, q1]
    simp only [zb1_some]
    rw [hcl2, hrk, r1]
    simp only [zb2_some]
    rw [h07]
  rw [hmain]
  have f3 : zFD t h h3 := (f0.trans (zFD_c (q3))).trans (zFD_c r3)
  have hgs := zRk_g (b := b) (len := len) (s := (s : Int)) (zne b len p) hb.2.1
  cases hr : zRk b len (s : Int) (zne b len p) with
  | inl e =>
    rw [hr] at r2 hgs
    have hne : e.1 ≠ 0 := by have := hgs.1; omega
    have h32 : h3 67 2 ≠ 0 := by rw [r2.1]; exact hne
    refine ⟨h3, ?_, r2.1, r2.2.1, hne, f3⟩
    rw [if_neg h32, zJ63_f h32]
  | inr q =>
    obtain ⟨p', l⟩ := q
    rw [hr] at r2 hgs
    obtain ⟨y1, y2, y3⟩ := hgs
    obtain ⟨u1, u2⟩ := r2
    have h32 : h3 67 2 = 0 := u1.2.1
    have h310 : h3 67 10 = zco b len p' := u1.2.2.2.2.2.1
    rw [h310]
    by_cases c3 : zco b len p' = 30
    case neg =>
      simp only [if_neg c3]
      obtain ⟨h4, v1, v2, v3⟩ := zfai_c 0 1 y2 (by omega) u1
      have h42 : h4 67 2 ≠ 0 := by rw [v2.1]; decide
      refine ⟨h4, ?_, v2.1, v2.2.1, by decide, f3.trans (zFD_c v3)⟩
      rw [if_pos h32, v1, zJ63_f h42]
    simp only [if_pos c3]
    have hb2 := zne_b (b := b) (len := len) y2
    have e35 : h3 67 5 = t := u1.1.2.2.1
    have e36 : h3 67 6 = s := u1.1.2.2.2
    have e37 : h3 67 7 = ((c + l.length : Nat) : Int) := u1.2.2.1
    obtain ⟨h4, e4⟩ : ∃ x, zst (zst h3 30 (5 * t + s) ((300 * t + c : Nat) : Int)) 32 (5 * t + s) ((300 * t + (c + l.length) : Nat) : Int) = x := ⟨_, rfl⟩
    have m1 : ∀ id, id ≠ 30 → id ≠ 32 → h4 id = h3 id := fun id a1 a2 => by rw [← e4, zst_if, if_neg a2, zst_if, if_neg a1]
    have m2 : ∀ j, j ≠ 5 * t + s → h4 30 j = h3 30 j ∧ h4 32 j = h3 32 j := fun j a => by
      rw [← e4]
      simp (disch := first | assumption | omega) only [zst_if, if_pos, if_neg, zup1_ne, Nat.reduceEqDiff, ↓reduceIte]
      exact ⟨trivial, trivial⟩
    have m3 : h4 30 (5 * t + s) = ((300 * t + c : Nat) : Int) ∧ h4 32 (5 * t + s) = ((300 * t + (c + l.length) : Nat) : Int) := by
      rw [← e4]
      refine ⟨?_, ?_⟩
      · rw [zst_if, if_neg (by decide), zst_if, if_pos rfl, zup1_eq]
      · rw [zst_if, if_pos rfl, zup1_eq]
    have S4 : zCS h4 b len t s p' (c + l.length) := by
      unfold zCS at u1 ⊢
      rw [m1 25 (by decide) (by decide), m1 67 (by decide) (by decide)]
      exact u1
    obtain ⟨h5, w1, w2, w3, w4⟩ := zCS_stp hN hl y2 S4
    have n30 : h5 30 = h4 30 := w3.1 30 (by decide) (by decide)
    have n32 : h5 32 = h4 32 := w3.1 32 (by decide) (by decide)
    have k30 : ∀ j, j ≠ 5 * t + s → h5 30 j = h 30 j ∧ h5 32 j = h 32 j := fun j a => by
      rw [n30, n32, (m2 j a).1, (m2 j a).2, r3.1 30 (by decide) (by decide), r3.1 32 (by decide) (by decide), q3.1 30 (by decide) (by decide), q3.1 32 (by decide) (by decide), g0 30 (by decide), g0 32 (by decide)]
      exact ⟨rfl, rfl⟩
    have k28 : ∀ j, j < 300 * t + c → h5 28 j = h 28 j := fun j a => by
      rw [w4, m1 28 (by decide) (by decide), r3.2.1 j a, q4, g0 28 (by decide)]
    refine ⟨h5, s, ⟨hs5, by omega, c1⟩, ?_, w2, ⟨?_, ?_⟩, ?_, k30, k28, ⟨by omega, hb2.2.1, y3, zRk_w _ _ _ hr⟩, ⟨?_, fun j a => k28 j (by omega), fun j a => k30 j (by omega)⟩⟩
    · rw [if_pos h32]
      unfold sh_Reader_readClause_J63
      rw [if_pos h32, e35, e36, e37, zscl ht hs5 (by omega) (by omega), e4, w1]
      rfl
    · rw [n30]; exact m3.1
    · rw [n32]; exact m3.2
    · intro i v hi
      rw [w4, m1 28 (by decide) (by decide)]
      exact u2 i v hi
    · intro id a1 a2 a3 a4
      rw [w3.1 id a1 a4, m1 id a2 a3]
      exact f3.1 id a1 a2 a3 a4
