/-! PURE: feed -/
def zby4 (x : Int) (k : Int) : Int := zand (zshr x k) 255
def zf4 (c : zFn) (n : Nat) (x : Int) : zFn := zup1 (zup1 (zup1 (zup1 c n (zby4 x 24)) (n + 1) (zby4 x 16)) (n + 2) (zby4 x 8)) (n + 3) (zby4 x 0)
theorem zff_c {N : Nat} (hN : 5 ≤ N) {h : zHp} {n : Nat} (hn : h 0 1 = n) (hb : n + 4 ≤ 300) (x : Int) : ∃ h', sh_Ox_feedFour N x h = some h' ∧ h' 25 = zf4 (h 25) n x ∧ h' 0 1 = ((n + 4 : Nat) : Int) ∧ ∀ id, id ≠ 0 → id ≠ 25 → h' id = h id := by
  obtain ⟨m, rfl⟩ : ∃ m, N = m + 5 := ⟨N - 5, by omega⟩
  have b0 : zand (zushr x 24) 255 = zand (zshr x 24) 255 := zbyte x 24 (by omega)
  have b1 : zand (zushr x 16) 255 = zand (zshr x 16) 255 := zbyte x 16 (by omega)
  have b2 : zand (zushr x 8) 255 = zand (zshr x 8) 255 := zbyte x 8 (by omega)
  have b3 : zand (zushr x 0) 255 = zand (zshr x 0) 255 := zbyte x 0 (by omega)
  have t1 : ((n : Int) + 1).toNat = n + 1 := by omega
  have t2 : ((n : Int) + 1 + 1).toNat = n + 2 := by omega
  have t3 : ((n : Int) + 1 + 1 + 1).toNat = n + 3 := by omega
  refine ⟨zst (zst (zst (zst (zst (zst (zst (zst h 25 n (zby4 x 24)) 0 1 (n + 1)) 25 (n + 1) (zby4 x 16)) 0 1 (n + 1 + 1)) 25 (n + 2) (zby4 x 8)) 0 1 (n + 1 + 1 + 1)) 25 (n + 3) (zby4 x 0)) 0 1 (n + 1 + 1 + 1 + 1), ?_, ?_, ?_, fun id q r => ?_⟩
  · unfold sh_Ox_feedFour
    simp only [sh_Ox_feedFour_L2]
    simp (disch := omega) only [zst_if, zup1_ne, zup1_eq, w32_s, rget_in, rput_in, zgrd, Nat.reduceEqDiff, Nat.reduceAdd, ↓reduceIte, Int.reduceToNat, zb1_some, zb2_some, zb3_some, zb4_some, zb5_some, Int.toNat_natCast, true_and, and_true, within_z, isIn_z, if_pos, if_neg, hn, Int.reduceAdd, Int.reduceNeg, Int.reduceLT, t1, t2, t3]
    unfold zby4
    rw [← b0, ← b1, ← b2, ← b3]
  · simp (disch := omega) only [zst_if, zup1_ne, zup1_eq, w32_s, rget_in, rput_in, zgrd, Nat.reduceEqDiff, Nat.reduceAdd, ↓reduceIte, Int.reduceToNat, zb1_some, zb2_some, zb3_some, zb4_some, zb5_some, Int.toNat_natCast, true_and, and_true]
    rfl
  · simp (disch := omega) only [zst_if, zup1_ne, zup1_eq, w32_s, rget_in, rput_in, zgrd, Nat.reduceEqDiff, Nat.reduceAdd, ↓reduceIte, Int.reduceToNat, zb1_some, zb2_some, zb3_some, zb4_some, zb5_some, Int.toNat_natCast, true_and, and_true]
    omega
  · rw [zst_if, if_neg q, zst_if, if_neg r, zst_if, if_neg q, zst_if, if_neg r, zst_if, if_neg q, zst_if, if_neg r, zst_if, if_neg q, zst_if, if_neg r]
theorem zff_r {N : Nat} (hN : 5 ≤ N) {h : zHp} {n : Nat} (hn : h 85 4 = n) (hb : n + 4 ≤ 300) (x : Int) : ∃ h', sh_Mo_four N x h = some h' ∧ h' 89 = zf4 (h 89) n x ∧ h' 85 4 = ((n + 4 : Nat) : Int) ∧ (∀ j, j ≠ 4 → h' 85 j = h 85 j) ∧ ∀ id, id ≠ 85 → id ≠ 89 → h' id = h id := by
  obtain ⟨m, rfl⟩ : ∃ m, N = m + 5 := ⟨N - 5, by omega⟩
  have t1 : ((n : Int) + 1).toNat = n + 1 := by omega
  have t2 : ((n : Int) + 1 + 1).toNat = n + 2 := by omega
  have t3 : ((n : Int) + 1 + 1 + 1).toNat = n + 3 := by omega
  refine ⟨zst (zst (zst (zst (zst (zst (zst (zst h 89 n (zby4 x 24)) 85 4 (n + 1)) 89 (n + 1) (zby4 x 16)) 85 4 (n + 1 + 1)) 89 (n + 2) (zby4 x 8)) 85 4 (n + 1 + 1 + 1)) 89 (n + 3) (zby4 x 0)) 85 4 (n + 1 + 1 + 1 + 1), ?_, ?_, ?_, fun j q => ?_, fun id q r => ?_⟩
  · unfold sh_Mo_four
    simp only [sh_Mo_four_L2]
    simp (disch := omega) only [zst_if, zup1_ne, zup1_eq, w32_s, rget_in, rput_in, zgrd, Nat.reduceEqDiff, Nat.reduceAdd, ↓reduceIte, Int.reduceToNat, zb1_some, zb2_some, zb3_some, zb4_some, zb5_some, Int.toNat_natCast, true_and, and_true, within_z, isIn_z, if_pos, if_neg, hn, Int.reduceAdd, Int.reduceNeg, Int.reduceLT, t1, t2, t3]
    rfl
  · simp (disch := omega) only [zst_if, zup1_ne, zup1_eq, w32_s, rget_in, rput_in, zgrd, Nat.reduceEqDiff, Nat.reduceAdd, ↓reduceIte, Int.reduceToNat, zb1_some, zb2_some, zb3_some, zb4_some, zb5_some, Int.toNat_natCast, true_and, and_true]
    rfl
  · simp (disch := omega) only [zst_if, zup1_ne, zup1_eq, w32_s, rget_in, rput_in, zgrd, Nat.reduceEqDiff, Nat.reduceAdd, ↓reduceIte, Int.reduceToNat, zb1_some, zb2_some, zb3_some, zb4_some, zb5_some, Int.toNat_natCast, true_and, and_true]
    omega
  · simp (disch := omega) only [zst_if, zup1_ne, zup1_eq, w32_s, rget_in, rput_in, zgrd, Nat.reduceEqDiff, Nat.reduceAdd, ↓reduceIte, Int.reduceToNat, zb1_some, zb2_some, zb3_some, zb4_some, zb5_some, Int.toNat_natCast, true_and, and_true]
  · rw [zst_if, if_neg q, zst_if, if_neg r, zst_if, if_neg q, zst_if, if_neg r, zst_if, if_neg q, zst_if, if_neg r, zst_if, if_neg q, zst_if, if_neg r]
theorem zby4_r (x k : Int) : 0 ≤ zby4 x k ∧ zby4 x k ≤ 255 := zbyte_r _
theorem zf4_ok {c d : zFn} (h : ∀ i, i < 300 → c i = d i ∧ 0 ≤ d i ∧ d i ≤ 255) (n : Nat) (x : Int) : ∀ i, i < 300 → zf4 c n x i = zf4 d n x i ∧ 0 ≤ zf4 d n x i ∧ zf4 d n x i ≤ 255 := by
  intro i hi
  unfold zf4
  simp only [zup1_if]
  split
  · exact ⟨rfl, zby4_r _ _⟩
  · split
    · exact ⟨rfl, zby4_r _ _⟩
    · split
      · exact ⟨rfl, zby4_r _ _⟩
      · split
        · exact ⟨rfl, zby4_r _ _⟩
        · exact h i hi
theorem zc_feed {h : zHp} (x1 x2 x3 x4 x5 : Int) (hI : zInv h) {N : Nat} (hN : 5 ≤ N) : ∃ h2, zcas (sh_Ox_feed N x1 x2 x3 x4 x5) (sh_Mo_feed N x1 x2 x3 x4 x5) h = some (1, h2) ∧ zInv h2 := by
  have hI' := hI
  obtain ⟨-, -, -, -, ⟨e0, k0, k1, k2⟩, -⟩ := hI'
  obtain ⟨n, hn⟩ : ∃ n : Nat, h 85 4 = n := ⟨(h 85 4).toNat, by omega⟩
  by_cases c : n ≤ 280
  · obtain ⟨a1, p1, q1, r1, s1⟩ := zff_c hN (h := h) (n := n) (by rw [e0, hn]) (by omega) x1
    obtain ⟨a2, p2, q2, r2, s2⟩ := zff_c hN (n := n + 4) r1 (by omega) x2
    obtain ⟨a3, p3, q3, r3, s3⟩ := zff_c hN (n := n + 4 + 4) r2 (by omega) x3
    obtain ⟨a4, p4, q4, r4, s4⟩ := zff_c hN (n := n + 4 + 4 + 4) r3 (by omega) x4
    obtain ⟨a5, p5, q5, r5, s5⟩ := zff_c hN (n := n + 4 + 4 + 4 + 4) r4 (by omega) x5
    have fr : ∀ id, id ≠ 0 → id ≠ 25 → a5 id = h id := fun id u v => by rw [s5 id u v, s4 id u v, s3 id u v, s2 id u v, s1 id u v]
    have m0 : a5 85 4 = (n : Int) := by rw [fr 85 (by decide) (by decide), hn]
    obtain ⟨b1, P1, Q1, R1, T1, S1⟩ := zff_r hN (h := a5) (n := n) m0 (by omega) x1
    obtain ⟨b2, P2, Q2, R2, T2, S2⟩ := zff_r hN (n := n + 4) R1 (by omega) x2
    obtain ⟨b3, P3, Q3, R3, T3, S3⟩ := zff_r hN (n := n + 4 + 4) R2 (by omega) x3
    obtain ⟨b4, P4, Q4, R4, T4, S4⟩ := zff_r hN (n := n + 4 + 4 + 4) R3 (by omega) x4
    obtain ⟨b5, P5, Q5, R5, T5, S5⟩ := zff_r hN (n := n + 4 + 4 + 4 + 4) R4 (by omega) x5
    have Fr : ∀ id, id ≠ 85 → id ≠ 89 → b5 id = a5 id := fun id u v => by rw [S5 id u v, S4 id u v, S3 id u v, S2 id u v, S1 id u v]
    refine ⟨b5, zcas_of (r := ((n + 4 + 4 + 4 + 4 + 4 : Nat) : Int)) (h1 := a5) ?_ ?_, ?_⟩
    · unfold sh_Ox_feed
      rw [if_pos (by omega), p1, zb1_some, p2, zb1_some, p3, zb1_some, p4, zb1_some, p5, zb1_some, r5]
    · unfold sh_Mo_feed
      rw [m0, w32_s (by omega) (by omega), if_pos (by omega), P1, zb1_some, P2, zb1_some, P3, zb1_some, P4, zb1_some, P5, zb1_some, R5]
    · refine zInv_tape hI (fun id u1 u2 u3 u4 u5 => by rw [Fr id u3 u4, fr id u1 u2]) ?_ ?_ ?_
      · rw [R5, Fr 0 (by decide) (by decide), r5, Fr 25 (by decide) (by decide)]
        refine ⟨rfl, by omega, by omega, ?_⟩
        rw [q5, q4, q3, q2, q1, Q5, Q4, Q3, Q2, Q1, fr 89 (by decide) (by decide)]
        exact zf4_ok (zf4_ok (zf4_ok (zf4_ok (zf4_ok k2 _ _) _ _) _ _) _ _) _ _
      · rw [T5 _ (by decide), T4 _ (by decide), T3 _ (by decide), T2 _ (by decide), T1 _ (by decide), fr 85 (by decide) (by decide)]
      · rw [T5 _ (by decide), T4 _ (by decide), T3 _ (by decide), T2 _ (by decide), T1 _ (by decide), fr 85 (by decide) (by decide)]
  · refine ⟨h, zcas_of (r := -1) (h1 := h) ?_ ?_, hI⟩
    · unfold sh_Ox_feed
      rw [if_neg (by omega)]
    · unfold sh_Mo_feed
      rw [w32_s (by omega) (by omega), if_neg (by omega)]
