/-! PURE: text -/
theorem zclr {t : Nat} (N : Nat) (ht : t ≤ 3) : ∀ (k s n : Nat) (h : zHp), s + k = 5 → k < n → ∃ h1, sh_Texts_clear_L2 N n (t : Int) (s : Int) h = some h1 ∧ (∀ id, id ≠ 30 → id ≠ 32 → h1 id = h id) ∧ (∀ s', s ≤ s' → s' < 5 → h1 30 (5 * t + s') = ((300 * t : Nat) : Int) ∧ h1 32 (5 * t + s') = ((300 * t : Nat) : Int)) ∧ ∀ j, j < 5 * t + s → h1 30 j = h 30 j ∧ h1 32 j = h 32 j := by
  intro k
  induction k with
  | zero =>
    intro s n h hs hn
    obtain ⟨n, rfl⟩ : ∃ m, n = m + 1 := ⟨n - 1, by omega⟩
    refine ⟨h, ?_, fun _ _ _ => rfl, fun s' a b => by omega, fun _ _ => ⟨rfl, rfl⟩⟩
    unfold sh_Texts_clear_L2
    rw [if_pos (by omega)]
  | succ k ih =>
    intro s n h hs hn
    obtain ⟨n, rfl⟩ : ∃ m, n = m + 1 := ⟨n - 1, by omega⟩
    have es : sh_Texts_setClause (t : Int) (s : Int) 0 0 h = zst (zst h 30 (5 * t + s) ((300 * t + 0 : Nat) : Int)) 32 (5 * t + s) ((300 * t + 0 : Nat) : Int) := zscl (f := 0) (l := 0) ht (by omega) (by omega) (by omega)
    obtain ⟨h1, q1, q2, q3, q4⟩ := ih (s + 1) n (zst (zst h 30 (5 * t + s) ((300 * t + 0 : Nat) : Int)) 32 (5 * t + s) ((300 * t + 0 : Nat) : Int)) (by omega) (by omega)
    refine ⟨h1, ?_, fun id a b => ?_, fun s' a b => ?_, fun j a => ?_⟩
    · unfold sh_Texts_clear_L2
      rw [if_neg (by omega), es, show w32 ((s : Int) + 1) = ((s + 1 : Nat) : Int) by rw [w32_s (by omega) (by omega)]; omega]
      exact q1
    · rw [q2 id a b, zst_if, if_neg b, zst_if, if_neg a]
    · by_cases e : s' = s
      · rw [e, (q4 (5 * t + s) (by omega)).1, (q4 (5 * t + s) (by omega)).2]
        refine ⟨?_, ?_⟩
        · rw [zst_if, if_neg (by decide), zst_if, if_pos rfl, zup1_eq]; rfl
        · rw [zst_if, if_pos rfl, zup1_eq]; rfl
      · exact q3 s' (by omega) b
    · rw [(q4 j (by omega)).1, (q4 j (by omega)).2]
      refine ⟨?_, ?_⟩
      · rw [zst_if, if_neg (by decide), zst_if, if_pos rfl, zup1_ne _ _ (by omega)]
      · rw [zst_if, if_pos rfl, zup1_ne _ _ (by omega), zst_if, if_neg (by decide)]
theorem ztx_c {N : Nat} (hN : 1300 ≤ N) {h : zHp} {len t : Nat} (h0 : h 0 1 = len) (hl : len ≤ 300) (h1 : h 1 12 = t) (ht : t ≤ 3) :
    match zRdT (h 25) len 6 0 (fun _ => []) with
    | .inl e => ∃ h8, sh_Reader_read N (h 0 1) (h 1 12) (zst h 0 1 0) = some (0, h8) ∧ (h8 67 2 = e.1 ∧ h8 67 3 = (e.2 : Int)) ∧ e.1 ≠ 0 ∧ zFD t (zst h 0 1 0) h8
    | .inr F' => ∃ (h8 : zHp) (c' : Nat), sh_Reader_read N (h 0 1) (h 1 12) (zst h 0 1 0) = some (1, h8) ∧ (h8 67 2 = 0 ∧ h8 67 3 = -1) ∧ zLc h8 t c' F' ∧ c' ≤ 300 ∧ zLw F' ∧ zFD t (zst h 0 1 0) h8 := by
  rw [h0, h1]
  obtain ⟨hs, es⟩ : ∃ x, zst (zst (zst (zst (zst (zst (zst h 0 1 0) 67 4 (len : Int)) 67 5 (t : Int)) 67 2 0) 67 3 (-1)) 67 7 0) 67 9 0 = x := ⟨_, rfl⟩
  have s4 : hs 67 4 = len := by rw [← es]; simp (disch := omega) only [zst_if, zup1_ne, zup1_eq, w32_s, rget_in, rput_in, zgrd, Nat.reduceEqDiff, Nat.reduceAdd, ↓reduceIte, Int.reduceToNat, zb1_some, zb2_some, zb3_some, zb4_some, zb5_some, Int.toNat_natCast, true_and, and_true]
  have s5 : hs 67 5 = t := by rw [← es]; simp (disch := omega) only [zst_if, zup1_ne, zup1_eq, w32_s, rget_in, rput_in, zgrd, Nat.reduceEqDiff, Nat.reduceAdd, ↓reduceIte, Int.reduceToNat, zb1_some, zb2_some, zb3_some, zb4_some, zb5_some, Int.toNat_natCast, true_and, and_true]
  have s2 : hs 67 2 = 0 := by rw [← es]; simp (disch := omega) only [zst_if, zup1_ne, zup1_eq, w32_s, rget_in, rput_in, zgrd, Nat.reduceEqDiff, Nat.reduceAdd, ↓reduceIte, Int.reduceToNat, zb1_some, zb2_some, zb3_some, zb4_some, zb5_some, Int.toNat_natCast, true_and, and_true]
  have s3 : hs 67 3 = -1 := by rw [← es]; simp (disch := omega) only [zst_if, zup1_ne, zup1_eq, w32_s, rget_in, rput_in, zgrd, Nat.reduceEqDiff, Nat.reduceAdd, ↓reduceIte, Int.reduceToNat, zb1_some, zb2_some, zb3_some, zb4_some, zb5_some, Int.toNat_natCast, true_and, and_true]
  have s7 : hs 67 7 = ((0 : Nat) : Int) := by rw [← es]; simp (disch := omega) only [zst_if, zup1_ne, zup1_eq, w32_s, rget_in, rput_in, zgrd, Nat.reduceEqDiff, Nat.reduceAdd, ↓reduceIte, Int.reduceToNat, zb1_some, zb2_some, zb3_some, zb4_some, zb5_some, Int.toNat_natCast, true_and, and_true]; rfl
  have s9 : hs 67 9 = ((0 : Nat) : Int) := by rw [← es]; simp (disch := omega) only [zst_if, zup1_ne, zup1_eq, w32_s, rget_in, rput_in, zgrd, Nat.reduceEqDiff, Nat.reduceAdd, ↓reduceIte, Int.reduceToNat, zb1_some, zb2_some, zb3_some, zb4_some, zb5_some, Int.toNat_natCast, true_and, and_true]; rfl
  have sf : zFD t (zst h 0 1 0) hs := by rw [← es]; exact ((((((zFD.refl _).st).st).st).st).st).st
  have s25 : hs 25 = h 25 := by rw [← es]; simp (disch := omega) only [zst_if, zup1_ne, zup1_eq, w32_s, rget_in, rput_in, zgrd, Nat.reduceEqDiff, Nat.reduceAdd, ↓reduceIte, Int.reduceToNat, zb1_some, zb2_some, zb3_some, zb4_some, zb5_some, Int.toNat_natCast, true_and, and_true]
  obtain ⟨hc, c1, c2, c3, c4⟩ := zclr (t := t) N ht 5 0 N hs (by decide) (by omega)
  have ecl : sh_Texts_clear N (t : Int) hs = some hc := by
    unfold sh_Texts_clear
    exact congrArg (fun o => zb1 o fun h7 => some h7) c1
  have cf : zFD t hs hc := ⟨fun id _ a b _ => c2 id a b, fun j _ => by rw [c2 28 (by decide) (by decide)], fun j a => c4 j (by omega)⟩
  have c67 : hc 67 = hs 67 := c2 67 (by decide) (by decide)
  obtain ⟨h12, q1, q2, q3, q4, q5, q6⟩ := zstp_c (b := h 25) (len := len) (p := 0) (h := hc) (N := N) hN hl (Nat.zero_le _) (by rw [c2 25 (by decide) (by decide)]; exact s25) (by rw [c67]; exact s4) (by rw [c67]; exact s9)
  have S : zCS h12 (h 25) len t (h12 67 6) 0 0 := by
    refine ⟨⟨by rw [q6.1 25 (by decide), c2 25 (by decide) (by decide)]; exact s25, ?_, ?_, rfl⟩, ?_, ?_, q2, q3, q4, q5, ?_⟩
    · rw [q6.2 4 (by decide), c67]; exact s4
    · rw [q6.2 5 (by decide), c67]; exact s5
    · rw [q6.2 2 (by decide), c67]; exact s2
    · rw [q6.2 7 (by decide), c67]; exact s7
    · rw [q6.2 3 (by decide), c67]; exact s3
  have A : zLc h12 t 0 (fun _ => []) := by
    intro s hs5
    have := c3 s (by omega) hs5
    refine ⟨0, ?_, ?_, Nat.le_refl _, fun i v hi => by simp at hi⟩
    · rw [q6.1 30 (by decide)]; exact this.1
    · rw [q6.1 32 (by decide)]; exact this.2
  have f12 : zFD t (zst h 0 1 0) h12 := (sf.trans cf).trans ⟨fun id _ _ _ a => q6.1 id a, fun j _ => by rw [q6.1 28 (by decide)], fun j _ => by rw [q6.1 30 (by decide), q6.1 32 (by decide)]; exact ⟨rfl, rfl⟩⟩
  have hI := zrd_c (N := N) hN ht hl 6 N 0 0 _ h12 (fun _ => []) S (Nat.le_refl _) (Nat.zero_le _) A (fun s _ q => absurd rfl q) rfl (by omega)
  rw [show ((zcT (fun _ => ([] : List Int)) : Nat) : Int) = 0 from rfl] at hI
  have hmain : sh_Reader_read N (len : Int) (t : Int) (zst h 0 1 0) = zb1 (sh_Reader_read_L26 N N 0 h12) fun h23 => some ((if h23 67 2 = 0 then 1 else 0 : Int), h23) := by
    unfold sh_Reader_read
    rw [es, ecl]
    simp only [zb1_some]
    rw [q1]
    rfl
  rw [hmain]
  cases hr : zRdT (h 25) len 6 0 (fun _ => []) with
  | inl e =>
    rw [hr] at hI
    obtain ⟨h8, u1, u2, u3, u4, u5⟩ := hI
    refine ⟨h8, ?_, ⟨u2, u3⟩, u4, f12.trans u5⟩
    rw [u1]
    simp only [zb1_some]
    rw [u2, if_neg u4]
  | inr F' =>
    rw [hr] at hI
    obtain ⟨h8, c', u1, u2, u3, u4, u5, u6⟩ := hI
    refine ⟨h8, c', ?_, u2, u3, u4, u5, f12.trans u6⟩
    rw [u1]
    simp only [zb1_some]
    rw [u2.1, if_pos rfl]
theorem ztx_r {N : Nat} (hN : 1300 ≤ N) {g : zHp} {b : zFn} {len t : Nat} (T : zTp g b len) (h4 : g 86 4 = t) (ht : t ≤ 3) :
    match zRdT b len 6 0 (fun _ => []) with
    | .inl e => ∃ g1, sh_Mo_readText N g = some (e.1, g1) ∧ g1 85 8 = (e.2 : Int) ∧ zFX t g g1
    | .inr F' => ∃ (g1 : zHp) (c' : Nat), sh_Mo_readText N g = some (0, g1) ∧ zLr g1 t c' F' ∧ c' ≤ 300 ∧ zFX t g g1 := by
  have hl := T.2.1
  have ew : w32 (625 * (g 86 4)) = ((625 * t : Nat) : Int) := by rw [h4, w32_s (by omega) (by omega)]; omega
  have n12 : zst g 85 12 ((625 * t : Nat) : Int) 85 12 = ((625 * t : Nat) : Int) := by rw [zst_if, if_pos rfl, zup1_eq]
  obtain ⟨g0, e0⟩ : ∃ x, zst (zst (zst (zst (zst (zst g 85 12 ((625 * t : Nat) : Int)) 88 (625 * t) 0) 85 14 0) 85 18 0) 85 21 0) 85 7 0 = x := ⟨_, rfl⟩
  have hmain : sh_Mo_readText N g = zb1 (sh_Mo_nextToken N g0) fun h7 => zb1 (sh_Mo_readText_L28 N N h7) fun w18 => zsum2 w18 (zcu2 fun y19 h20 => some (y19, h20)) (zcu1 fun h21 => some (0, h21)) := by
    unfold sh_Mo_readText
    rw [ew, n12, if_pos (by omega), Int.toNat_natCast, e0]
  have n4 : g0 85 4 = g 85 4 := by rw [← e0]; simp (disch := omega) only [zst_if, zup1_ne, zup1_eq, w32_s, rget_in, rput_in, zgrd, Nat.reduceEqDiff, Nat.reduceAdd, ↓reduceIte, Int.reduceToNat, zb1_some, zb2_some, zb3_some, zb4_some, zb5_some, Int.toNat_natCast, true_and, and_true]
  have n89 : g0 89 = g 89 := by rw [← e0]; simp (disch := omega) only [zst_if, zup1_ne, zup1_eq, w32_s, rget_in, rput_in, zgrd, Nat.reduceEqDiff, Nat.reduceAdd, ↓reduceIte, Int.reduceToNat, zb1_some, zb2_some, zb3_some, zb4_some, zb5_some, Int.toNat_natCast, true_and, and_true]
  have v12 : g0 85 12 = ((625 * t : Nat) : Int) := by rw [← e0]; simp (disch := omega) only [zst_if, zup1_ne, zup1_eq, w32_s, rget_in, rput_in, zgrd, Nat.reduceEqDiff, Nat.reduceAdd, ↓reduceIte, Int.reduceToNat, zb1_some, zb2_some, zb3_some, zb4_some, zb5_some, Int.toNat_natCast, true_and, and_true]
  have v14 : g0 85 14 = ((0 : Nat) : Int) := by rw [← e0]; simp (disch := omega) only [zst_if, zup1_ne, zup1_eq, w32_s, rget_in, rput_in, zgrd, Nat.reduceEqDiff, Nat.reduceAdd, ↓reduceIte, Int.reduceToNat, zb1_some, zb2_some, zb3_some, zb4_some, zb5_some, Int.toNat_natCast, true_and, and_true]; rfl
  have v18 : g0 85 18 = 0 := by rw [← e0]; simp (disch := omega) only [zst_if, zup1_ne, zup1_eq, w32_s, rget_in, rput_in, zgrd, Nat.reduceEqDiff, Nat.reduceAdd, ↓reduceIte, Int.reduceToNat, zb1_some, zb2_some, zb3_some, zb4_some, zb5_some, Int.toNat_natCast, true_and, and_true]
  have v21 : g0 85 21 = 0 := by rw [← e0]; simp (disch := omega) only [zst_if, zup1_ne, zup1_eq, w32_s, rget_in, rput_in, zgrd, Nat.reduceEqDiff, Nat.reduceAdd, ↓reduceIte, Int.reduceToNat, zb1_some, zb2_some, zb3_some, zb4_some, zb5_some, Int.toNat_natCast, true_and, and_true]
  have v7 : g0 85 7 = ((0 : Nat) : Int) := by rw [← e0]; simp (disch := omega) only [zst_if, zup1_ne, zup1_eq, w32_s, rget_in, rput_in, zgrd, Nat.reduceEqDiff, Nat.reduceAdd, ↓reduceIte, Int.reduceToNat, zb1_some, zb2_some, zb3_some, zb4_some, zb5_some, Int.toNat_natCast, true_and, and_true]; rfl
  have v88 : g0 88 (625 * t) = 0 := by rw [← e0]; simp (disch := omega) only [zst_if, zup1_ne, zup1_eq, w32_s, rget_in, rput_in, zgrd, Nat.reduceEqDiff, Nat.reduceAdd, ↓reduceIte, Int.reduceToNat, zb1_some, zb2_some, zb3_some, zb4_some, zb5_some, Int.toNat_natCast, true_and, and_true]
  have f0 : zFX t g g0 := by rw [← e0]; exact (((((((zFX.refl g).st (by decide)).s8 (Nat.le_refl _)).st (by decide)).st (by decide)).st (by decide)).st (by decide))
  have T0 : zTp g0 b len := zTp_e T n4 n89
  obtain ⟨g1, q1, q2, q3⟩ := znxt_r (N := N) (p := 0) hN T0 (Nat.zero_le _) v7
  have S : zRS0 g1 b len t (g1 85 20) 0 0 0 := ⟨⟨zTp_f T0 q3 (by decide), q2, Nat.zero_le _⟩, ⟨by rw [q3.2 12 (by decide)]; exact v12, rfl⟩, by rw [q3.2 14 (by decide)]; exact v14, by rw [q3.2 18 (by decide)]; exact v18, trivial⟩
  have A : zLr g1 t 0 (fun _ => []) := ⟨by rw [q3.1 88 (by decide)]; exact v88, fun s _ => Or.inl ⟨rfl, fun k hk => absurd hk (Nat.not_lt_zero k)⟩⟩
  have B : zBt g1 (fun _ => []) := by
    have hd : ∀ s : Fin 5, (zand (zshr 0 ((s : Nat) : Int)) 1 = 1 ↔ ([] : List Int) ≠ []) := by decide +kernel
    unfold zBt
    rw [q3.2 21 (by decide), v21]
    exact ⟨Int.le_refl _, by decide, fun s hs => hd ⟨s, hs⟩⟩
  have f1 : zFX t g g1 := f0.trans ⟨fun id a _ _ => q3.1 id a, fun j _ => by rw [q3.1 88 (by decide)], fun j a => q3.2 j (fun r => a (by simp only [List.mem_cons, List.not_mem_nil, or_false] at r ⊢; omega))⟩
  have hI := zrd_r (N := N) hN ht hl 6 N 0 0 _ g1 (fun _ => []) S (Nat.le_refl _) A B rfl (by omega)
  rw [hmain, q1]
  simp only [zb1_some]
  cases hr : zRdT b len 6 0 (fun _ => []) with
  | inl e =>
    rw [hr] at hI
    obtain ⟨g2, u1, u2, u3⟩ := hI
    refine ⟨g2, ?_, u2, f1.trans u3⟩
    rw [u1]; rfl
  | inr F' =>
    rw [hr] at hI
    obtain ⟨g2, c', u1, u2, u3, u4⟩ := hI
    refine ⟨g2, c', ?_, u2, u3, f1.trans u4⟩
    rw [u1]; rfl
theorem zInv_tx {h h2 : zHp} {t : Nat} (hI : zInv h) (h4 : h 86 4 = t) (e : ∀ id, id ≠ 0 → id ≠ 1 → id ≠ 28 → id ≠ 30 → id ≠ 32 → id ≠ 67 → id ≠ 85 → id ≠ 86 → id ≠ 88 → id ≠ 90 → h2 id = h id) (e0 : h2 0 1 = 0) (e85 : h2 85 4 = 0) (e2 : h2 67 2 = h2 85 5) (e3 : h2 67 3 = h2 85 6) (e28 : ∀ j, j < 300 * t → h2 28 j = h 28 j) (e30 : ∀ j, j < 5 * t → h2 30 j = h 30 j ∧ h2 32 j = h 32 j) (e88 : ∀ j, j < 625 * t → h2 88 j = h 88 j)
    (hY : zYc 0 h2 (h2 86) ∧ zOk (h2 86)) (hT : h2 86 4 = t ∨ (h2 86 4 = ((t + 1 : Nat) : Int) ∧ t ≤ 3 ∧ ∃ (F : Nat → List Int) (c c' : Nat), zLc h2 t c F ∧ c ≤ 300 ∧ zLr h2 t c' F ∧ c' ≤ 300 ∧ zLw F)) : zInv h2 := by
  obtain ⟨hy, ⟨hy4, hk4⟩, hu, ⟨T, hTx⟩, ⟨i1, i2, i3, i4⟩, i5, i6⟩ := hI
  have n87 : h2 87 = h 87 := e 87 (by decide) (by decide) (by decide) (by decide) (by decide) (by decide) (by decide) (by decide) (by decide) (by decide)
  have n25 : h2 25 = h 25 := e 25 (by decide) (by decide) (by decide) (by decide) (by decide) (by decide) (by decide) (by decide) (by decide) (by decide)
  have n89 : h2 89 = h 89 := e 89 (by decide) (by decide) (by decide) (by decide) (by decide) (by decide) (by decide) (by decide) (by decide) (by decide)
  have hold : ∀ t' : Nat, t' < t → ∀ c, c < 5 → zTw h2 t' c (T t' c) ∧ zTv h2 t' c (T t' c) ∧ (T t' c ≠ [] → zwf c (0, 0) (T t' c) = some (if c < 2 then (1, 0) else (0, 1))) := by
    intro t' ht' c hc
    obtain ⟨⟨f, a1, a2, a3, a4⟩, ⟨n, b1, b2, b3⟩, w⟩ := hTx t' (by omega) c hc
    refine ⟨⟨f, ?_, ?_, a3, fun i v hi => ?_⟩, ⟨n, ?_, b2, ?_⟩, w⟩
    · rw [(e30 _ (by omega)).1]; exact a1
    · rw [(e30 _ (by omega)).2]; exact a2
    · have := (List.getElem?_eq_some_iff.mp hi).1
      rw [e28 _ (by omega)]
      exact a4 i v hi
    · rw [e88 _ (by omega)]; exact b1
    · rcases b3 with ⟨r1, r2⟩ | ⟨k, f, r1, r2, r3, r4, r5, r6, r7, r8⟩
      · exact Or.inl ⟨r1, fun k hk => by rw [e88 _ (by omega)]; exact r2 k hk⟩
      · refine Or.inr ⟨k, f, r1, by rw [e88 _ (by omega)]; exact r2, fun j hj => by rw [e88 _ (by omega)]; exact r3 j hj, by rw [e88 _ (by omega)]; exact r4, by rw [e88 _ (by omega)]; exact r5, r6, r7, fun i v hi => ?_⟩
        have := (List.getElem?_eq_some_iff.mp hi).1
        rw [e88 _ (by omega), e88 _ (by omega)]
        exact r8 i v hi
  refine ⟨hY, ⟨?_, ?_⟩, ?_, ?_, ⟨?_, ?_, ?_, ?_⟩, e2, e3⟩
  · rw [n87]
    exact zYc_eq4 hy4 (fun id a b => e id (by omega) (by omega) (by omega) (by omega) (by omega) (by omega) (by omega) (by omega) (by omega) (by omega))
  · rw [n87]; exact hk4
  · rw [n87]
    rcases hT with q | ⟨q, -⟩ <;> omega
  · rcases hT with q | ⟨q, ht, F, c, c', l1, l2, l3, l4, l5⟩
    · exact ⟨T, fun t' ht' => hold t' (by omega)⟩
    · refine ⟨fun t' s => if t' = t then F s else T t' s, fun t' ht' s hs => ?_⟩
      by_cases et : t' = t
      · subst et
        simp only [if_pos]
        obtain ⟨f, a1, a2, a3, a4⟩ := l1 s hs
        refine ⟨⟨300 * t' + f, a1, by rw [a2]; omega, by omega, a4⟩, ⟨zcT F, l3.1, zcT_5 F, ?_⟩, fun q => ?_⟩
        · rcases l3.2 s hs with r | ⟨k, f, r1, r2, r3, r4, r5, r6, r7, r8⟩
          · exact Or.inl r
          · exact Or.inr ⟨k, f, r1, r2, r3, r4, by rw [r5]; omega, by omega, r7, r8⟩
        · have := l5 s hs q
          rw [this]
          by_cases cs : s < 2
          · rw [if_pos cs, if_pos (by omega)]
          · rw [if_neg cs, if_neg (by omega)]
      · simp only [if_neg et]
        exact hold t' (by omega) s hs
  · rw [e0, e85]
  · rw [e85]; exact Int.le_refl _
  · rw [e85]; decide
  · rw [n25, n89]; exact i4
