/-! PURE: text, the reference's pile -/
def zFR (t c : Nat) (g g1 : zHp) : Prop := (∀ id, id ≠ 85 → id ≠ 88 → id ≠ 90 → g1 id = g id) ∧ (∀ j, j < 625 * t + 20 + 2 * c → g1 88 j = g 88 j) ∧ ∀ j, j ∉ [7, 8, 9, 10, 11, 14, 17, 18, 19] → g1 85 j = g 85 j
theorem zFR.refl {t c : Nat} (g : zHp) : zFR t c g g := ⟨fun _ _ _ _ => rfl, fun _ _ => rfl, fun _ _ => rfl⟩
theorem zFR.trans {t c c' : Nat} {g g1 g2 : zHp} (a : zFR t c g g1) (b : zFR t c' g1 g2) (hc : c ≤ c') : zFR t c g g2 :=
  ⟨fun id p q r => (b.1 id p q r).trans (a.1 id p q r), fun j hj => (b.2.1 j (by omega)).trans (a.2.1 j hj), fun j hj => (b.2.2 j hj).trans (a.2.2 j hj)⟩
theorem zFR.st {t c : Nat} {g g1 : zHp} {i : Nat} {v : Int} (a : zFR t c g g1) (hi : i ∈ [7, 8, 9, 10, 11, 14, 17, 18, 19]) : zFR t c g (zst g1 85 i v) := by
  refine ⟨fun id p q r => by rw [zst_if, if_neg p]; exact a.1 id p q r, fun j hj => by rw [zst_if, if_neg (by decide)]; exact a.2.1 j hj, fun j hj => ?_⟩
  have : j ≠ i := fun e => hj (by rw [e]; exact hi)
  rw [zst_if, if_pos rfl, zup1_ne _ _ this]
  exact a.2.2 j hj
theorem zFR.s9 {t c : Nat} {g g1 : zHp} {i : Nat} {v : Int} (a : zFR t c g g1) : zFR t c g (zst g1 90 i v) :=
  ⟨fun id p q r => by rw [zst_if, if_neg r]; exact a.1 id p q r, fun j hj => by rw [zst_if, if_neg (by decide)]; exact a.2.1 j hj, fun j hj => by rw [zst_if, if_neg (by decide)]; exact a.2.2 j hj⟩
/-- the reference's state: place, codes written, open ones, whole or not, the pile -/
def zRS (g : zHp) (b : zFn) (len t : Nat) (so : Int) (p c : Nat) (o w : Int) (P : List Int) : Prop := (zTp g b len ∧ zTK g b len p ∧ p ≤ len) ∧ (g 85 12 = ((625 * t : Nat) : Int) ∧ g 85 20 = so) ∧ g 85 14 = c ∧ g 85 18 = o ∧ g 85 19 = w ∧ g 85 17 = (P.length : Int) ∧ zsk (g 90) P
theorem zTK_e {g g1 : zHp} {b : zFn} {len p : Nat} (T : zTK g b len p) (e : ∀ j, 7 ≤ j → j ≤ 11 → g1 85 j = g 85 j) : zTK g1 b len p := by
  unfold zTK at T ⊢
  rw [e 7 (by decide) (by decide), e 8 (by decide) (by decide), e 9 (by decide) (by decide), e 10 (by decide) (by decide), e 11 (by decide) (by decide)]
  exact T
theorem zTp_e {g g1 : zHp} {b : zFn} {len : Nat} (T : zTp g b len) (e4 : g1 85 4 = g 85 4) (e89 : g1 89 = g 89) : zTp g1 b len := by
  unfold zTp at T ⊢
  rw [e4, e89]
  exact T
/-- a change of one of 14, 17, 18, 19 -/
theorem zRS_st {g : zHp} {b : zFn} {len t : Nat} {so : Int} {p c : Nat} {o w : Int} {P : List Int} (S : zRS g b len t so p c o w P) {i : Nat} {v : Int} (hi : i = 14 ∨ i = 17 ∨ i = 18 ∨ i = 19) {c' : Nat} {o' w' : Int} {P' : List Int} (e14 : zst g 85 i v 85 14 = c') (e17 : zst g 85 i v 85 17 = (P'.length : Int)) (e18 : zst g 85 i v 85 18 = o') (e19 : zst g 85 i v 85 19 = w') (hP : zsk (g 90) P') : zRS (zst g 85 i v) b len t so p c' o' w' P' := by
  obtain ⟨⟨s1, s2, s3⟩, ⟨s4, s5⟩, -⟩ := S
  have ne : ∀ j, j ≠ 14 → j ≠ 17 → j ≠ 18 → j ≠ 19 → zst g 85 i v 85 j = g 85 j := fun j h1 h2 h3 h4 => by rw [zst_if, if_pos rfl, zup1_ne _ _ (by omega)]
  refine ⟨⟨zTp_e s1 (ne 4 (by decide) (by decide) (by decide) (by decide)) (by rw [zst_if, if_neg (by decide)]), zTK_e s2 (fun j h1 h2 => ne j (by omega) (by omega) (by omega) (by omega)), s3⟩, ⟨?_, ?_⟩, e14, e18, e19, e17, ?_⟩
  · rw [ne 12 (by decide) (by decide) (by decide) (by decide)]; exact s4
  · rw [ne 20 (by decide) (by decide) (by decide) (by decide)]; exact s5
  · rw [zst_if, if_neg (by decide)]; exact hP
theorem zRS_nxt {g : zHp} {b : zFn} {len t : Nat} {so : Int} {p c N : Nat} {o w : Int} {P : List Int} (hN : 1300 ≤ N) (S : zRS g b len t so p c o w P) : ∃ g1, sh_Mo_nextToken N g = some g1 ∧ zRS g1 b len t so (zne b len p) c o w P ∧ zFR t c g g1 ∧ g1 88 = g 88 := by
  obtain ⟨⟨s1, s2, s3⟩, ⟨s4, s5⟩, s6, s7, s8, s9, s10⟩ := S
  have hb := zne_b (b := b) (len := len) s3
  obtain ⟨g1, q1, q2, q3⟩ := znxt_r hN s1 hb.2.1 s2.1.1
  refine ⟨g1, q1, ⟨⟨zTp_f s1 q3 (by decide), q2, hb.2.1⟩, ⟨?_, ?_⟩, ?_, ?_, ?_, ?_, ?_⟩, ⟨fun id h _ _ => q3.1 id h, fun j _ => by rw [q3.1 88 (by decide)], fun j hj => q3.2 j (fun q => hj (by simp at q ⊢; omega))⟩, q3.1 88 (by decide)⟩
  · rw [q3.2 12 (by decide)]; exact s4
  · rw [q3.2 20 (by decide)]; exact s5
  · rw [q3.2 14 (by decide)]; exact s6
  · rw [q3.2 18 (by decide)]; exact s7
  · rw [q3.2 19 (by decide)]; exact s8
  · rw [q3.2 17 (by decide)]; exact s9
  · rw [q3.1 90 (by decide)]; exact s10
theorem zRS_emt {g : zHp} {b : zFn} {len t : Nat} {so : Int} {p c N : Nat} {o w : Int} {P : List Int} (x v : Int) (ht : t ≤ 3) (hc : c ≤ 300) (S : zRS g b len t so p c o w P) : ∃ g1, sh_Mo_emit N x v g = some g1 ∧ zRS g1 b len t so p (c + 1) o w P ∧ zFR t c g g1 ∧ (g1 88 (625 * t + 20 + 2 * c) = x ∧ g1 88 (625 * t + 20 + 2 * c + 1) = v) ∧ (∀ j, j ≠ 14 → g1 85 j = g 85 j) ∧ g1 90 = g 90 := by
  obtain ⟨⟨s1, s2, s3⟩, ⟨s4, s5⟩, s6, s7, s8, s9, s10⟩ := S
  have ex : w32 (w32 (((625 * t : Nat) : Int) + 20) + w32 (2 * (c : Int))) = ((625 * t + 20 + 2 * c : Nat) : Int) := by rw [w32_s (a := ((625 * t : Nat) : Int) + 20) (by omega) (by omega), w32_s (a := 2 * (c : Int)) (by omega) (by omega), w32_s (by omega) (by omega)]; omega
  have ex1 : w32 (((625 * t + 20 + 2 * c : Nat) : Int) + 1) = ((625 * t + 20 + 2 * c + 1 : Nat) : Int) := by rw [w32_s (by omega) (by omega)]; omega
  have e : sh_Mo_emit N x v g = some (zst (zst (zst g 88 (625 * t + 20 + 2 * c) x) 88 (625 * t + 20 + 2 * c + 1) v) 85 14 ((c + 1 : Nat) : Int)) := by
    have n85 : ∀ (i : Nat) (u : Int) (g' : zHp), zst g' 88 i u 85 = g' 85 := fun i u g' => by rw [zst_if, if_neg (by decide)]
    unfold sh_Mo_emit
    simp only [n85]
    rw [s4, s6, ex, zgrd (by omega) (by omega), Int.toNat_natCast, ex1, zgrd (by omega) (by omega), Int.toNat_natCast, w32_s (by omega) (by omega)]
    rfl
  have n14 : ∀ j, j ≠ 14 → zst (zst (zst g 88 (625 * t + 20 + 2 * c) x) 88 (625 * t + 20 + 2 * c + 1) v) 85 14 ((c + 1 : Nat) : Int) 85 j = g 85 j := fun j hj => by
    rw [zst_if, if_pos rfl, zup1_ne _ _ hj, zst_if, if_neg (by decide), zst_if, if_neg (by decide)]
  have n90 : zst (zst (zst g 88 (625 * t + 20 + 2 * c) x) 88 (625 * t + 20 + 2 * c + 1) v) 85 14 ((c + 1 : Nat) : Int) 90 = g 90 := by
    rw [zst_if, if_neg (by decide), zst_if, if_neg (by decide), zst_if, if_neg (by decide)]
  refine ⟨_, e, ⟨⟨?_, ?_, s3⟩, ⟨?_, ?_⟩, ?_, ?_, ?_, ?_, ?_⟩, ?_, ⟨?_, ?_⟩, n14, n90⟩
  · exact zTp_e s1 (n14 4 (by decide)) (by rw [zst_if, if_neg (by decide), zst_if, if_neg (by decide), zst_if, if_neg (by decide)])
  · exact zTK_e s2 (fun j _ _ => n14 j (by omega))
  · rw [n14 12 (by decide)]; exact s4
  · rw [n14 20 (by decide)]; exact s5
  · rw [zst_if, if_pos rfl, zup1_eq]
  · rw [n14 18 (by decide)]; exact s7
  · rw [n14 19 (by decide)]; exact s8
  · rw [n14 17 (by decide)]; exact s9
  · rw [n90]; exact s10
  · refine ⟨fun id p q r => by rw [zst_if, if_neg p, zst_if, if_neg q, zst_if, if_neg q], fun j hj => ?_, fun j hj => n14 j (fun q => hj (by simp [q]))⟩
    rw [zst_if, if_neg (by decide), zst_if, if_pos rfl, zup1_ne _ _ (by omega), zst_if, if_pos rfl, zup1_ne _ _ (by omega)]
  · rw [zst_if, if_neg (by decide), zst_if, if_pos rfl, zup1_ne _ _ (by omega), zst_if, if_pos rfl, zup1_eq]
  · rw [zst_if, if_neg (by decide), zst_if, if_pos rfl, zup1_eq]
theorem zRS_psh {g : zHp} {b : zFn} {len t : Nat} {so : Int} {p c N : Nat} {o w : Int} {P : List Int} (x : Int) (hP : P.length < 160) (S : zRS g b len t so p c o w P) : ∃ g1, sh_Mo_push N x g = some g1 ∧ zRS g1 b len t so p c o w (x :: P) ∧ zFR t c g g1 ∧ g1 88 = g 88 := by
  obtain ⟨⟨s1, s2, s3⟩, ⟨s4, s5⟩, s6, s7, s8, s9, s10⟩ := S
  have e : sh_Mo_push N x g = some (zst (zst g 90 P.length x) 85 17 ((P.length + 1 : Nat) : Int)) := by
    unfold sh_Mo_push
    have n85 : ∀ (i : Nat) (u : Int), zst g 90 i u 85 = g 85 := fun i u => by rw [zst_if, if_neg (by decide)]
    rw [n85, s9, zgrd (by omega) (by omega), Int.toNat_natCast, w32_s (by omega) (by omega)]
    rfl
  have n17 : ∀ j, j ≠ 17 → zst (zst g 90 P.length x) 85 17 ((P.length + 1 : Nat) : Int) 85 j = g 85 j := fun j hj => by
    rw [zst_if, if_pos rfl, zup1_ne _ _ hj, zst_if, if_neg (by decide)]
  refine ⟨_, e, ⟨⟨zTp_e s1 (n17 4 (by decide)) (by rw [zst_if, if_neg (by decide), zst_if, if_neg (by decide)]), zTK_e s2 (fun j _ _ => n17 j (by omega)), s3⟩, ⟨?_, ?_⟩, ?_, ?_, ?_, ?_, ?_⟩, (zFR.s9 (zFR.refl g)).st (by decide), ?_⟩
  · rw [n17 12 (by decide)]; exact s4
  · rw [n17 20 (by decide)]; exact s5
  · rw [n17 14 (by decide)]; exact s6
  · rw [n17 18 (by decide)]; exact s7
  · rw [n17 19 (by decide)]; exact s8
  · rw [zst_if, if_pos rfl, zup1_eq, List.length_cons]
  · rw [zst_if, if_neg (by decide), zst_if, if_pos rfl]
    exact zsk_push s10
  · rw [zst_if, if_neg (by decide), zst_if, if_neg (by decide)]
/-- codes that stand in the reference's cells from the c-th on -/
def zEm (g : zHp) (t c : Nat) (l : List Int) : Prop := ∀ (i : Nat) (v : Int), l[i]? = some v → zcd (g 88 (625 * t + 20 + 2 * (c + i))) (g 88 (625 * t + 21 + 2 * (c + i))) v
theorem zEm_nil (g : zHp) (t c : Nat) : zEm g t c [] := fun i v h => by simp at h
theorem zEm_one {g : zHp} {t c : Nat} {x v u : Int} (h : g 88 (625 * t + 20 + 2 * c) = x ∧ g 88 (625 * t + 20 + 2 * c + 1) = v) (hz : zcd x v u) : zEm g t c [u] := by
  intro i w hi
  have : i = 0 := by
    have := (List.getElem?_eq_some_iff.mp hi).1
    simp only [List.length_cons, List.length_nil] at this
    omega
  subst this
  rw [← Option.some.inj hi]
  show zcd (g 88 (625 * t + 20 + 2 * c)) (g 88 (625 * t + 21 + 2 * c)) u
  rw [h.1, show 625 * t + 21 + 2 * c = 625 * t + 20 + 2 * c + 1 by omega, h.2]
  exact hz
theorem zEm_app {g g1 : zHp} {t c : Nat} {l l' : List Int} (h : zEm g t c l) (f : zFR t (c + l.length) g g1) (h' : zEm g1 t (c + l.length) l') : zEm g1 t c (l ++ l') := by
  intro i v hi
  by_cases j : i < l.length
  · rw [List.getElem?_append_left j] at hi
    rw [f.2.1 _ (by omega), f.2.1 _ (by omega)]
    exact h i v hi
  · rw [List.getElem?_append_right (by omega)] at hi
    have := h' (i - l.length) v hi
    rw [show c + l.length + (i - l.length) = c + i by omega] at this
    exact this
theorem zEm_k {g g1 : zHp} {t c : Nat} {l : List Int} (h : zEm g t c l) (e : g1 88 = g 88) : zEm g1 t c l := by
  unfold zEm
  rw [e]
  exact h
/-- the codes of the pile's operations -/
def zoc (x : Int) : Int := x + 20021
def zops (lo : Int) (l : List Int) : Prop := ∀ x ∈ l, lo ≤ x ∧ 3 ≤ x ∧ x ≤ 6
theorem zstl_r {b : zFn} {len t : Nat} {so : Int} {p : Nat} {o w : Int} {Q : List Int} (N : Nat) (lo : Int) (ht : t ≤ 3) (hlo : 3 ≤ lo) (hQ : ∀ x Q', Q = x :: Q' → 40 ≤ x ∨ x < lo) : ∀ (ops : List Int) (n c : Nat) (g : zHp), zops lo ops → zRS g b len t so p c o w (ops ++ Q) → c + ops.length ≤ 300 → (ops ++ Q).length < 160 → ops.length < n →
    ∃ g1, sh_Mo_settle_L0 N n lo g = some g1 ∧ zRS g1 b len t so p (c + ops.length) o w Q ∧ zFR t c g g1 ∧ zEm g1 t c (ops.map zoc) := by
  intro ops
  induction ops with
  | nil =>
    intro n c g ho S hc hl hn
    obtain ⟨n, rfl⟩ : ∃ m, n = m + 1 := ⟨n - 1, by omega⟩
    refine ⟨g, ?_, S, zFR.refl g, zEm_nil g t c⟩
    obtain ⟨-, -, -, -, -, s9, s10⟩ := S
    unfold sh_Mo_settle_L0
    cases hq : Q with
    | nil =>
      rw [hq] at s9
      rw [s9, if_pos (by decide)]
    | cons x Q' =>
      rw [hq] at s9 s10 hl
      simp only [List.nil_append, List.length_cons] at s9 s10 hl
      have hx : g 90 Q'.length = x := s10.1
      have e1 : w32 (((Q'.length + 1 : Nat) : Int) - 1) = (Q'.length : Int) := by rw [w32_s (by omega) (by omega)]; omega
      rw [s9, if_neg (by omega), e1, zgrd (by omega) (by omega), Int.toNat_natCast, hx]
      rcases hQ x Q' hq with h | h
      · rw [if_pos h]
      · rw [zgrd (by omega) (by omega)]
        by_cases h40 : 40 ≤ x
        · rw [if_pos h40]
        · rw [if_neg h40, if_pos h]
  | cons x ops ih =>
    intro n c g ho S hc hl hn
    obtain ⟨n, rfl⟩ : ∃ m, n = m + 1 := ⟨n - 1, by omega⟩
    have hS := S
    obtain ⟨-, -, s6, s7, s8, s9, s10⟩ := hS
    simp only [List.cons_append, List.length_cons] at s9 s10 hl hc hn
    have hx : g 90 (ops ++ Q).length = x := s10.1
    have hox := ho x List.mem_cons_self
    have e1 : w32 ((((ops ++ Q).length + 1 : Nat) : Int) - 1) = ((ops ++ Q).length : Int) := by rw [w32_s (by omega) (by omega)]; omega
    have S1 : zRS (zst g 85 17 ((ops ++ Q).length : Int)) b len t so p c o w (ops ++ Q) := zRS_st S (Or.inr (Or.inl rfl)) (by rw [zst_if, if_pos rfl, zup1_ne _ _ (by decide)]; exact s6) (by rw [zst_if, if_pos rfl, zup1_eq]) (by rw [zst_if, if_pos rfl, zup1_ne _ _ (by decide)]; exact s7) (by rw [zst_if, if_pos rfl, zup1_ne _ _ (by decide)]; exact s8) s10.2
    obtain ⟨g2, q1, q2, q3, q4, -⟩ := zRS_emt (N := N) x 0 ht (by omega) S1
    obtain ⟨g3, r1, r2, r3, r4⟩ := ih n (c + 1) g2 (fun y hy => ho y (List.mem_cons_of_mem _ hy)) q2 (by omega) (by omega) (by omega)
    have f1 : zFR t c g g2 := ((zFR.refl g).st (by decide)).trans q3 (Nat.le_refl _)
    refine ⟨g3, ?_, ?_, f1.trans r3 (by omega), ?_⟩
    · unfold sh_Mo_settle_L0
      have e17 : zst g 85 17 ((ops ++ Q).length : Int) 85 17 = ((ops ++ Q).length : Int) := by rw [zst_if, if_pos rfl, zup1_eq]
      have e90 : zst g 85 17 ((ops ++ Q).length : Int) 90 = g 90 := by rw [zst_if, if_neg (by decide)]
      rw [s9, if_neg (by omega), e1, zgrd (by omega) (by omega), Int.toNat_natCast, hx, if_neg (by omega), zgrd (by omega) (by omega), if_neg (by omega), e17, zgrd (by omega) (by omega), Int.toNat_natCast, e90, hx, q1]
      exact r1
    · rw [show c + (x :: ops).length = c + 1 + ops.length by simp only [List.length_cons]; omega]
      exact r2
    · have hz : zcd x 0 (zoc x) := by
        have hc4 : x = 3 ∨ x = 4 ∨ x = 5 ∨ x = 6 := by omega
        rcases hc4 with rfl | rfl | rfl | rfl <;> (unfold zcd zoc; decide)
      have := zEm_app (l := [zoc x]) (zEm_one q4 hz) r3 r4
      exact this
theorem zwhL_r {b : zFn} {len t : Nat} {so : Int} {p : Nat} {w : Int} {Q : List Int} (N : Nat) (ht : t ≤ 3) (hQ : ∀ x Q', Q = x :: Q' → x ≠ 2) : ∀ (j n c : Nat) (o : Int) (g : zHp), zRS g b len t so p c o w (List.replicate j 2 ++ Q) → c + j ≤ 300 → j + Q.length < 160 → (j : Int) - 100 ≤ o → o ≤ 100 → j < n →
    ∃ g1, sh_Mo_whole_L3 N n g = some g1 ∧ zRS g1 b len t so p (c + j) (o - j) w Q ∧ zFR t c g g1 ∧ zEm g1 t c (List.replicate j 20033) := by
  intro j
  induction j with
  | zero =>
    intro n c o g S hc hl ho1 ho2 hn
    obtain ⟨n, rfl⟩ : ∃ m, n = m + 1 := ⟨n - 1, by omega⟩
    refine ⟨g, ?_, by rw [show o - ((0 : Nat) : Int) = o by omega]; exact S, zFR.refl g, zEm_nil g t c⟩
    obtain ⟨-, -, -, -, -, s9, s10⟩ := S
    unfold sh_Mo_whole_L3
    cases hq : Q with
    | nil =>
      rw [hq] at s9
      rw [s9, if_pos (by decide)]
    | cons x Q' =>
      rw [hq] at s9 s10 hl
      simp only [List.replicate_zero, List.nil_append, List.length_cons] at s9 s10 hl
      have hx : g 90 Q'.length = x := s10.1
      have e1 : w32 (((Q'.length + 1 : Nat) : Int) - 1) = (Q'.length : Int) := by rw [w32_s (by omega) (by omega)]; omega
      rw [s9, if_neg (by omega), e1, zgrd (by omega) (by omega), Int.toNat_natCast, hx, if_neg (hQ x Q' hq)]
  | succ j ih =>
    intro n c o g S hc hl ho1 ho2 hn
    obtain ⟨n, rfl⟩ : ∃ m, n = m + 1 := ⟨n - 1, by omega⟩
    have hS := S
    obtain ⟨-, -, s6, s7, s8, s9, s10⟩ := hS
    rw [List.replicate_succ, List.cons_append] at s9 s10
    simp only [List.length_cons] at s9
    have hll : (List.replicate j (2 : Int) ++ Q).length = j + Q.length := by rw [List.length_append, List.length_replicate]
    have hx : g 90 (List.replicate j (2 : Int) ++ Q).length = 2 := s10.1
    rw [hll] at s9 hx
    have e1 : w32 (((j + Q.length + 1 : Nat) : Int) - 1) = ((j + Q.length : Nat) : Int) := by rw [w32_s (by omega) (by omega)]; omega
    have S1 : zRS (zst g 85 17 ((j + Q.length : Nat) : Int)) b len t so p c o w (List.replicate j 2 ++ Q) := zRS_st S (Or.inr (Or.inl rfl)) (by rw [zst_if, if_pos rfl, zup1_ne _ _ (by decide)]; exact s6) (by rw [zst_if, if_pos rfl, zup1_eq, hll]) (by rw [zst_if, if_pos rfl, zup1_ne _ _ (by decide)]; exact s7) (by rw [zst_if, if_pos rfl, zup1_ne _ _ (by decide)]; exact s8) s10.2
    obtain ⟨u1, u2, u6, u7, u8, u9, u10⟩ := S1
    have S1 : zRS (zst g 85 17 ((j + Q.length : Nat) : Int)) b len t so p c o w (List.replicate j 2 ++ Q) := ⟨u1, u2, u6, u7, u8, u9, u10⟩
    have S2 : zRS (zst (zst g 85 17 ((j + Q.length : Nat) : Int)) 85 18 (o - 1)) b len t so p c (o - 1) w (List.replicate j 2 ++ Q) := zRS_st S1 (Or.inr (Or.inr (Or.inl rfl))) (by rw [zst_if, if_pos rfl, zup1_ne _ _ (by decide)]; exact u6) (by rw [zst_if, if_pos rfl, zup1_ne _ _ (by decide)]; exact u9) (by rw [zst_if, if_pos rfl, zup1_eq]) (by rw [zst_if, if_pos rfl, zup1_ne _ _ (by decide)]; exact u8) u10
    obtain ⟨g2, q1, q2, q3, q4, -⟩ := zRS_emt (N := N) 2 0 ht (by omega) S2
    obtain ⟨g3, r1, r2, r3, r4⟩ := ih n (c + 1) (o - 1) g2 q2 (by omega) (by omega) (by omega) (by omega) (by omega)
    have f1 : zFR t c g g2 := (((zFR.refl g).st (by decide)).st (by decide)).trans q3 (Nat.le_refl _)
    refine ⟨g3, ?_, ?_, f1.trans r3 (by omega), ?_⟩
    · unfold sh_Mo_whole_L3
      rw [s9, if_neg (by omega), e1, zgrd (by omega) (by omega), Int.toNat_natCast, hx, if_pos rfl, u7, w32_s (by omega) (by omega), q1]
      exact r1
    · rw [show c + (j + 1) = c + 1 + j by omega, show o - ((j + 1 : Nat) : Int) = o - 1 - (j : Int) by omega]
      exact r2
    · have hz : zcd 2 0 20033 := by
        unfold zcd
        decide
      have := zEm_app (l := [20033]) (zEm_one q4 hz) r3 r4
      exact this
