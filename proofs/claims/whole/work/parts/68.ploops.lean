/-! PURE: text, the clauses one after another -/
def zcT (F : Nat → List Int) : Nat := (if F 0 = [] then 0 else 1) + (if F 1 = [] then 0 else 1) + (if F 2 = [] then 0 else 1) + (if F 3 = [] then 0 else 1) + (if F 4 = [] then 0 else 1)
def zFu (F : Nat → List Int) (s : Nat) (l : List Int) : Nat → List Int := fun x => if x = s then l else F x
theorem zFu_eq (F : Nat → List Int) (s : Nat) (l : List Int) : zFu F s l s = l := if_pos rfl
theorem zFu_ne (F : Nat → List Int) {s s' : Nat} (l : List Int) (h : s' ≠ s) : zFu F s l s' = F s' := if_neg h
theorem zcT_5 (F : Nat → List Int) : zcT F ≤ 5 := by
  unfold zcT
  repeat' split
  all_goals omega
theorem zcT_4 {F : Nat → List Int} {s : Nat} (hs : s < 5) (h : F s = []) : zcT F ≤ 4 := by
  have : s = 0 ∨ s = 1 ∨ s = 2 ∨ s = 3 ∨ s = 4 := by omega
  unfold zcT
  rcases this with rfl | rfl | rfl | rfl | rfl <;> rw [if_pos h] <;> (repeat' split) <;> omega
theorem zcT_u {F : Nat → List Int} {s : Nat} {l : List Int} (hs : s < 5) (h : F s = []) (hl : l ≠ []) : zcT (zFu F s l) = zcT F + 1 := by
  have : s = 0 ∨ s = 1 ∨ s = 2 ∨ s = 3 ∨ s = 4 := by omega
  unfold zcT
  rcases this with rfl | rfl | rfl | rfl | rfl
  · rw [zFu_eq, zFu_ne F l (by decide), zFu_ne F l (by decide), zFu_ne F l (by decide), zFu_ne F l (by decide), if_pos h, if_neg hl] <;> omega
  · rw [zFu_eq, zFu_ne F l (by decide), zFu_ne F l (by decide), zFu_ne F l (by decide), zFu_ne F l (by decide), if_pos h, if_neg hl] <;> omega
  · rw [zFu_eq, zFu_ne F l (by decide), zFu_ne F l (by decide), zFu_ne F l (by decide), zFu_ne F l (by decide), if_pos h, if_neg hl] <;> omega
  · rw [zFu_eq, zFu_ne F l (by decide), zFu_ne F l (by decide), zFu_ne F l (by decide), zFu_ne F l (by decide), if_pos h, if_neg hl] <;> omega
  · rw [zFu_eq, zFu_ne F l (by decide), zFu_ne F l (by decide), zFu_ne F l (by decide), zFu_ne F l (by decide), if_pos h, if_neg hl] <;> omega
def zRdT (b : zFn) (len : Nat) : Nat → Nat → (Nat → List Int) → (Int × Nat) ⊕ (Nat → List Int)
  | 0, _, F => .inr F
  | k + 1, p, F => if zco b len p = 35 then .inr F else match zCl b len p F with
    | .inl e => .inl e
    | .inr (p', l) => zRdT b len k (zne b len p') (zFu F (zco b len p - 11).toNat l)
def zLw (F : Nat → List Int) : Prop := ∀ s : Nat, s < 5 → F s ≠ [] → zwf s (0, 0) (F s) = some (if (s : Int) < 2 then (1, 0) else (0, 1))
def zLc (h : zHp) (t c : Nat) (F : Nat → List Int) : Prop := ∀ s : Nat, s < 5 → ∃ f : Nat, h 30 (5 * t + s) = ((300 * t + f : Nat) : Int) ∧ h 32 (5 * t + s) = ((300 * t + (f + (F s).length) : Nat) : Int) ∧ f + (F s).length ≤ c ∧ ∀ (i : Nat) (v : Int), (F s)[i]? = some v → h 28 (300 * t + f + i) = v
theorem zLc_h {h : zHp} {t c : Nat} {F : Nat → List Int} (A : zLc h t c F) : zHs h t F := by
  intro s hs
  obtain ⟨f, a1, a2, -⟩ := A s hs
  rw [a1, a2, ← List.length_eq_zero_iff]
  omega
theorem zrd_c {N : Nat} {b : zFn} {len t : Nat} (hN : 1300 ≤ N) (ht : t ≤ 3) (hl : len ≤ 300) : ∀ (k n p c : Nat) (cl : Int) (h : zHp) (F : Nat → List Int), zCS h b len t cl p c → c ≤ p → p ≤ len → zLc h t c F → zLw F → zcT F + k = 6 → k < n →
    match zRdT b len k p F with
    | .inl e => ∃ h1, sh_Reader_read_L26 N n ((zcT F : Nat) : Int) h = some h1 ∧ h1 67 2 = e.1 ∧ h1 67 3 = (e.2 : Int) ∧ e.1 ≠ 0 ∧ zFD t h h1
    | .inr F' => ∃ (h1 : zHp) (c' : Nat), sh_Reader_read_L26 N n ((zcT F : Nat) : Int) h = some h1 ∧ (h1 67 2 = 0 ∧ h1 67 3 = -1) ∧ zLc h1 t c' F' ∧ c' ≤ 300 ∧ zLw F' ∧ zFD t h h1 := by
  intro k
  induction k with
  | zero =>
    intro n p c cl h F S hc hp A W hk hn
    have := zcT_5 F
    omega
  | succ k ih =>
    intro n p c cl h F S hc hp A W hk hn
    obtain ⟨n, rfl⟩ : ∃ m, n = m + 2 := ⟨n - 2, by omega⟩
    have h2 : h 67 2 = 0 := S.2.1
    have h10 : h 67 10 = zco b len p := S.2.2.2.2.2.1
    have h3 : h 67 3 = -1 := S.2.2.2.2.2.2.2
    have h5 := zcT_5 F
    unfold zRdT
    by_cases c1 : zco b len p = 35
    · rw [if_pos c1]
      refine ⟨h, c, ?_, ⟨h2, h3⟩, A, by omega, W, zFD.refl h⟩
      unfold sh_Reader_read_L26
      rw [if_neg (by omega), if_pos h2, if_pos (by rw [h10]; exact c1)]
    rw [if_neg c1]
    have hu : sh_Reader_read_L26 N (n + 2) ((zcT F : Nat) : Int) h = zb1 (sh_Reader_readClause N h) fun h21 => sh_Reader_read_L26 N (n + 1) ((zcT F + 1 : Nat) : Int) h21 := by
      conv => enter [1]; unfold sh_Reader_read_L26
      rw [if_neg (by omega), if_pos h2, if_neg (by rw [h10]; exact c1), show w32 (((zcT F : Nat) : Int) + 1) = ((zcT F + 1 : Nat) : Int) by rw [w32_s (by omega) (by omega)]; omega]
    have hC := zcl_c (N := N) hN ht hl S hc hp (zLc_h A)
    rw [hu]
    cases hr : zCl b len p F with
    | inl e =>
      rw [hr] at hC
      obtain ⟨h1, r1, r2, r3, r4, r5⟩ := hC
      refine ⟨h1, ?_, r2, r3, r4, r5⟩
      rw [r1]
      show sh_Reader_read_L26 N (n + 1) ((zcT F + 1 : Nat) : Int) h1 = some h1
      unfold sh_Reader_read_L26
      rw [if_neg (c := h1 67 2 = 0) (by rw [r2]; exact r4)]
      split <;> rfl
    | inr q =>
      obtain ⟨p', l⟩ := q
      rw [hr] at hC
      obtain ⟨h1, s, ⟨s1, s2, s3⟩, r1, r2, ⟨r3, r4⟩, r5, r6, r7, ⟨y1, y2, y3, y4⟩, r8⟩ := hC
      have hsn : (zco b len p - 11).toNat = s := by omega
      have A1 : zLc h1 t (c + l.length) (zFu F s l) := by
        intro s' hs'
        by_cases e : s' = s
        · rw [e, zFu_eq]
          exact ⟨c, r3, r4, Nat.le_refl _, r5⟩
        · rw [zFu_ne F l e]
          obtain ⟨f, a1, a2, a3, a4⟩ := A s' hs'
          have := r6 (5 * t + s') (by omega)
          refine ⟨f, this.1.trans a1, this.2.trans a2, by omega, fun i v hi => ?_⟩
          have hi2 := (List.getElem?_eq_some_iff.mp hi).1
          rw [r7 _ (by omega)]
          exact a4 i v hi
      have W1 : zLw (zFu F s l) := by
        intro s' hs' hne
        by_cases e : s' = s
        · rw [e, zFu_eq]; exact y4
        · rw [zFu_ne F l e] at hne ⊢
          exact W s' hs' hne
      have hcu := zcT_u s1 s3 y3
      have hI := ih (n + 1) (zne b len p') (c + l.length) s h1 (zFu F s l) r2 y1 y2 A1 W1 (by omega) (by omega)
      rw [hcu] at hI
      rw [r1]
      simp only [zb1_some, hsn]
      cases hr2 : zRdT b len k (zne b len p') (zFu F s l) with
      | inl e =>
        rw [hr2] at hI
        obtain ⟨h3, u1, u2, u3, u4, u5⟩ := hI
        exact ⟨h3, u1, u2, u3, u4, r8.trans u5⟩
      | inr F' =>
        rw [hr2] at hI
        obtain ⟨h3, c', u1, u2, u3, u4, u5, u6⟩ := hI
        exact ⟨h3, c', u1, u2, u3, u4, u5, r8.trans u6⟩
def zLr (g : zHp) (t c : Nat) (F : Nat → List Int) : Prop := g 88 (625 * t) = ((zcT F : Nat) : Int) ∧ ∀ s : Nat, s < 5 → (F s = [] ∧ ∀ k, k < zcT F → g 88 (625 * t + 1 + 3 * k) ≠ s) ∨
  (∃ k f : Nat, k < zcT F ∧ g 88 (625 * t + 1 + 3 * k) = s ∧ (∀ j, j < k → g 88 (625 * t + 1 + 3 * j) ≠ s) ∧ g 88 (625 * t + 2 + 3 * k) = f ∧ g 88 (625 * t + 3 + 3 * k) = ((f + (F s).length : Nat) : Int) ∧ f + (F s).length ≤ c ∧ F s ≠ [] ∧ zEm g t f (F s))
theorem zLr_u {g g1 : zHp} {t c s : Nat} {F : Nat → List Int} {l : List Int} (A : zLr g t c F) (s1 : s < 5) (s3 : F s = []) (hl : l ≠ []) (r3 : g1 88 (625 * t) = ((zcT F + 1 : Nat) : Int)) (r4 : g1 88 (625 * t + 1 + 3 * zcT F) = s) (r5 : g1 88 (625 * t + 2 + 3 * zcT F) = c) (r6 : g1 88 (625 * t + 3 + 3 * zcT F) = ((c + l.length : Nat) : Int)) (r7 : zEm g1 t c l)
    (r9 : ∀ j, j < 625 * t + 20 + 2 * c → j ≠ 625 * t → (j < 625 * t + 1 + 3 * zcT F ∨ 625 * t + 3 + 3 * zcT F < j) → g1 88 j = g 88 j) : zLr g1 t (c + l.length) (zFu F s l) := by
  have hcu := zcT_u s1 s3 hl
  have h4 := zcT_4 s1 s3
  refine ⟨by rw [hcu]; exact r3, ?_⟩
  intro s' hs'
  rw [hcu]
  have old : ∀ k, k < zcT F → g1 88 (625 * t + 1 + 3 * k) = g 88 (625 * t + 1 + 3 * k) := fun k hk => r9 _ (by omega) (by omega) (Or.inl (by omega))
  by_cases e : s' = s
  · subst e
    rw [zFu_eq]
    refine Or.inr ⟨zcT F, c, by omega, r4, fun j hj => ?_, r5, r6, Nat.le_refl _, hl, r7⟩
    rw [old j hj]
    rcases A.2 s' s1 with q | ⟨k, f, -, -, -, -, -, -, q, -⟩
    · exact q.2 j hj
    · exact absurd s3 q
  · rw [zFu_ne F l e]
    rcases A.2 s' hs' with ⟨q1, q2⟩ | ⟨k, f, q1, q2, q3, q4, q5, q6, q7, q8⟩
    · refine Or.inl ⟨q1, fun k hk => ?_⟩
      by_cases ek : k = zcT F
      · rw [ek, r4]
        omega
      · rw [old k (by omega)]
        exact q2 k (by omega)
    · refine Or.inr ⟨k, f, by omega, by rw [old k q1]; exact q2, fun j hj => by rw [old j (by omega)]; exact q3 j hj, ?_, ?_, by omega, q7, fun i v hi => ?_⟩
      · rw [r9 _ (by omega) (by omega) (Or.inl (by omega))]; exact q4
      · rw [r9 _ (by omega) (by omega) (Or.inl (by omega))]; exact q5
      · have hi2 := (List.getElem?_eq_some_iff.mp hi).1
        rw [r9 _ (by omega) (by omega) (Or.inr (by omega)), r9 _ (by omega) (by omega) (Or.inr (by omega))]
        exact q8 i v hi
theorem zrd_r {N : Nat} {b : zFn} {len t : Nat} (hN : 1300 ≤ N) (ht : t ≤ 3) (hl : len ≤ 300) : ∀ (k n p c : Nat) (so : Int) (g : zHp) (F : Nat → List Int), zRS0 g b len t so p c 0 → c ≤ p → zLr g t c F → zBt g F → zcT F + k = 6 → k < n →
    match zRdT b len k p F with
    | .inl e => ∃ g1, sh_Mo_readText_L28 N n g = some (.inl (e.1, g1)) ∧ g1 85 8 = (e.2 : Int) ∧ zFX t g g1
    | .inr F' => ∃ (g1 : zHp) (c' : Nat), sh_Mo_readText_L28 N n g = some (.inr g1) ∧ zLr g1 t c' F' ∧ c' ≤ 300 ∧ zFX t g g1 := by
  intro k
  induction k with
  | zero =>
    intro n p c so g F S hc A B hk hn
    have := zcT_5 F
    omega
  | succ k ih =>
    intro n p c so g F S hc A B hk hn
    obtain ⟨n, rfl⟩ : ∃ m, n = m + 1 := ⟨n - 1, by omega⟩
    have hp := S.1.2.2
    have hT := (zTK_s S.1.2.1).1
    unfold zRdT
    by_cases c1 : zco b len p = 35
    · rw [if_pos c1]
      refine ⟨g, c, ?_, A, by omega, zFX.refl g⟩
      unfold sh_Mo_readText_L28
      rw [if_pos (hT.mpr c1)]
    rw [if_neg c1]
    have hu : sh_Mo_readText_L28 N (n + 1) g = zb2 (sh_Mo_clause N g) fun r14 h15 => if r14 = 0 then sh_Mo_readText_L28 N n h15 else some (.inl (r14, h15)) := by
      conv => enter [1]; unfold sh_Mo_readText_L28
      rw [if_neg (fun q => c1 (hT.mp q))]
    have hC := zcl_r (N := N) hN ht hl S hc A.1 (fun s h1 h2 => zcT_4 h1 h2) B
    have hgE : ∀ e, zCl b len p F = .inl e → e.1 ≠ 0 := by
      intro e he
      have hgs := fun s : Int => zRk_g (b := b) (len := len) (s := s) (zne b len p) (zne_b (b := b) (len := len) hp).2.1
      unfold zCl at he
      by_cases d0 : 11 ≤ zco b len p ∧ zco b len p ≤ 15
      case neg =>
        rw [if_neg d0] at he
        cases he
        exact (by decide : (1 : Int) ≠ 0)
      rw [if_pos d0] at he
      by_cases d1 : F (zco b len p - 11).toNat = []
      case neg =>
        rw [if_neg d1] at he
        cases he
        exact (by decide : (4 : Int) ≠ 0)
      rw [if_pos d1] at he
      have hgk := hgs (zco b len p - 11)
      cases hk2 : zRk b len (zco b len p - 11) (zne b len p) with
      | inl e' =>
        rw [hk2] at he hgk
        cases he
        have := hgk.1
        omega
      | inr q =>
        obtain ⟨p', l⟩ := q
        rw [hk2] at he
        simp only at he
        by_cases d2 : zco b len p' = 30
        · rw [if_pos d2] at he
          cases he
        · rw [if_neg d2] at he
          cases he
          exact (by decide : (1 : Int) ≠ 0)
    have hgL : ∀ p' l, zCl b len p F = .inr (p', l) → zne b len p + l.length ≤ p' ∧ p' ≤ len ∧ l ≠ [] := by
      intro p1 l1 he
      have hgs := fun s : Int => zRk_g (b := b) (len := len) (s := s) (zne b len p) (zne_b (b := b) (len := len) hp).2.1
      unfold zCl at he
      by_cases d0 : 11 ≤ zco b len p ∧ zco b len p ≤ 15
      case neg =>
        rw [if_neg d0] at he
        cases he
      rw [if_pos d0] at he
      by_cases d1 : F (zco b len p - 11).toNat = []
      case neg =>
        rw [if_neg d1] at he
        cases he
      rw [if_pos d1] at he
      have hgk := hgs (zco b len p - 11)
      cases hk2 : zRk b len (zco b len p - 11) (zne b len p) with
      | inl e' =>
        rw [hk2] at he
        cases he
      | inr q =>
        obtain ⟨p', l⟩ := q
        rw [hk2] at he hgk
        simp only at he
        by_cases d2 : zco b len p' = 30
        · rw [if_pos d2] at he
          cases he
          exact hgk
        · rw [if_neg d2] at he
          cases he
    rw [hu]
    cases hr : zCl b len p F with
    | inl e =>
      rw [hr] at hC
      obtain ⟨g1, r1, r2, r3⟩ := hC
      refine ⟨g1, ?_, r2, r3⟩
      rw [r1]
      simp only [zb2_some]
      rw [if_neg (hgE e hr)]
    | inr q =>
      obtain ⟨p', l⟩ := q
      rw [hr] at hC
      obtain ⟨y1, y2, y3⟩ := hgL p' l hr
      have hb1 := zne_b (b := b) (len := len) hp
      have hb2 := zne_b (b := b) (len := len) y2
      obtain ⟨g1, s, ⟨s1, s2, s3⟩, r1, r2, ⟨r3, r4, r5, r6⟩, r7, r8, r9, r10⟩ := hC
      have hsn : (zco b len p - 11).toNat = s := by omega
      have A1 := zLr_u A s1 s3 y3 r3 r4 r5 r6 r7 r9
      have hcu := zcT_u s1 s3 y3
      have hI := ih n (zne b len p') (c + l.length) s g1 (zFu F s l) r2 (by omega) A1 r8 (by omega) (by omega)
      rw [r1]
      simp only [zb2_some, hsn]
      rw [if_pos trivial]
      cases hr2 : zRdT b len k (zne b len p') (zFu F s l) with
      | inl e =>
        rw [hr2] at hI
        obtain ⟨g3, u1, u2, u3⟩ := hI
        exact ⟨g3, u1, u2, r10.trans u3⟩
      | inr F' =>
        rw [hr2] at hI
        obtain ⟨g3, c', u1, u2, u3, u4⟩ := hI
        exact ⟨g3, c', u1, u2, u3, r10.trans u4⟩
