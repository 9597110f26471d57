/-! PURE: text, the reference's either -/
theorem zJ1_n (k : Int) : zJ1 k = true ↔ k = 17 := by unfold zJ1; rw [decide_eq_true_iff]
theorem zJ0_n (k : Int) : zJ0 k = true ↔ k = 16 := by unfold zJ0; rw [decide_eq_true_iff]
theorem zEi21 {N : Nat} {rec : Int → Int → Int → zHp → Option ((Int × zHp) ⊕ zHp)} {x2 : Int} {g : zHp} {b : zFn} {len p : Nat} (T : zTK g b len p) (h : zco b len p = 17) : sh_Mo_either_L6_J21 N rec x2 g = zb1 (sh_Mo_nextToken N g) fun h38 => rec 1 x2 1 h38 := by
  unfold sh_Mo_either_L6_J21 sh_Mo_either_L6_J51
  rw [zand_W T, if_pos h]
  rfl
theorem zEi21n {N : Nat} {rec : Int → Int → Int → zHp → Option ((Int × zHp) ⊕ zHp)} {x2 : Int} {g : zHp} {b : zFn} {len p : Nat} (T : zTK g b len p) (h : zco b len p ≠ 17) : sh_Mo_either_L6_J21 N rec x2 g = if x2 = 0 then sh_Mo_either_L6_J49 N rec 0 (if zco b len p = 16 then 1 else 0) g else zb1 (sh_Mo_emit N 22 0 g) fun h47 => sh_Mo_either_L6_J49 N rec 0 (if zco b len p = 16 then 1 else 0) h47 := by
  unfold sh_Mo_either_L6_J21
  rw [zand_W T, zor_W T, if_neg h, if_pos rfl]
theorem zEi49 {N : Nat} {rec : Int → Int → Int → zHp → Option ((Int × zHp) ⊕ zHp)} {g : zHp} : sh_Mo_either_L6_J49 N rec 0 1 g = zb1 (sh_Mo_nextToken N g) fun h38 => rec 0 1 1 h38 := rfl
theorem zEi49n {N : Nat} {rec : Int → Int → Int → zHp → Option ((Int × zHp) ⊕ zHp)} {g : zHp} : sh_Mo_either_L6_J49 N rec 0 0 g = rec 0 0 0 g := rfl
theorem zask_L {N : Nat} {b : zFn} {len t : Nat} {so : Int} {p c n : Nat} {x1 x2 : Int} {g : zHp} (hN : 1300 ≤ N) (ht : t ≤ 3) (hl : len ≤ 300) (S : zRS0 g b len t so p c 0) (hc : c ≤ p) :
    match zask b len so 8 p with
    | .inl e => ∃ g1, sh_Mo_either_L6 N (n + 1) x1 x2 1 g = some (.inl (e.1, g1)) ∧ g1 85 8 = (e.2 : Int) ∧ zFR t c g g1
    | .inr (p', l) => ∃ g1, sh_Mo_either_L6 N (n + 1) x1 x2 1 g = sh_Mo_either_L6_J21 N (sh_Mo_either_L6 N n) x2 g1 ∧ zRS g1 b len t so p' (c + l.length + (if x1 = 0 then 0 else 1)) 0 1 [] ∧ zEm g1 t c (l ++ (if x1 = 0 then [] else [20017])) ∧ zFR t c g g1 := by
  have hp := S.1.2.2
  have h1 := zasks_r (b := b) (so := so) hN ht hl S hc
  have hgs := zask_g (b := b) (len := len) (cl := so) 8 p hp
  have hu : sh_Mo_either_L6 N (n + 1) x1 x2 1 g = zb2 (sh_Mo_asks N g) fun r7 h8 => if r7 = 0 then (if x1 = 0 then sh_Mo_either_L6_J21 N (sh_Mo_either_L6 N n) x2 h8 else zb1 (sh_Mo_emit N 21 0 h8) fun h53 => sh_Mo_either_L6_J21 N (sh_Mo_either_L6 N n) x2 h53) else some (.inl (r7, h8)) := rfl
  rw [hu]
  cases hr : zask b len so 8 p with
  | inl e =>
    rw [hr] at h1 hgs
    obtain ⟨g1, q1, q2, q3⟩ := h1
    have hne : e.1 ≠ 0 := by have := hgs.1; omega
    refine ⟨g1, ?_, q2, q3⟩
    rw [q1]
    simp only [zb2_some]
    rw [if_neg hne]
  | inr q =>
    obtain ⟨p', l⟩ := q
    rw [hr] at h1 hgs
    obtain ⟨g1', g2', g3'⟩ := hgs
    obtain ⟨g1, q1, q2, q3, q4⟩ := h1
    show ∃ g2, zb2 (sh_Mo_asks N g) (fun r7 h8 => if r7 = 0 then (if x1 = 0 then sh_Mo_either_L6_J21 N (sh_Mo_either_L6 N n) x2 h8 else zb1 (sh_Mo_emit N 21 0 h8) fun h53 => sh_Mo_either_L6_J21 N (sh_Mo_either_L6 N n) x2 h53) else some (.inl (r7, h8))) = sh_Mo_either_L6_J21 N (sh_Mo_either_L6 N n) x2 g2 ∧ zRS g2 b len t so p' (c + l.length + (if x1 = 0 then 0 else 1)) 0 1 [] ∧ zEm g2 t c (l ++ (if x1 = 0 then [] else [20017])) ∧ zFR t c g g2
    rw [q1]
    simp only [zb2_some]
    rw [if_pos trivial]
    by_cases e1 : x1 = 0
    · simp only [if_pos e1]
      exact ⟨g1, rfl, q2, by rw [List.append_nil]; exact q3, q4⟩
    · simp only [if_neg e1]
      obtain ⟨g2, r1, r2, r3, r4, -⟩ := zRS_emt (N := N) 21 0 ht (by omega) q2
      refine ⟨g2, ?_, r2, ?_, q4.trans r3 (by omega)⟩
      · rw [r1]; rfl
      · exact zEm_app q3 r3 (zEm_one r4 (by unfold zcd; decide))
theorem zbth_L {N : Nat} {b : zFn} {len t : Nat} {so : Int} {x2 : Int} (hN : 1300 ≤ N) (ht : t ≤ 3) (hl : len ≤ 300) : ∀ (k p c0 n : Nat) (acc : List Int) (g : zHp), zRS g b len t so p (c0 + acc.length) 0 1 [] → zEm g t c0 acc → c0 + acc.length ≤ p → len ≤ p + k → len < n + p →
    match zlpR b len zJ1 (zask b len so 8) k p acc with
    | .inl e => ∃ g1, sh_Mo_either_L6_J21 N (sh_Mo_either_L6 N n) x2 g = some (.inl (e.1, g1)) ∧ g1 85 8 = (e.2 : Int) ∧ zFR t (c0 + acc.length) g g1
    | .inr (p', l) => ∃ g1 n', sh_Mo_either_L6_J21 N (sh_Mo_either_L6 N n) x2 g = sh_Mo_either_L6_J21 N (sh_Mo_either_L6 N n') x2 g1 ∧ zco b len p' ≠ 17 ∧ len < n' + p' ∧ zRS g1 b len t so p' (c0 + l.length) 0 1 [] ∧ zEm g1 t c0 l ∧ zFR t (c0 + acc.length) g g1 := by
  intro k
  induction k with
  | zero =>
    intro p c0 n acc g S E hc hk hn
    have hp := S.1.2.2
    have hz : zco b len p = 35 := zco_e (by have := (zne_b (b := b) (len := len) hp).2.2.2.1; omega)
    unfold zlpR
    exact ⟨g, n, rfl, by omega, hn, S, E, zFR.refl g⟩
  | succ k ih =>
    intro p c0 n acc g S E hc hk hn
    have hp := S.1.2.2
    unfold zlpR
    by_cases c17 : zco b len p = 17
    case neg =>
      rw [if_neg (fun q => c17 ((zJ1_n _).mp q))]
      exact ⟨g, n, rfl, c17, hn, S, E, zFR.refl g⟩
    rw [if_pos ((zJ1_n _).mpr c17)]
    have hb := zne_b (b := b) (len := len) hp
    have hlt := zco_ne (b := b) (len := len) hp (by omega)
    obtain ⟨n, rfl⟩ : ∃ m, n = m + 1 := ⟨n - 1, by omega⟩
    obtain ⟨g1, q1, q2, q3, q4⟩ := zRS_nxt hN S
    rw [zEi21 S.1.2.1 c17, q1]
    simp only [zb1_some]
    have h1 := zask_L (n := n) (x1 := 1) (x2 := x2) hN ht hl q2.z0 (by omega)
    have hgs := zask_g (b := b) (len := len) (cl := so) 8 (zne b len p) hb.2.1
    cases hr : zask b len so 8 (zne b len p) with
    | inl e =>
      rw [hr] at h1
      obtain ⟨g2, r1, r2, r3⟩ := h1
      exact ⟨g2, r1, r2, q3.trans r3 (Nat.le_refl _)⟩
    | inr q =>
      obtain ⟨p', l⟩ := q
      rw [hr] at h1 hgs
      obtain ⟨g1', g2', g3'⟩ := hgs
      have hlp : 1 ≤ l.length := by
        cases l with
        | nil => exact absurd rfl g3'
        | cons a l => simp
      obtain ⟨g2, r1, r2, r3, r4⟩ := h1
      rw [if_neg (by decide)] at r2 r3
      have hle : c0 + acc.length + l.length + 1 = c0 + (acc ++ (l ++ [20000 + zco b len p])).length := by simp only [List.length_append, List.length_cons, List.length_nil]; omega
      have hI := ih p' c0 n (acc ++ (l ++ [20000 + zco b len p])) g2 (by rw [← hle]; exact r2) (by rw [c17]; exact zEm_app (zEm_k E q4) r4 r3) (by rw [← hle]; omega) (by omega) (by omega)
      rw [r1]
      cases hr2 : zlpR b len zJ1 (zask b len so 8) k p' (acc ++ (l ++ [20000 + zco b len p])) with
      | inl e =>
        rw [hr2] at hI
        obtain ⟨g3, u1, u2, u3⟩ := hI
        simp only [hr2]
        exact ⟨g3, u1, u2, (q3.trans r4 (Nat.le_refl _)).trans u3 (by omega)⟩
      | inr q =>
        obtain ⟨p2, l2⟩ := q
        rw [hr2] at hI
        obtain ⟨g3, n', u1, u2, u3, u4, u5, u6⟩ := hI
        simp only [hr2]
        exact ⟨g3, n', u1, u2, u3, u4, u5, (q3.trans r4 (Nat.le_refl _)).trans u6 (by omega)⟩
theorem zbth_r {N : Nat} {b : zFn} {len t : Nat} {so : Int} {p c n : Nat} {x2 : Int} {g : zHp} (hN : 1300 ≤ N) (ht : t ≤ 3) (hl : len ≤ 300) (S : zRS0 g b len t so p c 0) (hc : c ≤ p) (hn : len < n + 1 + p) :
    match zbth b len so p with
    | .inl e => ∃ g1, sh_Mo_either_L6 N (n + 1) 0 x2 1 g = some (.inl (e.1, g1)) ∧ g1 85 8 = (e.2 : Int) ∧ zFR t c g g1
    | .inr (p', l) => ∃ g1 n', sh_Mo_either_L6 N (n + 1) 0 x2 1 g = sh_Mo_either_L6_J21 N (sh_Mo_either_L6 N n') x2 g1 ∧ zco b len p' ≠ 17 ∧ len < n' + p' ∧ zRS g1 b len t so p' (c + l.length) 0 1 [] ∧ zEm g1 t c l ∧ zFR t c g g1 := by
  have hp := S.1.2.2
  have h1 := zask_L (n := n) (x1 := 0) (x2 := x2) hN ht hl S hc
  have hgs := zask_g (b := b) (len := len) (cl := so) 8 p hp
  unfold zbth zjnR
  cases hr : zask b len so 8 p with
  | inl e =>
    rw [hr] at h1
    exact h1
  | inr q =>
    obtain ⟨p', l⟩ := q
    rw [hr] at h1 hgs
    obtain ⟨g1', g2', g3'⟩ := hgs
    have hlp : 1 ≤ l.length := by
      cases l with
      | nil => exact absurd rfl g3'
      | cons a l => simp
    obtain ⟨g2, r1, r2, r3, r4⟩ := h1
    rw [if_pos rfl, List.append_nil] at r3
    rw [if_pos rfl, Nat.add_zero] at r2
    have hI := zbth_L (x2 := x2) hN ht hl len p' c n l g2 r2 r3 (by omega) (by omega) (by omega)
    rw [r1]
    simp only
    cases hr2 : zlpR b len zJ1 (zask b len so 8) len p' l with
    | inl e =>
      rw [hr2] at hI
      obtain ⟨g3, u1, u2, u3⟩ := hI
      exact ⟨g3, u1, u2, r4.trans u3 (by omega)⟩
    | inr q =>
      obtain ⟨p2, l2⟩ := q
      rw [hr2] at hI
      obtain ⟨g3, n', u1, u2, u3, u4, u5, u6⟩ := hI
      exact ⟨g3, n', u1, u2, u3, u4, u5, r4.trans u6 (by omega)⟩
theorem zeit_L {N : Nat} {b : zFn} {len t : Nat} {so : Int} (hN : 1300 ≤ N) (ht : t ≤ 3) (hl : len ≤ 300) : ∀ (k p c0 n : Nat) (acc : List Int) (g : zHp), zRS g b len t so p (c0 + acc.length) 0 1 [] → zEm g t c0 acc → c0 + acc.length ≤ p → len ≤ p + k → len < n + p →
    match zlpR b len zJ0 (zbth b len so) k p acc with
    | .inl e => ∃ g1, sh_Mo_either_L6_J49 N (sh_Mo_either_L6 N n) 0 (if zco b len p = 16 then 1 else 0) g = some (.inl (e.1, g1)) ∧ g1 85 8 = (e.2 : Int) ∧ zFR t (c0 + acc.length) g g1
    | .inr (p', l) => ∃ g1, sh_Mo_either_L6_J49 N (sh_Mo_either_L6 N n) 0 (if zco b len p = 16 then 1 else 0) g = some (.inr g1) ∧ zRS g1 b len t so p' (c0 + l.length) 0 1 [] ∧ zEm g1 t c0 l ∧ zFR t (c0 + acc.length) g g1 := by
  intro k
  induction k with
  | zero =>
    intro p c0 n acc g S E hc hk hn
    have hp := S.1.2.2
    have hz : zco b len p = 35 := zco_e (by have := (zne_b (b := b) (len := len) hp).2.2.2.1; omega)
    obtain ⟨n, rfl⟩ : ∃ m, n = m + 1 := ⟨n - 1, by omega⟩
    unfold zlpR
    rw [if_neg (c := zco b len p = 16) (by omega)]
    exact ⟨g, rfl, S, E, zFR.refl g⟩
  | succ k ih =>
    intro p c0 n acc g S E hc hk hn
    have hp := S.1.2.2
    unfold zlpR
    obtain ⟨n, rfl⟩ : ∃ m, n = m + 1 := ⟨n - 1, by omega⟩
    by_cases c16 : zco b len p = 16
    case neg =>
      rw [if_neg (fun q => c16 ((zJ0_n _).mp q)), if_neg c16]
      exact ⟨g, rfl, S, E, zFR.refl g⟩
    rw [if_pos ((zJ0_n _).mpr c16), if_pos c16]
    have hb := zne_b (b := b) (len := len) hp
    have hlt := zco_ne (b := b) (len := len) hp (by omega)
    obtain ⟨g1, q1, q2, q3, q4⟩ := zRS_nxt hN S
    rw [zEi49, q1]
    simp only [zb1_some]
    have h1 := zbth_r (n := n) (x2 := 1) hN ht hl q2.z0 (by omega) (by omega)
    have hgs := zbth_g (b := b) (len := len) (cl := so) (zne b len p) hb.2.1
    cases hr : zbth b len so (zne b len p) with
    | inl e =>
      rw [hr] at h1
      obtain ⟨g2, r1, r2, r3⟩ := h1
      exact ⟨g2, r1, r2, q3.trans r3 (Nat.le_refl _)⟩
    | inr q =>
      obtain ⟨p', l⟩ := q
      rw [hr] at h1 hgs
      obtain ⟨g1', g2', g3'⟩ := hgs
      have hlp : 1 ≤ l.length := by
        cases l with
        | nil => exact absurd rfl g3'
        | cons a l => simp
      obtain ⟨g2, n', r1, r5, r6, r2, r3, r4⟩ := h1
      obtain ⟨g4, v1, v2, v3, v4, -⟩ := zRS_emt (N := N) 22 0 ht (by omega) r2
      have hle : c0 + acc.length + l.length + 1 = c0 + (acc ++ (l ++ [20000 + zco b len p])).length := by simp only [List.length_append, List.length_cons, List.length_nil]; omega
      have E4 : zEm g4 t (c0 + acc.length) (l ++ [20016]) := zEm_app r3 v3 (zEm_one v4 (by unfold zcd; decide))
      have f4 : zFR t (c0 + acc.length) g1 g4 := r4.trans v3 (by omega)
      have hI := ih p' c0 n' (acc ++ (l ++ [20000 + zco b len p])) g4 (by rw [← hle]; exact v2) (by rw [c16]; exact zEm_app (zEm_k E q4) f4 E4) (by rw [← hle]; omega) (by omega) (by omega)
      rw [r1, zEi21n r2.1.2.1 r5, if_neg (by decide), v1]
      simp only [zb1_some]
      cases hr2 : zlpR b len zJ0 (zbth b len so) k p' (acc ++ (l ++ [20000 + zco b len p])) with
      | inl e =>
        rw [hr2] at hI
        obtain ⟨g3, u1, u2, u3⟩ := hI
        exact ⟨g3, u1, u2, (q3.trans f4 (Nat.le_refl _)).trans u3 (by omega)⟩
      | inr q =>
        obtain ⟨p2, l2⟩ := q
        rw [hr2] at hI
        obtain ⟨g3, u1, u2, u3, u4⟩ := hI
        exact ⟨g3, u1, u2, u3, (q3.trans f4 (Nat.le_refl _)).trans u4 (by omega)⟩
theorem zeit_r {N : Nat} {b : zFn} {len t : Nat} {so : Int} {p c : Nat} {g : zHp} (hN : 1300 ≤ N) (ht : t ≤ 3) (hl : len ≤ 300) (S : zRS0 g b len t so p c 0) (hc : c ≤ p) :
    match zeit b len so p with
    | .inl e => ∃ g1, sh_Mo_either N g = some (e.1, g1) ∧ g1 85 8 = (e.2 : Int) ∧ zFR t c g g1
    | .inr (p', l) => ∃ g1, sh_Mo_either N g = some (0, g1) ∧ zRS g1 b len t so p' (c + l.length) 0 1 [] ∧ zEm g1 t c l ∧ zFR t c g g1 := by
  have hp := S.1.2.2
  obtain ⟨M, rfl⟩ : ∃ m, N = m + 1 := ⟨N - 1, by omega⟩
  have h1 := zbth_r (n := M) (x2 := 0) hN ht hl S hc (by omega)
  have hgs := zbth_g (b := b) (len := len) (cl := so) p hp
  unfold zeit zjnR sh_Mo_either
  cases hr : zbth b len so p with
  | inl e =>
    rw [hr] at h1
    obtain ⟨g1, q1, q2, q3⟩ := h1
    refine ⟨g1, ?_, q2, q3⟩
    rw [q1]; rfl
  | inr q =>
    obtain ⟨p', l⟩ := q
    rw [hr] at h1 hgs
    obtain ⟨g1', g2', g3'⟩ := hgs
    obtain ⟨g2, n', r1, r5, r6, r2, r3, r4⟩ := h1
    have hI := zeit_L hN ht hl len p' c n' l g2 r2 r3 (by omega) (by omega) (by omega)
    rw [r1, zEi21n r2.1.2.1 r5, if_pos rfl]
    simp only
    cases hr2 : zlpR b len zJ0 (zbth b len so) len p' l with
    | inl e =>
      rw [hr2] at hI
      obtain ⟨g3, u1, u2, u3⟩ := hI
      refine ⟨g3, ?_, u2, r4.trans u3 (by omega)⟩
      rw [u1]; rfl
    | inr q =>
      obtain ⟨p2, l2⟩ := q
      rw [hr2] at hI
      obtain ⟨g3, u1, u2, u3, u4⟩ := hI
      refine ⟨g3, ?_, u2, u3, r4.trans u4 (by omega)⟩
      rw [u1]; rfl
