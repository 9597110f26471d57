/-! PURE: text, the reference's questions -/
def zRS0 (g : zHp) (b : zFn) (len t : Nat) (so : Int) (p c : Nat) (o : Int) : Prop := (zTp g b len ∧ zTK g b len p ∧ p ≤ len) ∧ (g 85 12 = ((625 * t : Nat) : Int) ∧ g 85 20 = so) ∧ g 85 14 = c ∧ g 85 18 = o ∧ True
theorem zRS.z0 {g : zHp} {b : zFn} {len t : Nat} {so : Int} {p c : Nat} {o w : Int} {P : List Int} (S : zRS g b len t so p c o w P) : zRS0 g b len t so p c o := ⟨S.1, S.2.1, S.2.2.1, S.2.2.2.1, trivial⟩
theorem zRS0_st {g : zHp} {b : zFn} {len t : Nat} {so : Int} {p c : Nat} {o : Int} (S : zRS0 g b len t so p c o) {i : Nat} {v : Int} (hi : i = 14 ∨ i = 17 ∨ i = 18 ∨ i = 19) {c' : Nat} {o' : Int} (e14 : zst g 85 i v 85 14 = c') (e18 : zst g 85 i v 85 18 = o') : zRS0 (zst g 85 i v) b len t so p c' o' := by
  obtain ⟨⟨s1, s2, s3⟩, ⟨s4, s5⟩, s6, s7, -⟩ := S
  have n : ∀ j, j ≠ i → zst g 85 i v 85 j = g 85 j := fun j q => by rw [zst_if, if_pos rfl, zup1_ne _ _ q]
  exact ⟨⟨zTp_e s1 (n 4 (by omega)) (by rw [zst_if, if_neg (by decide)]), zTK_e s2 (fun j a1 a2 => n j (by omega)), s3⟩, ⟨by rw [n 12 (by omega)]; exact s4, by rw [n 20 (by omega)]; exact s5⟩, e14, e18, trivial⟩
theorem zRS0_17 {g : zHp} {b : zFn} {len t : Nat} {so : Int} {p c : Nat} {o : Int} (S : zRS0 g b len t so p c o) : zRS (zst g 85 17 0) b len t so p c o (g 85 19) [] := by
  have S1 := zRS0_st (c' := c) (o' := o) S (i := 17) (v := 0) (Or.inr (Or.inl rfl)) (by rw [zst_if, if_pos rfl, zup1_ne _ _ (by decide)]; exact S.2.2.1) (by rw [zst_if, if_pos rfl, zup1_ne _ _ (by decide)]; exact S.2.2.2.1)
  exact ⟨S1.1, S1.2.1, S1.2.2.1, S1.2.2.2.1, by rw [zst_if, if_pos rfl, zup1_ne _ _ (by decide)], by rw [zst_if, if_pos rfl, zup1_eq]; rfl, trivial⟩
theorem zRS0_nxt {g : zHp} {b : zFn} {len t : Nat} {so : Int} {p c N : Nat} {o : Int} (hN : 1300 ≤ N) (S : zRS0 g b len t so p c o) : ∃ g1, sh_Mo_nextToken N g = some g1 ∧ zRS0 g1 b len t so (zne b len p) c o ∧ zFR t c g g1 ∧ g1 88 = g 88 := by
  obtain ⟨⟨s1, s2, s3⟩, ⟨s4, s5⟩, s6, s7, -⟩ := S
  have hb := zne_b (b := b) (len := len) s3
  obtain ⟨g1, q1, q2, q3⟩ := znxt_r (N := N) hN s1 hb.2.1 s2.1.1
  refine ⟨g1, q1, ⟨⟨zTp_f s1 q3 (by decide), q2, hb.2.1⟩, ⟨by rw [q3.2 12 (by decide)]; exact s4, by rw [q3.2 20 (by decide)]; exact s5⟩, by rw [q3.2 14 (by decide)]; exact s6, by rw [q3.2 18 (by decide)]; exact s7, trivial⟩, ⟨fun id a _ _ => q3.1 id a, fun j _ => by rw [q3.1 88 (by decide)], fun j hj => q3.2 j (fun r => hj (by simp only [List.mem_cons, List.not_mem_nil, or_false] at r ⊢; omega))⟩, q3.1 88 (by decide)⟩
theorem zsum_r {N : Nat} {b : zFn} {len t : Nat} {so : Int} {d p c : Nat} {g : zHp} (hN : 1300 ≤ N) (ht : t ≤ 3) (hl : len ≤ 300) (hd : d ≤ 8) (S : zRS0 g b len t so p c (8 - (d : Int))) (hc : c ≤ p) :
    match zsmR b len (zone b len so d) p with
    | .inl e => ∃ g1, sh_Mo_summed N g = some (e.1, g1) ∧ g1 85 8 = (e.2 : Int) ∧ zFR t c g g1
    | .inr (p', l) => ∃ g1, sh_Mo_summed N g = some (0, g1) ∧ zRS g1 b len t so p' (c + l.length) (8 - (d : Int)) 1 [] ∧ zEm g1 t c l ∧ zFR t c g g1 := by
  have hp := S.1.2.2
  have S1 := zRS0_17 S
  have hS1 := S1
  obtain ⟨-, -, v6, v7, v8, v9, v10⟩ := hS1
  have S2 : zRS (zst (zst g 85 17 0) 85 19 0) b len t so p c (8 - (d : Int)) 0 [] := zRS_st S1 (Or.inr (Or.inr (Or.inr rfl))) (by rw [zst_if, if_pos rfl, zup1_ne _ _ (by decide)]; exact v6) (by rw [zst_if, if_pos rfl, zup1_ne _ _ (by decide)]; exact v9) (by rw [zst_if, if_pos rfl, zup1_ne _ _ (by decide)]; exact v7) (by rw [zst_if, if_pos rfl, zup1_eq]) v10
  have f0 : zFR t c g (zst (zst g 85 17 0) 85 19 0) := ((zFR.refl g).st (by decide)).st (by decide)
  have G3 := zsmR_r (b := b) (so := so) hN ht hd (fun p hp => zjn_g (b := b) (len := len) (by decide) (zone_g (b := b) (len := len) (cl := so) d) p hp) hl (zprd_r (b := b) (so := so) hN ht hd (zone_g (b := b) (len := len) (cl := so) d) hl (zone_r (b := b) (so := so) hN ht hl d hd))
  have hI := G3 p c [] (zst (zst g 85 17 0) 85 19 0) S2 (fun x P' h => by cases h) (by simpa using hc) (by simp only [List.length_nil]; omega)
  have hgs := zsm_g (b := b) (len := len) (cl := so) d p hp
  have hsum : sh_Mo_summed N g = zFin N (sh_Mo_summed_L6 N N (zst (zst g 85 17 0) 85 19 0)) := rfl
  cases hr : zsmR b len (zone b len so d) p with
  | inl e =>
    rw [hr] at hI
    obtain ⟨k, g1, h1, h2, h3, h4⟩ := hI
    have := h2 (N - k)
    rw [show N - k + k = N by omega] at this
    exact ⟨g1, hsum.trans this, h3, f0.trans h4 (Nat.le_refl _)⟩
  | inr q =>
    obtain ⟨p', l⟩ := q
    rw [hr] at hI hgs
    obtain ⟨g1', g2', g3'⟩ := hgs
    obtain ⟨k, g2, ops, e, r1, r2, r3, r4, r5, r6, r7, r8, r9, r10⟩ := hI
    have hle : l.length = e.length + ops.length := by rw [r6, List.length_append, List.length_map]
    have hgo := zgo_r hN (by rw [List.append_nil]; omega) r3
    have hn : ¬ (zJ3 (zco b len p') = true ∨ zJ2 (zco b len p') = true ∨ (zco b len p' = 29 ∧ (40 : Int) ∈ ops ++ [])) := by
      rintro (q | q | q)
      · rw [r10] at q; exact absurd q (by decide)
      · rw [r9] at q; exact absurd q (by decide)
      · rw [List.append_nil] at q
        have := r4 40 q.2
        omega
    rw [if_neg hn] at hgo
    obtain ⟨g3, u1, u2, u3, u4⟩ := zstl_r (w := 1) N 3 ht (by decide) (Q := []) (fun x Q' h => by cases h) ops N (c + e.length) g2 r4 r3 (by omega) (by rw [List.append_nil]; omega) (by omega)
    have us : sh_Mo_settle N 3 g2 = some g3 := by
      unfold sh_Mo_settle
      exact congrArg (fun o => zb1 o fun h14 => some h14) u1
    refine ⟨g3, ?_, ?_, ?_, (f0.trans r8 (Nat.le_refl _)).trans u3 (by omega)⟩
    · rw [hsum]
      have h2 := r2 (N - k - 1 + 1)
      rw [show N - k - 1 + 1 + k = N by omega] at h2
      rw [h2, zL6_e r3.2.2.2.2.1 hgo]
      show (zb1 (sh_Mo_settle N 3 g2) fun h55 => some ((if h55 85 17 ≤ 0 then 0 else 1 : Int), h55)) = _
      rw [us]
      simp only [zb1_some]
      rw [u2.2.2.2.2.2.1, if_pos (by decide)]
    · rw [hle, show c + (e.length + ops.length) = c + e.length + ops.length by omega]; exact u2
    · rw [r6]; exact zEm_app r7 u3 u4
def zcmO (k : Int) : Int := if k = 20 then 10 else if k = 31 then 11 else if k = 21 then 12 else if k = 32 then 13 else if k = 22 then 14 else if k = 23 then 15 else -1
theorem zcmO_r {g : zHp} {b : zFn} {len p : Nat} (T : zTK g b len p) : sh_Mo_compareOf g = zcmO (zco b len p) := by
  have hT := zTK_s T
  unfold sh_Mo_compareOf zcmO
  simp only [propext hT.2.2.2.2.2.2.2.2.2.1, propext hT.2.2.2.2.2.2.2.2.2.2.1, propext hT.2.2.2.2.2.2.2.2.2.2.2.1, propext hT.2.2.2.2.2.2.2.2.2.2.2.2.1, propext hT.2.2.2.2.2.2.2.2.2.2.2.2.2.1, propext hT.2.2.2.2.2.2.2.2.2.2.2.2.2.2.1]
theorem zcmO_z (k : Int) : (0 ≤ zcmO k ↔ zcpn k = true) ∧ (zcpn k = true → zcd (zcmO k) 0 (20000 + k)) := by
  unfold zcpn
  rw [decide_eq_true_iff]
  constructor
  · unfold zcmO
    repeat' split
    all_goals constructor <;> intro q <;> omega
  · intro q
    have : k = 20 ∨ k = 21 ∨ k = 22 ∨ k = 23 ∨ k = 31 ∨ k = 32 := by omega
    rcases this with rfl | rfl | rfl | rfl | rfl | rfl <;> (unfold zcd zcmO; decide)
def zAsR (N : Nat) (X : Option (zHp ⊕ (Int × zHp))) : Option (Int × zHp) := zb1 X fun w18 => zsum2 w18 (zcu1 fun h19 => some (3, h19)) (zcu2 fun y20 h21 => zb2 (sh_Mo_summed N h21) fun r27 h28 => if r27 = 0 then (if 0 ≤ sh_Mo_compareOf h28 then zb1 (sh_Mo_nextToken N h28) fun h40 => zb2 (sh_Mo_summed N h40) fun r46 h47 => if r46 = 0 then zb1 (sh_Mo_emit N (sh_Mo_compareOf h28) 0 h47) fun h54 => zb1 (sh_Mo_asks_L60 N N y20 0 (zst h54 85 18 (w32 ((h54 85 18) - y20)))) fun h63 => some (0, h63) else some (r46, h47) else some (1, h28)) else some (r27, h28))
theorem zNots_r {b : zFn} {len t : Nat} {so : Int} {p m : Nat} {o w : Int} {P : List Int} (N : Nat) (ht : t ≤ 3) (hm : m ≤ 8) : ∀ (k n i c : Nat) (g : zHp), i + k = m → k < n → zRS g b len t so p c o w P → c + k ≤ 300 → ∃ g1, sh_Mo_asks_L60 N n (m : Int) (i : Int) g = some g1 ∧ zRS g1 b len t so p (c + k) o w P ∧ zEm g1 t c (List.replicate k 20018) ∧ zFR t c g g1 := by
  intro k
  induction k with
  | zero =>
    intro n i c g hi hn S hc
    obtain ⟨n, rfl⟩ : ∃ m, n = m + 1 := ⟨n - 1, by omega⟩
    refine ⟨g, ?_, S, zEm_nil g t c, zFR.refl g⟩
    unfold sh_Mo_asks_L60
    rw [if_pos (by omega)]
  | succ k ih =>
    intro n i c g hi hn S hc
    obtain ⟨n, rfl⟩ : ∃ m, n = m + 1 := ⟨n - 1, by omega⟩
    have e1 : w32 ((i : Int) + 1) = ((i + 1 : Nat) : Int) := by rw [w32_s (by omega) (by omega)]; omega
    obtain ⟨g1, q1, q2, q3, q4, -⟩ := zRS_emt (N := N) 20 0 ht (by omega) S
    obtain ⟨g2, r1, r2, r3, r4⟩ := ih n (i + 1) (c + 1) g1 (by omega) (by omega) q2 (by omega)
    refine ⟨g2, ?_, ?_, ?_, q3.trans r4 (by omega)⟩
    · unfold sh_Mo_asks_L60
      rw [if_neg (by omega), q1]
      simp only [zb1_some]
      rw [e1]
      exact r1
    · rw [show c + (k + 1) = c + 1 + k by omega]; exact r2
    · have hz : zcd 20 0 20018 := by
        unfold zcd
        decide
      have := zEm_app (l := [20018]) (zEm_one q4 hz) r4 r3
      exact this
theorem zask1_r {N : Nat} {b : zFn} {len t : Nat} {so : Int} {d m p c n : Nat} {g : zHp} (hN : 1300 ≤ N) (ht : t ≤ 3) (hl : len ≤ 300) (hm : m + d = 8) (S : zRS0 g b len t so p c (8 - (d : Int))) (hc : c + m ≤ p) (h18 : zco b len p ≠ 18) :
    match zask1 b len so d p with
    | .inl e => ∃ g1, zAsR N (sh_Mo_asks_L2 N (n + 1) (m : Int) g) = some (e.1, g1) ∧ g1 85 8 = (e.2 : Int) ∧ zFR t c g g1
    | .inr (p', l) => ∃ g1, zAsR N (sh_Mo_asks_L2 N (n + 1) (m : Int) g) = some (0, g1) ∧ zRS g1 b len t so p' (c + l.length + m) 0 1 [] ∧ zEm g1 t c (l ++ List.replicate m 20018) ∧ zFR t c g g1 := by
  have hp := S.1.2.2
  have hX : sh_Mo_asks_L2 N (n + 1) (m : Int) g = some (.inr ((m : Int), g)) := by
    unfold sh_Mo_asks_L2
    rw [znot_W S.1.2.1, if_neg h18, if_pos rfl]
  have hgo : zAsR N (sh_Mo_asks_L2 N (n + 1) (m : Int) g) = zb2 (sh_Mo_summed N g) fun r27 h28 => if r27 = 0 then (if 0 ≤ sh_Mo_compareOf h28 then zb1 (sh_Mo_nextToken N h28) fun h40 => zb2 (sh_Mo_summed N h40) fun r46 h47 => if r46 = 0 then zb1 (sh_Mo_emit N (sh_Mo_compareOf h28) 0 h47) fun h54 => zb1 (sh_Mo_asks_L60 N N (m : Int) 0 (zst h54 85 18 (w32 ((h54 85 18) - (m : Int))))) fun h63 => some (0, h63) else some (r46, h47) else some (1, h28)) else some (r27, h28) := by
    rw [hX]; rfl
  rw [hgo]
  have h1 := zsum_r (b := b) (so := so) hN ht hl (by omega) S (by omega)
  have hgs := zsm_g (b := b) (len := len) (cl := so) d p hp
  unfold zask1
  cases hr : zsmR b len (zone b len so d) p with
  | inl e =>
    rw [hr] at h1 hgs
    obtain ⟨g1, q1, q2, q3⟩ := h1
    have hne : e.1 ≠ 0 := by have := hgs.1; omega
    refine ⟨g1, ?_, q2, q3⟩
    rw [q1]
    simp only [zb2_some]
    rw [if_neg hne]
  | inr q =>
    obtain ⟨p1, l1⟩ := q
    rw [hr] at h1 hgs
    obtain ⟨g1', g2', g3'⟩ := hgs
    obtain ⟨g1, q1, q2, q3, q4⟩ := h1
    have hcm := zcmO_r q2.1.2.1
    have hcz := zcmO_z (zco b len p1)
    rw [q1]
    simp only [zb2_some]
    rw [if_pos trivial, hcm]
    by_cases c1 : zcpn (zco b len p1) = true
    case neg =>
      rw [if_neg c1, if_neg (fun q => c1 (hcz.1.mp q))]
      exact ⟨g1, rfl, q2.1.2.1.1.2, q4⟩
    rw [if_pos c1, if_pos (hcz.1.mpr c1)]
    have hk : zco b len p1 ≠ 35 := fun q => by rw [q] at c1; exact absurd c1 (by decide)
    have hlt := zco_ne (b := b) (len := len) g2' hk
    have hb := zne_b (b := b) (len := len) g2'
    obtain ⟨g2, r1, r2, r3, r4⟩ := zRS_nxt hN q2
    have h2 := zsum_r (b := b) (so := so) hN ht hl (by omega) r2.z0 (by omega)
    have hgs2 := zsm_g (b := b) (len := len) (cl := so) d (zne b len p1) hb.2.1
    have f2 : zFR t c g g2 := q4.trans r3 (by omega)
    rw [r1]
    simp only [zb1_some]
    cases hr2 : zsmR b len (zone b len so d) (zne b len p1) with
    | inl e =>
      rw [hr2] at h2 hgs2
      obtain ⟨g3, u1, u2, u3⟩ := h2
      have hne : e.1 ≠ 0 := by have := hgs2.1; omega
      refine ⟨g3, ?_, u2, f2.trans u3 (by omega)⟩
      rw [u1]
      simp only [zb2_some]
      rw [if_neg hne]
    | inr q =>
      obtain ⟨p2, l2⟩ := q
      rw [hr2] at h2 hgs2
      obtain ⟨g4', g5', g6'⟩ := hgs2
      obtain ⟨g3, u1, u2, u3, u4⟩ := h2
      obtain ⟨g4, v1, v2, v3, v4, -⟩ := zRS_emt (N := N) (zcmO (zco b len p1)) 0 ht (by omega) u2
      have hv2 := v2
      obtain ⟨-, -, x6, x7, x8, x9, x10⟩ := hv2
      have S5 : zRS (zst g4 85 18 0) b len t so p2 (c + l1.length + l2.length + 1) 0 1 [] := zRS_st v2 (Or.inr (Or.inr (Or.inl rfl))) (by rw [zst_if, if_pos rfl, zup1_ne _ _ (by decide)]; exact x6) (by rw [zst_if, if_pos rfl, zup1_ne _ _ (by decide)]; exact x9) (by rw [zst_if, if_pos rfl, zup1_eq]) (by rw [zst_if, if_pos rfl, zup1_ne _ _ (by decide)]; exact x8) x10
      obtain ⟨g5, y1, y2, y3, y4⟩ := zNots_r (m := m) N ht (by omega) m N 0 (c + l1.length + l2.length + 1) (zst g4 85 18 0) (by omega) (by omega) S5 (by omega)
      have hE1 : zEm g2 t c l1 := zEm_k q3 r4
      have hE2 : zEm g3 t c (l1 ++ l2) := zEm_app hE1 u4 u3
      have hE3 : zEm g4 t c ((l1 ++ l2) ++ [20000 + zco b len p1]) := by
        refine zEm_app hE2 (by rw [List.length_append, ← Nat.add_assoc]; exact v3) ?_
        rw [List.length_append, ← Nat.add_assoc]
        exact zEm_one v4 (hcz.2 c1)
      have f4 : zFR t c g g4 := (f2.trans u4 (by omega)).trans v3 (by omega)
      have f5 : zFR t (c + l1.length + l2.length + 1) g4 g5 := ((zFR.refl g4).st (by decide)).trans y4 (Nat.le_refl _)
      have hlen : List.length ((l1 ++ l2) ++ [20000 + zco b len p1]) = l1.length + l2.length + 1 := by simp only [List.length_append, List.length_cons, List.length_nil]
      refine ⟨g5, ?_, ?_, ?_, f4.trans f5 (by omega)⟩
      · rw [u1]
        simp only [zb2_some]
        rw [if_pos trivial, v1]
        simp only [zb1_some]
        rw [x7, show w32 (8 - (d : Int) - (m : Int)) = 0 by rw [w32_s (by omega) (by omega)]; omega]
        exact congrArg (fun o => zb1 o fun h63 => some ((0 : Int), h63)) y1
      · rw [show c + List.length (l1 ++ (l2 ++ [20000 + zco b len p1])) + m = c + l1.length + l2.length + 1 + m by simp only [List.length_append, List.length_cons, List.length_nil]; omega]
        exact y2
      · rw [← List.append_assoc l1]
        refine zEm_app hE3 ?_ ?_
        · rw [hlen, show c + (l1.length + l2.length + 1) = c + l1.length + l2.length + 1 by omega]; exact f5
        · rw [hlen, show c + (l1.length + l2.length + 1) = c + l1.length + l2.length + 1 by omega]; exact y3
theorem zaskM_r {N : Nat} {b : zFn} {len t : Nat} {so : Int} (hN : 1300 ≤ N) (ht : t ≤ 3) (hl : len ≤ 300) : ∀ (d m p c n : Nat) (g : zHp), m + d = 8 → zRS0 g b len t so p c (8 - (d : Int)) → c + m ≤ p → d < n →
    match zask b len so d p with
    | .inl e => ∃ g1, zAsR N (sh_Mo_asks_L2 N n (m : Int) g) = some (e.1, g1) ∧ g1 85 8 = (e.2 : Int) ∧ zFR t c g g1
    | .inr (p', l) => ∃ g1, zAsR N (sh_Mo_asks_L2 N n (m : Int) g) = some (0, g1) ∧ zRS g1 b len t so p' (c + l.length + m) 0 1 [] ∧ zEm g1 t c (l ++ List.replicate m 20018) ∧ zFR t c g g1 := by
  intro d
  induction d with
  | zero =>
    intro m p c n g hm S hc hn
    obtain ⟨n, rfl⟩ : ∃ k, n = k + 1 := ⟨n - 1, by omega⟩
    unfold zask
    by_cases c18 : zco b len p = 18
    · rw [if_pos c18]
      refine ⟨g, ?_, S.1.2.1.1.2, zFR.refl g⟩
      unfold sh_Mo_asks_L2
      rw [znot_W S.1.2.1, if_pos c18, if_neg (by decide), S.2.2.2.1, if_pos (by decide)]
      rfl
    · rw [if_neg c18]
      exact zask1_r hN ht hl hm S hc c18
  | succ d ih =>
    intro m p c n g hm S hc hn
    obtain ⟨n, rfl⟩ : ∃ k, n = k + 1 := ⟨n - 1, by omega⟩
    have hp := S.1.2.2
    have hb := zne_b (b := b) (len := len) hp
    unfold zask
    by_cases c18 : zco b len p = 18
    case neg =>
      rw [if_neg c18]
      exact zask1_r hN ht hl hm S hc c18
    rw [if_pos c18]
    have hlt := zco_ne (b := b) (len := len) hp (by omega)
    have s6 := S.2.2.1
    have s7 := S.2.2.2.1
    have e1 : w32 (8 - ((d + 1 : Nat) : Int) + 1) = 8 - (d : Int) := by rw [w32_s (by omega) (by omega)]; omega
    have em : w32 ((m : Int) + 1) = ((m + 1 : Nat) : Int) := by rw [w32_s (by omega) (by omega)]; omega
    have S1 : zRS0 (zst g 85 18 (8 - (d : Int))) b len t so p c (8 - (d : Int)) := zRS0_st S (Or.inr (Or.inr (Or.inl rfl))) (by rw [zst_if, if_pos rfl, zup1_ne _ _ (by decide)]; exact s6) (by rw [zst_if, if_pos rfl, zup1_eq])
    obtain ⟨g1, q1, q2, q3, q4⟩ := zRS0_nxt hN S1
    have f1 : zFR t c g g1 := ((zFR.refl g).st (by decide)).trans q3 (Nat.le_refl _)
    have hX : sh_Mo_asks_L2 N (n + 1) (m : Int) g = sh_Mo_asks_L2 N n ((m + 1 : Nat) : Int) g1 := by
      conv => enter [1]; unfold sh_Mo_asks_L2
      rw [znot_W S.1.2.1, if_pos c18, if_neg (by decide), s7, if_neg (by omega), e1, q1]
      simp only [zb1_some]
      rw [em]
    rw [hX]
    have hI := ih (m + 1) (zne b len p) c n g1 (by omega) q2 (by omega) (by omega)
    cases hr : zask b len so d (zne b len p) with
    | inl e =>
      rw [hr] at hI
      obtain ⟨g2, r1, r2, r3⟩ := hI
      exact ⟨g2, r1, r2, f1.trans r3 (Nat.le_refl _)⟩
    | inr q =>
      obtain ⟨p', l⟩ := q
      rw [hr] at hI
      obtain ⟨g2, r1, r2, r3, r4⟩ := hI
      refine ⟨g2, r1, ?_, ?_, f1.trans r4 (Nat.le_refl _)⟩
      · rw [show c + List.length (l ++ [(20018 : Int)]) + m = c + l.length + (m + 1) by simp only [List.length_append, List.length_cons, List.length_nil]; omega]
        exact r2
      · rw [List.append_assoc]
        exact r3
theorem zasks_r {N : Nat} {b : zFn} {len t : Nat} {so : Int} {p c : Nat} {g : zHp} (hN : 1300 ≤ N) (ht : t ≤ 3) (hl : len ≤ 300) (S : zRS0 g b len t so p c 0) (hc : c ≤ p) :
    match zask b len so 8 p with
    | .inl e => ∃ g1, sh_Mo_asks N g = some (e.1, g1) ∧ g1 85 8 = (e.2 : Int) ∧ zFR t c g g1
    | .inr (p', l) => ∃ g1, sh_Mo_asks N g = some (0, g1) ∧ zRS g1 b len t so p' (c + l.length) 0 1 [] ∧ zEm g1 t c l ∧ zFR t c g g1 := by
  have h := zaskM_r (b := b) (so := so) hN ht hl 8 0 p c N g (by decide) S (by omega) (by omega)
  have e : sh_Mo_asks N g = zAsR N (sh_Mo_asks_L2 N N ((0 : Nat) : Int) g) := rfl
  rw [e]
  cases hr : zask b len so 8 p with
  | inl e => rw [hr] at h; exact h
  | inr q =>
    obtain ⟨p', l⟩ := q
    rw [hr] at h
    simp only [List.replicate_zero, List.append_nil, Nat.add_zero] at h
    exact h
