/-! PURE: text, one clause -/
def zRk (b : zFn) (len : Nat) (s : Int) (p : Nat) : zR := if s < 2 then zeit b len s p else zsmR b len (zone b len s 8) p
def zCl (b : zFn) (len p : Nat) (F : Nat → List Int) : zR :=
  if 11 ≤ zco b len p ∧ zco b len p ≤ 15 then
    (if F (zco b len p - 11).toNat = [] then (match zRk b len (zco b len p - 11) (zne b len p) with
      | .inl e => .inl e
      | .inr (p', l) => if zco b len p' = 30 then .inr (p', l) else .inl (1, zPl2 b len p')) else .inl (4, zPl2 b len p))
  else .inl (1, zPl2 b len p)
theorem zRk_g {b : zFn} {len : Nat} {s : Int} (p : Nat) (hp : p ≤ len) : zRG2 len p (zRk b len s p) := by
  unfold zRk
  split
  · exact zeit_g p hp
  · exact zsm_g 8 p hp
theorem zRk_w {b : zFn} {len : Nat} {s : Int} (p p' : Nat) (l : List Int) (e : zRk b len s p = .inr (p', l)) : zwf s (0, 0) l = some (if s < 2 then (1, 0) else (0, 1)) := by
  unfold zRk at e
  by_cases c1 : s < 2
  · rw [if_pos c1] at e ⊢
    exact zeit_w p p' l e
  · rw [if_neg c1] at e ⊢
    exact zsm8_w (a := 0) (v := 0) (by omega) (by omega) p p' l e
theorem zbits {B : Int} (h0 : 0 ≤ B) (h1 : B < 32) {s : Nat} (hs : s < 5) : (0 ≤ zor B (zshl 1 s) ∧ zor B (zshl 1 s) < 32) ∧ ∀ s' : Nat, s' < 5 → (zand (zshr (zor B (zshl 1 s)) s') 1 = 1 ↔ (s' = s ∨ zand (zshr B s') 1 = 1)) := by
  have key : ∀ B : Fin 32, ∀ s : Fin 5, (0 ≤ zor ((B : Nat) : Int) (zshl 1 ((s : Nat) : Int)) ∧ zor ((B : Nat) : Int) (zshl 1 ((s : Nat) : Int)) < 32) ∧ ∀ s' : Fin 5, (zand (zshr (zor ((B : Nat) : Int) (zshl 1 ((s : Nat) : Int))) ((s' : Nat) : Int)) 1 = 1 ↔ ((s' : Nat) = (s : Nat) ∨ zand (zshr ((B : Nat) : Int) ((s' : Nat) : Int)) 1 = 1)) := by decide +kernel
  obtain ⟨n, rfl⟩ : ∃ n : Nat, B = n := ⟨B.toNat, by omega⟩
  have k := key ⟨n, by omega⟩ ⟨s, hs⟩
  exact ⟨k.1, fun s' h' => k.2 ⟨s', h'⟩⟩
/-- the reference's frame over a clause -/
def zFX (t : Nat) (g g1 : zHp) : Prop := (∀ id, id ≠ 85 → id ≠ 88 → id ≠ 90 → g1 id = g id) ∧ (∀ j, j < 625 * t → g1 88 j = g 88 j) ∧ ∀ j, j ∉ [7, 8, 9, 10, 11, 12, 14, 17, 18, 19, 20, 21] → g1 85 j = g 85 j
theorem zFX.refl {t : Nat} (g : zHp) : zFX t g g := ⟨fun _ _ _ _ => rfl, fun _ _ => rfl, fun _ _ => rfl⟩
theorem zFX.trans {t : Nat} {g g1 g2 : zHp} (a : zFX t g g1) (b : zFX t g1 g2) : zFX t g g2 :=
  ⟨fun id h1 h2 h3 => (b.1 id h1 h2 h3).trans (a.1 id h1 h2 h3), fun j h => (b.2.1 j h).trans (a.2.1 j h), fun j h => (b.2.2 j h).trans (a.2.2 j h)⟩
theorem zFX_r {t c : Nat} {g g1 : zHp} (a : zFR t c g g1) : zFX t g g1 :=
  ⟨a.1, fun j h => a.2.1 j (by omega), fun j h => a.2.2 j (fun q => h (by simp only [List.mem_cons, List.not_mem_nil, or_false] at q ⊢; omega))⟩
theorem zFX.st {t : Nat} {g g1 : zHp} {i : Nat} {v : Int} (a : zFX t g g1) (hi : i ∈ [7, 8, 9, 10, 11, 12, 14, 17, 18, 19, 20, 21]) : zFX t g (zst g1 85 i v) := by
  refine ⟨fun id h1 h2 h3 => by rw [zst_if, if_neg h1]; exact a.1 id h1 h2 h3, fun j h => by rw [zst_if, if_neg (by decide)]; exact a.2.1 j h, fun j h => ?_⟩
  have : j ≠ i := fun e => h (by rw [e]; exact hi)
  rw [zst_if, if_pos rfl, zup1_ne _ _ this]
  exact a.2.2 j h
theorem zFX.s8 {t : Nat} {g g1 : zHp} {i : Nat} {v : Int} (a : zFX t g g1) (hi : 625 * t ≤ i) : zFX t g (zst g1 88 i v) := by
  refine ⟨fun id h1 h2 h3 => by rw [zst_if, if_neg h2]; exact a.1 id h1 h2 h3, fun j h => ?_, fun j h => by rw [zst_if, if_neg (by decide)]; exact a.2.2 j h⟩
  rw [zst_if, if_pos rfl, zup1_ne _ _ (by omega)]
  exact a.2.1 j h
theorem zJ64_r {g4 : zHp} {b : zFn} {len t : Nat} {so o : Int} {p' c' A i N : Nat} (S4 : zRS0 g4 b len t so p' c' o) (hA : A + 2 < 2500) (hA2 : 625 * t < A) (ht : t ≤ 3) (e88 : g4 88 (625 * t) = i) (hi : i ≤ 5) :
    sh_Mo_clause_J64 N (A : Int) 0 g4 = if zco b len p' = 30 then zb1 (sh_Mo_nextToken N (zst (zst g4 88 (A + 2) c') 88 (625 * t) ((i + 1 : Nat) : Int))) (fun h => some (0, h)) else some (1, zst (zst g4 88 (A + 2) c') 88 (625 * t) ((i + 1 : Nat) : Int)) := by
  have e14 := S4.2.2.1
  have eA : w32 ((A : Int) + 2) = ((A + 2 : Nat) : Int) := by rw [w32_s (by omega) (by omega)]; omega
  have ei : w32 ((i : Int) + 1) = ((i + 1 : Nat) : Int) := by rw [w32_s (by omega) (by omega)]; omega
  have n12 : zst g4 88 (A + 2) c' 85 12 = ((625 * t : Nat) : Int) := by rw [zst_if, if_neg (by decide)]; exact S4.2.1.1
  have n88 : zst g4 88 (A + 2) c' 88 (625 * t) = (i : Int) := by rw [zst_if, if_pos rfl, zup1_ne _ _ (by omega)]; exact e88
  have n9 : ∀ v, zst (zst g4 88 (A + 2) c') 88 (625 * t) v 85 9 = g4 85 9 := fun v => by rw [zst_if, if_neg (by decide), zst_if, if_neg (by decide)]
  unfold sh_Mo_clause_J64
  rw [if_pos rfl, eA, Int.toNat_natCast, e14, n12, Int.toNat_natCast, n88, ei, if_pos (by omega), if_pos (by omega), if_pos (by omega), n9]
  have hT := (zTK_s S4.1.2.1).2.2.2.2.1
  by_cases c1 : zco b len p' = 30
  · rw [if_pos (hT.mpr c1), if_pos c1]
  · rw [if_neg (fun q => c1 (hT.mp q)), if_neg c1]
def zBt (g : zHp) (F : Nat → List Int) : Prop := 0 ≤ g 85 21 ∧ g 85 21 < 32 ∧ ∀ s : Nat, s < 5 → (zand (zshr (g 85 21) s) 1 = 1 ↔ F s ≠ [])
theorem zcl_r {N : Nat} {b : zFn} {len t : Nat} {so : Int} {p c i : Nat} {g : zHp} {F : Nat → List Int} (hN : 1300 ≤ N) (ht : t ≤ 3) (hl : len ≤ 300) (S : zRS0 g b len t so p c 0) (hc : c ≤ p) (hi : g 88 (625 * t) = i) (hF : ∀ s, s < 5 → F s = [] → i ≤ 4) (hB : zBt g F) :
    match zCl b len p F with
    | .inl e => ∃ g1, sh_Mo_clause N g = some (e.1, g1) ∧ g1 85 8 = (e.2 : Int) ∧ zFX t g g1
    | .inr (p', l) => ∃ (g1 : zHp) (s : Nat), (s < 5 ∧ zco b len p = 11 + s ∧ F s = []) ∧ sh_Mo_clause N g = some (0, g1) ∧ zRS0 g1 b len t s (zne b len p') (c + l.length) 0 ∧ (g1 88 (625 * t) = ((i + 1 : Nat) : Int) ∧ g1 88 (625 * t + 1 + 3 * i) = s ∧ g1 88 (625 * t + 2 + 3 * i) = c ∧ g1 88 (625 * t + 3 + 3 * i) = ((c + l.length : Nat) : Int)) ∧ zEm g1 t c l ∧ zBt g1 (fun x => if x = s then l else F x) ∧
        (∀ j, j < 625 * t + 20 + 2 * c → j ≠ 625 * t → (j < 625 * t + 1 + 3 * i ∨ 625 * t + 3 + 3 * i < j) → g1 88 j = g 88 j) ∧ zFX t g g1 := by
  have hp := S.1.2.2
  have hb := zne_b (b := b) (len := len) hp
  have hso := zsrt_r S.1.2.1
  unfold zCl
  by_cases c0 : 11 ≤ zco b len p ∧ zco b len p ≤ 15
  case neg =>
    rw [if_neg c0] at hso ⊢
    refine ⟨g, ?_, S.1.2.1.1.2, zFX.refl g⟩
    unfold sh_Mo_clause
    rw [hso, if_neg (by decide)]
  rw [if_pos c0] at hso ⊢
  obtain ⟨s, hs⟩ : ∃ s : Nat, zco b len p - 11 = s := ⟨(zco b len p - 11).toNat, by omega⟩
  have hs5 : s < 5 := by omega
  rw [hs] at hso ⊢
  rw [Int.toNat_natCast]
  by_cases c1 : F s = []
  case neg =>
    rw [if_neg c1]
    refine ⟨g, ?_, S.1.2.1.1.2, zFX.refl g⟩
    unfold sh_Mo_clause
    rw [hso, if_pos (by omega), if_pos ((hB.2.2 s hs5).mpr c1)]
  rw [if_pos c1]
  have hbit : ¬ (zand (zshr (g 85 21) (s : Int)) 1 = 1) := fun q => (hB.2.2 s hs5).mp q c1
  have hi4 := hF s hs5 c1
  have hbt := zbits hB.1 hB.2.1 hs5
  obtain ⟨g1, e1⟩ : ∃ x, zst (zst g 85 21 (zor (g 85 21) (zshl 1 (s : Int)))) 85 20 (s : Int) = x := ⟨_, rfl⟩
  have n1 : ∀ j, j ≠ 20 → j ≠ 21 → g1 85 j = g 85 j := fun j h1 h2 => by rw [← e1, zst_if, if_pos rfl, zup1_ne _ _ h1, zst_if, if_pos rfl, zup1_ne _ _ h2]
  have n2 : ∀ id, id ≠ 85 → g1 id = g id := fun id h1 => by rw [← e1, zst_if, if_neg h1, zst_if, if_neg h1]
  have n21 : g1 85 21 = zor (g 85 21) (zshl 1 (s : Int)) := by rw [← e1, zst_if, if_pos rfl, zup1_ne _ _ (by decide), zst_if, if_pos rfl, zup1_eq]
  have n20 : g1 85 20 = s := by rw [← e1, zst_if, if_pos rfl, zup1_eq]
  have S1 : zRS0 g1 b len t s p c 0 := ⟨⟨zTp_e S.1.1 (n1 4 (by decide) (by decide)) (n2 89 (by decide)), zTK_e S.1.2.1 (fun j a1 a2 => n1 j (by omega) (by omega)), hp⟩, ⟨by rw [n1 12 (by decide) (by decide)]; exact S.2.1.1, n20⟩, by rw [n1 14 (by decide) (by decide)]; exact S.2.2.1, by rw [n1 18 (by decide) (by decide)]; exact S.2.2.2.1, trivial⟩
  have f1 : zFX t g g1 := by rw [← e1]; exact ((zFX.refl g).st (by decide)).st (by decide)
  obtain ⟨g2, q1, q2, q3, q4⟩ := zRS0_nxt hN S1
  have hx12 : g2 85 12 = ((625 * t : Nat) : Int) := q2.2.1.1
  have hx88 : g2 88 (625 * t) = i := by rw [q4, n2 88 (by decide)]; exact hi
  have eA : w32 (w32 (((625 * t : Nat) : Int) + 1) + w32 (3 * (i : Int))) = ((625 * t + 1 + 3 * i : Nat) : Int) := by rw [w32_s (a := ((625 * t : Nat) : Int) + 1) (by omega) (by omega), w32_s (a := 3 * (i : Int)) (by omega) (by omega), w32_s (by omega) (by omega)]; omega
  have eA1 : w32 (((625 * t + 1 + 3 * i : Nat) : Int) + 1) = ((625 * t + 1 + 3 * i + 1 : Nat) : Int) := by rw [w32_s (by omega) (by omega)]; omega
  obtain ⟨g3, e3⟩ : ∃ x, zst (zst g2 88 (625 * t + 1 + 3 * i) (s : Int)) 88 (625 * t + 1 + 3 * i + 1) (zst g2 88 (625 * t + 1 + 3 * i) (s : Int) 85 14) = x := ⟨_, rfl⟩
  have m1 : ∀ id, id ≠ 88 → g3 id = g2 id := fun id h1 => by rw [← e3, zst_if, if_neg h1, zst_if, if_neg h1]
  have m2 : ∀ j, j ≠ 625 * t + 1 + 3 * i → j ≠ 625 * t + 1 + 3 * i + 1 → g3 88 j = g2 88 j := fun j h1 h2 => by rw [← e3, zst_if, if_pos rfl, zup1_ne _ _ h2, zst_if, if_pos rfl, zup1_ne _ _ h1]
  have m3 : g3 88 (625 * t + 1 + 3 * i) = s := by rw [← e3, zst_if, if_pos rfl, zup1_ne _ _ (by omega), zst_if, if_pos rfl, zup1_eq]
  have m4 : g3 88 (625 * t + 1 + 3 * i + 1) = c := by rw [← e3, zst_if, if_pos rfl, zup1_eq, zst_if, if_neg (by decide)]; exact q2.2.2.1
  have S3 : zRS0 g3 b len t s (zne b len p) c 0 := by
    refine ⟨⟨zTp_e q2.1.1 (by rw [m1 85 (by decide)]) (m1 89 (by decide)), zTK_e q2.1.2.1 (fun j _ _ => by rw [m1 85 (by decide)]), hb.2.1⟩, ?_⟩
    rw [m1 85 (by decide)]
    exact q2.2
  have f3 : zFX t g g3 := by rw [← e3]; exact ((f1.trans (zFX_r q3)).s8 (by omega)).s8 (by omega)
  have hit : ∀ (A B : Option (Int × zHp)) (J : Int → zHp → Option (Int × zHp)), (if 2 ≤ (s : Int) then zb2 A J else zb2 B J) = zb2 (if 2 ≤ (s : Int) then A else B) J := fun A B J => by split <;> rfl
  have hmain : sh_Mo_clause N g = zb2 (if 2 ≤ (s : Int) then sh_Mo_summed N g3 else sh_Mo_either N g3) (fun r h => sh_Mo_clause_J64 N ((625 * t + 1 + 3 * i : Nat) : Int) r h) := by
    unfold sh_Mo_clause
    rw [hso, if_pos (by omega), if_neg hbit, e1, q1]
    simp only [zb1_some]
    rw [hx12, Int.toNat_natCast, hx88, eA, eA1, Int.toNat_natCast, Int.toNat_natCast, if_pos (by omega), if_pos (by omega), if_pos (by omega), e3, hit]
  rw [hmain]
  have hgs := zRk_g (b := b) (len := len) (s := (s : Int)) (zne b len p) hb.2.1
  have hR : match zRk b len (s : Int) (zne b len p) with
    | .inl e => ∃ g4, (if 2 ≤ (s : Int) then sh_Mo_summed N g3 else sh_Mo_either N g3) = some (e.1, g4) ∧ g4 85 8 = (e.2 : Int) ∧ zFR t c g3 g4
    | .inr (p', l) => ∃ g4, (if 2 ≤ (s : Int) then sh_Mo_summed N g3 else sh_Mo_either N g3) = some (0, g4) ∧ zRS g4 b len t s p' (c + l.length) 0 1 [] ∧ zEm g4 t c l ∧ zFR t c g3 g4 := by
    unfold zRk
    by_cases c2 : (s : Int) < 2
    · rw [if_pos c2, if_neg (by omega)]
      exact zeit_r hN ht hl S3 (by omega)
    · rw [if_neg c2, if_pos (by omega)]
      exact zsum_r (d := 8) (b := b) (so := s) hN ht hl (by omega) S3 (by omega)
  cases hr : zRk b len (s : Int) (zne b len p) with
  | inl e =>
    rw [hr] at hR hgs
    obtain ⟨g4, r1, r2, r3⟩ := hR
    have hne : e.1 ≠ 0 := by have := hgs.1; omega
    refine ⟨g4, ?_, r2, f3.trans (zFX_r r3)⟩
    rw [r1]
    simp only [zb2_some]
    unfold sh_Mo_clause_J64
    rw [if_neg hne]
  | inr q =>
    obtain ⟨p', l⟩ := q
    rw [hr] at hR hgs
    obtain ⟨y1, y2, y3⟩ := hgs
    obtain ⟨g4, r1, r2, r3, r4⟩ := hR
    have e88 : g4 88 (625 * t) = i := by rw [r4.2.1 _ (by omega), m2 _ (by omega) (by omega)]; exact hx88
    rw [r1]
    simp only [zb2_some]
    rw [zJ64_r r2.z0 (by omega) (by omega) ht e88 (by omega)]
    obtain ⟨g5, e5⟩ : ∃ x, zst (zst g4 88 (625 * t + 1 + 3 * i + 2) ((c + l.length : Nat) : Int)) 88 (625 * t) ((i + 1 : Nat) : Int) = x := ⟨_, rfl⟩
    rw [e5]
    have w1 : ∀ id, id ≠ 88 → g5 id = g4 id := fun id h1 => by rw [← e5, zst_if, if_neg h1, zst_if, if_neg h1]
    have w2 : ∀ j, j ≠ 625 * t → j ≠ 625 * t + 1 + 3 * i + 2 → g5 88 j = g4 88 j := fun j h1 h2 => by rw [← e5, zst_if, if_pos rfl, zup1_ne _ _ h1, zst_if, if_pos rfl, zup1_ne _ _ h2]
    have w3 : g5 88 (625 * t) = ((i + 1 : Nat) : Int) := by rw [← e5, zst_if, if_pos rfl, zup1_eq]
    have w4 : g5 88 (625 * t + 1 + 3 * i + 2) = ((c + l.length : Nat) : Int) := by rw [← e5, zst_if, if_pos rfl, zup1_ne _ _ (by omega), zst_if, if_pos rfl, zup1_eq]
    have f5 : zFX t g g5 := by rw [← e5]; exact ((f3.trans (zFX_r r4)).s8 (by omega)).s8 (by omega)
    have S5 : zRS0 g5 b len t s p' (c + l.length) 0 := by
      refine ⟨⟨zTp_e r2.1.1 (by rw [w1 85 (by decide)]) (w1 89 (by decide)), zTK_e r2.1.2.1 (fun j _ _ => by rw [w1 85 (by decide)]), y2⟩, ?_⟩
      rw [w1 85 (by decide)]
      exact r2.z0.2
    by_cases c3 : zco b len p' = 30
    case neg =>
      rw [if_neg c3]
      show ∃ g1, _ ∧ _
      rw [if_neg c3]
      exact ⟨g5, rfl, S5.1.2.1.1.2, f5⟩
    rw [if_pos c3]
    obtain ⟨g6, u1, u2, u3, u4⟩ := zRS0_nxt hN S5
    have hg : ∀ j, j < 625 * t + 20 + 2 * c → j ≠ 625 * t → (j < 625 * t + 1 + 3 * i ∨ 625 * t + 3 + 3 * i < j) → g6 88 j = g 88 j := fun j h1 h2 h3 => by
      rw [u4, w2 j h2 (by omega), r4.2.1 j h1, m2 j (by omega) (by omega), q4, n2 88 (by decide)]
    have hE : zEm g5 t c l := fun k v hk => by
      have := r3 k v hk
      rw [w2 _ (by omega) (by omega), w2 _ (by omega) (by omega)]
      exact this
    have h21 : g6 85 21 = zor (g 85 21) (zshl 1 (s : Int)) := by rw [u3.2.2 21 (by decide), w1 85 (by decide), r4.2.2 21 (by decide), m1 85 (by decide), q3.2.2 21 (by decide)]; exact n21
    simp only [if_pos c3]
    refine ⟨g6, s, ⟨hs5, by omega, c1⟩, ?_, u2, ⟨?_, ?_, ?_, ?_⟩, zEm_k hE u4, ⟨?_, ?_, ?_⟩, hg, f5.trans (zFX_r u3)⟩
    · rw [u1]; rfl
    · rw [u4]; exact w3
    · rw [u4, w2 _ (by omega) (by omega), r4.2.1 _ (by omega)]; exact m3
    · rw [u4, w2 _ (by omega) (by omega), r4.2.1 _ (by omega), show 625 * t + 2 + 3 * i = 625 * t + 1 + 3 * i + 1 by omega]; exact m4
    · rw [u4, show 625 * t + 3 + 3 * i = 625 * t + 1 + 3 * i + 2 by omega]; exact w4
    · rw [h21]; exact hbt.1.1
    · rw [h21]; exact hbt.1.2
    · intro s' hs'
      rw [h21, hbt.2 s' hs']
      show s' = s ∨ zand (zshr (g 85 21) (s' : Int)) 1 = 1 ↔ (if s' = s then l else F s') ≠ []
      by_cases c4 : s' = s
      · rw [if_pos c4]
        exact ⟨fun _ => y3, fun _ => Or.inl c4⟩
      · rw [if_neg c4, hB.2.2 s' hs']
        exact ⟨fun q => q.resolve_left c4, fun q => Or.inr q⟩
