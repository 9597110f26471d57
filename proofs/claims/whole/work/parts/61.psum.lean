/-! PURE: text, the reference sums -/
def zFin (N : Nat) (X : Option ((Int × zHp) ⊕ zHp)) : Option (Int × zHp) := zb1 X fun w46 => zsum2 w46 (zcu2 fun y47 h48 => some (y47, h48)) (zcu1 fun h49 => zb1 (sh_Mo_settle N 3 h49) fun h55 => some ((if h55 85 17 ≤ 0 then 0 else 1 : Int), h55))
theorem zL6_0 {N n : Nat} {g : zHp} (h : g 85 19 = 0) : sh_Mo_summed_L6 N (n + 1) g = zb2 (sh_Mo_beginOne N g) fun r h10 => if r = 0 then sh_Mo_summed_L6 N n h10 else some (.inl (r, h10)) := by
  conv => enter [1]; unfold sh_Mo_summed_L6
  rw [if_pos h, if_pos h]
theorem zL6_1 {N n : Nat} {g : zHp} (h : g 85 19 = 1) (hg : sh_Mo_goesOn N g = some 1) : sh_Mo_summed_L6 N (n + 1) g = zb2 (sh_Mo_behindOne N g) fun r h10 => if r = 0 then sh_Mo_summed_L6 N n h10 else some (.inl (r, h10)) := by
  conv => enter [1]; unfold sh_Mo_summed_L6
  rw [if_neg (by rw [h]; decide), hg]
  simp only [zb1_some]
  rw [if_neg (by decide), if_neg (by rw [h]; decide)]
theorem zL6_e {N n : Nat} {g : zHp} (h : g 85 19 = 1) (hg : sh_Mo_goesOn N g = some 0) : sh_Mo_summed_L6 N (n + 1) g = some (.inr g) := by
  conv => enter [1]; unfold sh_Mo_summed_L6
  rw [if_neg (by rw [h]; decide), hg]
  simp only [zb1_some]
  rw [if_pos trivial]
theorem zsk_m {c : zFn} {x : Int} : ∀ {P : List Int}, zsk c P → (x ∈ P ↔ ∃ i, i < P.length ∧ c i = x) := by
  intro P
  induction P with
  | nil => intro _; simp
  | cons y P ih =>
    intro h
    rw [List.mem_cons, ih h.2]
    constructor
    · rintro (rfl | ⟨i, h1, h2⟩)
      · exact ⟨P.length, by simp, h.1⟩
      · exact ⟨i, by simp only [List.length_cons]; omega, h2⟩
    · rintro ⟨i, h1, h2⟩
      simp only [List.length_cons] at h1
      by_cases e : i = P.length
      · left; rw [← h2, e]; exact h.1
      · exact Or.inr ⟨i, by omega, h2⟩
theorem zhp_r {g : zHp} {P : List Int} {N : Nat} (hN : 1300 ≤ N) (hl : P.length ≤ 160) (e : g 85 17 = (P.length : Int)) (hs : zsk (g 90) P) : sh_Mo_hasParen N g = some (if (40 : Int) ∈ P then 1 else 0) := by
  have hL : ∀ (d n i : Nat), i + d = P.length → d < n → (∀ j, j < i → g 90 j ≠ 40) → (zb1 (sh_Mo_hasParen_L2 N g n (i : Int)) fun w5 => zsum2 w5 (zcu1 fun y6 => some (1 : Int)) (zcu1 fun y7 => some (0 : Int))) = some (if (40 : Int) ∈ P then 1 else 0) := by
    intro d
    induction d with
    | zero =>
      intro n i hi hn hj
      obtain ⟨n, rfl⟩ : ∃ m, n = m + 1 := ⟨n - 1, by omega⟩
      unfold sh_Mo_hasParen_L2
      rw [e, if_pos (by omega), if_neg (fun q => by
        obtain ⟨j, h1, h2⟩ := (zsk_m hs).mp q
        exact hj j (by omega) h2)]
      rfl
    | succ d ih =>
      intro n i hi hn hj
      obtain ⟨n, rfl⟩ : ∃ m, n = m + 1 := ⟨n - 1, by omega⟩
      have e1 : w32 ((i : Int) + 1) = ((i + 1 : Nat) : Int) := by rw [w32_s (by omega) (by omega)]; omega
      unfold sh_Mo_hasParen_L2
      rw [e, if_neg (by omega), zgrd (by omega) (by omega), Int.toNat_natCast, e1]
      by_cases c : g 90 i = 40
      · rw [if_pos c, if_pos ((zsk_m hs).mpr ⟨i, by omega, c⟩)]
        rfl
      · rw [if_neg c]
        exact ih n (i + 1) (by omega) (by omega) (fun j hj2 => by
          by_cases e : j = i
          · rw [e]; exact c
          · exact hj j (by omega))
  unfold sh_Mo_hasParen
  exact hL P.length N 0 (by omega) (by omega) (fun j hj => by omega)
theorem zgo_r {g : zHp} {b : zFn} {len t : Nat} {so : Int} {p c N : Nat} {o w : Int} {P : List Int} (hN : 1300 ≤ N) (hl : P.length ≤ 160) (S : zRS g b len t so p c o w P) : sh_Mo_goesOn N g = some (if zJ3 (zco b len p) = true ∨ zJ2 (zco b len p) = true ∨ (zco b len p = 29 ∧ (40 : Int) ∈ P) then 1 else 0) := by
  obtain ⟨⟨s1, s2, s3⟩, -, s6, s7, s8, s9, s10⟩ := S
  have hT := zTK_s s2
  have hp := zhp_r hN hl s9 s10
  unfold sh_Mo_goesOn zJ2 zJ3
  simp only [decide_eq_true_iff]
  by_cases c1 : g 85 9 = 43
  · rw [if_pos c1, if_pos (Or.inl (Or.inl (hT.2.2.2.2.2.1.mp c1)))]
  rw [if_neg c1]
  by_cases c2 : g 85 9 = 45
  · rw [if_pos c2, if_pos (Or.inl (Or.inr (hT.2.2.2.2.2.2.1.mp c2)))]
  rw [if_neg c2]
  by_cases c3 : g 85 9 = 42
  · rw [if_pos c3, if_pos (Or.inr (Or.inl (Or.inl (hT.2.2.2.2.2.2.2.1.mp c3))))]
  rw [if_neg c3]
  by_cases c4 : g 85 9 = 47
  · rw [if_pos c4, if_pos (Or.inr (Or.inl (Or.inr (hT.2.2.2.2.2.2.2.2.1.mp c4))))]
  rw [if_neg c4]
  have n1 := fun q => c1 (hT.2.2.2.2.2.1.mpr q)
  have n2 := fun q => c2 (hT.2.2.2.2.2.2.1.mpr q)
  have n3 := fun q => c3 (hT.2.2.2.2.2.2.2.1.mpr q)
  have n4 := fun q => c4 (hT.2.2.2.2.2.2.2.2.1.mpr q)
  by_cases c5 : g 85 9 = 41
  · rw [if_pos c5, hp]
    simp only [zb1_some]
    have h29 := hT.2.2.2.1.mp c5
    by_cases c6 : (40 : Int) ∈ P
    · rw [if_pos c6, if_neg (by decide), if_pos (Or.inr (Or.inr ⟨h29, c6⟩))]
    · rw [if_neg c6, if_pos rfl, if_neg (by
        rintro ((q | q) | (q | q) | q)
        · exact n1 q
        · exact n2 q
        · exact n3 q
        · exact n4 q
        · exact c6 q.2)]
  · rw [if_neg c5, if_neg (by
      rintro ((q | q) | (q | q) | q)
      · exact n1 q
      · exact n2 q
      · exact n3 q
      · exact n4 q
      · exact c5 (hT.2.2.2.1.mpr q.1))]
theorem zwh_r {g : zHp} {b : zFn} {len t : Nat} {so : Int} {p c N j : Nat} {o w : Int} {Q : List Int} (hN : 1300 ≤ N) (ht : t ≤ 3) (hQ : ∀ x Q', Q = x :: Q' → x ≠ 2) (S : zRS g b len t so p c o w (List.replicate j 2 ++ Q)) (hc : c + j ≤ 300) (hl : j + Q.length < 160) (ho : (j : Int) - 100 ≤ o ∧ o ≤ 100) : ∃ g1, sh_Mo_whole N g = some g1 ∧ zRS g1 b len t so p (c + j) (o - j) 1 Q ∧ zFR t c g g1 ∧ zEm g1 t c (List.replicate j 20033) := by
  have hS := S
  obtain ⟨-, -, s6, s7, s8, s9, s10⟩ := hS
  have S1 : zRS (zst g 85 19 1) b len t so p c o 1 (List.replicate j 2 ++ Q) := zRS_st S (Or.inr (Or.inr (Or.inr rfl))) (by rw [zst_if, if_pos rfl, zup1_ne _ _ (by decide)]; exact s6) (by rw [zst_if, if_pos rfl, zup1_ne _ _ (by decide)]; exact s9) (by rw [zst_if, if_pos rfl, zup1_ne _ _ (by decide)]; exact s7) (by rw [zst_if, if_pos rfl, zup1_eq]) s10
  obtain ⟨g1, q1, q2, q3, q4⟩ := zwhL_r N ht hQ j N c o (zst g 85 19 1) S1 hc hl ho.1 ho.2 (by omega)
  refine ⟨g1, ?_, q2, ((zFR.refl g).st (by decide)).trans q3 (Nat.le_refl _), q4⟩
  unfold sh_Mo_whole
  exact congrArg (fun o => zb1 o fun h11 => some h11) q1
/-- a sum's fault -/
def zFlt (N : Nat) (len t c p : Nat) (g : zHp) (e : Int × Nat) : Prop := ∃ k g1, k + p ≤ len + 2 ∧ (∀ n, zFin N (sh_Mo_summed_L6 N (n + k) g) = some (e.1, g1)) ∧ g1 85 8 = (e.2 : Int) ∧ zFR t c g g1
def zG1 (N : Nat) (b : zFn) (len t : Nat) (so : Int) (d : Nat) (sub : Nat → zR) : Prop := ∀ (p c j : Nat) (Q : List Int) (g : zHp), zRS g b len t so p c (8 - (d : Int)) 0 (List.replicate j 2 ++ Q) → (∀ x Q', Q = x :: Q' → x ≠ 2) → c + j + Q.length ≤ p → j + Q.length + 3 * d ≤ 26 → j + d ≤ 8 →
  match sub p with
  | .inl e => zFlt N len t c p g e
  | .inr (p', l) => ∃ k g1, k + p ≤ p' ∧ (∀ n, sh_Mo_summed_L6 N (n + k) g = sh_Mo_summed_L6 N n g1) ∧ zRS g1 b len t so p' (c + l.length + j) (8 - (d : Int) - j) 1 Q ∧ zEm g1 t c (l ++ List.replicate j 20033) ∧ zFR t c g g1
def zG2 (N : Nat) (b : zFn) (len t : Nat) (so : Int) (d : Nat) (sub : Nat → zR) : Prop := ∀ (p c : Nat) (Q : List Int) (g : zHp), zRS g b len t so p c (8 - (d : Int)) 0 Q → (∀ x Q', Q = x :: Q' → x = 40 ∨ x = 3 ∨ x = 4) → c + Q.length ≤ p → Q.length + 3 * d ≤ 25 →
  match sub p with
  | .inl e => zFlt N len t c p g e
  | .inr (p', l) => ∃ k g1 ops e, k + p ≤ p' ∧ (∀ n, sh_Mo_summed_L6 N (n + k) g = sh_Mo_summed_L6 N n g1) ∧ zRS g1 b len t so p' (c + List.length e) (8 - (d : Int)) 1 (ops ++ Q) ∧ zops 5 ops ∧ ops.length ≤ 1 ∧ l = e ++ ops.map zoc ∧ zEm g1 t c e ∧ zFR t c g g1 ∧ zJ2 (zco b len p') = false
def zG3 (N : Nat) (b : zFn) (len t : Nat) (so : Int) (d : Nat) (sub : Nat → zR) : Prop := ∀ (p c : Nat) (P : List Int) (g : zHp), zRS g b len t so p c (8 - (d : Int)) 0 P → (∀ x P', P = x :: P' → x = 40) → c + P.length ≤ p → P.length + 3 * d ≤ 24 →
  match sub p with
  | .inl e => zFlt N len t c p g e
  | .inr (p', l) => ∃ k g1 ops e, k + p ≤ p' ∧ (∀ n, sh_Mo_summed_L6 N (n + k) g = sh_Mo_summed_L6 N n g1) ∧ zRS g1 b len t so p' (c + List.length e) (8 - (d : Int)) 1 (ops ++ P) ∧ zops 3 ops ∧ ops.length ≤ 2 ∧ l = e ++ ops.map zoc ∧ zEm g1 t c e ∧ zFR t c g g1 ∧ zJ2 (zco b len p') = false ∧ zJ3 (zco b len p') = false
/-- a step behind a whole one: the pile's operations of a rank are written, the new one is pushed -/
theorem zbhd_r {g : zHp} {b : zFn} {len t : Nat} {so : Int} {p c N : Nat} {o : Int} {ops Q : List Int} (hN : 1300 ≤ N) (ht : t ≤ 3) (lo x : Int) (S : zRS g b len t so p c o 1 (ops ++ Q)) (hQ : ∀ x Q', Q = x :: Q' → 40 ≤ x ∨ x < lo) (ho : zops lo ops) (hc : c + ops.length ≤ 300) (hl : (ops ++ Q).length < 100)
    (hk : (lo = 5 ∧ ((zco b len p = 26 ∧ x = 5) ∨ (zco b len p = 27 ∧ x = 6))) ∨ (lo = 3 ∧ ((zco b len p = 24 ∧ x = 3) ∨ (zco b len p = 25 ∧ x = 4)))) : ∃ g1, (∀ n, sh_Mo_summed_L6 N (n + 1) g = sh_Mo_summed_L6 N n g1) ∧ zRS g1 b len t so (zne b len p) (c + ops.length) o 0 (x :: Q) ∧ zEm g1 t c (ops.map zoc) ∧ zFR t c g g1 := by
  have hgo := zgo_r hN (by omega) S
  have hJ : zJ3 (zco b len p) = true ∨ zJ2 (zco b len p) = true ∨ (zco b len p = 29 ∧ (40 : Int) ∈ ops ++ Q) := by
    unfold zJ2 zJ3
    simp only [decide_eq_true_iff]
    omega
  rw [if_pos hJ] at hgo
  have hT := zTK_s S.1.2.1
  obtain ⟨g1, q1, q2, q3, q4⟩ := zstl_r (w := 1) N lo ht (by omega) hQ ops N c g ho S hc (by omega) (by simp only [List.length_append] at hl; omega)
  have qs : sh_Mo_settle N lo g = some g1 := by
    unfold sh_Mo_settle
    exact congrArg (fun o => zb1 o fun h14 => some h14) q1
  obtain ⟨g2, r1, r2, r3, r4⟩ := zRS_psh (N := N) x (by simp only [List.length_append] at hl; omega) q2
  have hr2 := r2
  obtain ⟨-, -, v6, v7, v8, v9, v10⟩ := hr2
  have S3 : zRS (zst g2 85 19 0) b len t so p (c + ops.length) o 0 (x :: Q) := zRS_st r2 (Or.inr (Or.inr (Or.inr rfl))) (by rw [zst_if, if_pos rfl, zup1_ne _ _ (by decide)]; exact v6) (by rw [zst_if, if_pos rfl, zup1_ne _ _ (by decide)]; exact v9) (by rw [zst_if, if_pos rfl, zup1_ne _ _ (by decide)]; exact v7) (by rw [zst_if, if_pos rfl, zup1_eq]) v10
  obtain ⟨g3, s1, s2, s3, s4⟩ := zRS_nxt hN S3
  have f2 : zFR t (c + ops.length) g1 g3 := (r3.st (by decide)).trans s3 (Nat.le_refl _)
  have e88 : g3 88 = g1 88 := by rw [s4, zst_if, if_neg (by decide), r4]
  refine ⟨g3, fun n => ?_, s2, zEm_k q4 e88, q3.trans f2 (by omega)⟩
  rw [zL6_1 S.2.2.2.2.1 hgo]
  have hb : sh_Mo_behindOne N g = some (0, g3) := by
    unfold sh_Mo_behindOne
    rcases hk with ⟨rfl, hk⟩ | ⟨rfl, hk⟩
    · rcases hk with ⟨k1, rfl⟩ | ⟨k1, rfl⟩
      · have t1 : g 85 9 = 42 := hT.2.2.2.2.2.2.2.1.mpr k1
        rw [if_neg (by omega), if_neg (by omega), if_pos t1, qs]
        simp only [zb1_some]
        rw [if_pos t1, r1]
        simp only [zb1_some]
        rw [s1]
        rfl
      · have t1 : g 85 9 = 47 := hT.2.2.2.2.2.2.2.2.1.mpr k1
        rw [if_neg (by omega), if_neg (by omega), if_neg (by omega), if_pos t1, qs]
        simp only [zb1_some]
        rw [if_neg (c := g 85 9 = 42) (by omega), r1]
        simp only [zb1_some]
        rw [s1]
        rfl
    · rcases hk with ⟨k1, rfl⟩ | ⟨k1, rfl⟩
      · have t1 : g 85 9 = 43 := hT.2.2.2.2.2.1.mpr k1
        rw [if_pos t1, qs]
        simp only [zb1_some]
        rw [if_pos t1, r1]
        simp only [zb1_some]
        rw [s1]
        rfl
      · have t1 : g 85 9 = 45 := hT.2.2.2.2.2.2.1.mpr k1
        rw [if_neg (by omega), if_pos t1, qs]
        simp only [zb1_some]
        rw [if_neg (c := g 85 9 = 43) (by omega), r1]
        simp only [zb1_some]
        rw [s1]
        rfl
  rw [hb]
  simp only [zb2_some]
  rw [if_pos trivial]
theorem zFlt_p {N len t c c' p p' k : Nat} {g g1 : zHp} {e : Int × Nat} (h : zFlt N len t c' p' g1 e) (hk : k + p ≤ p') (hL : ∀ n, sh_Mo_summed_L6 N (n + k) g = sh_Mo_summed_L6 N n g1) (f : zFR t c g g1) (hc : c ≤ c') : zFlt N len t c p g e := by
  obtain ⟨k2, g2, h1, h2, h3, h4⟩ := h
  refine ⟨k2 + k, g2, by omega, fun n => ?_, h3, f.trans h4 hc⟩
  rw [← Nat.add_assoc, hL]
  exact h2 n
theorem zprd_r {N : Nat} {b : zFn} {len t : Nat} {so : Int} {d : Nat} {O : Nat → zR} (hN : 1300 ≤ N) (ht : t ≤ 3) (hd : d ≤ 8) (hg : ∀ p, p ≤ len → zRG2 len p (O p)) (hl : len ≤ 300) (G : zG1 N b len t so d O) : zG2 N b len t so d (zprd b len O) := by
  have hlp : ∀ (n p c : Nat) (Q ops e : List Int) (g : zHp), zRS g b len t so p (c + List.length e) (8 - (d : Int)) 1 (ops ++ Q) → (∀ x Q', Q = x :: Q' → x = 40 ∨ x = 3 ∨ x = 4) → zops 5 ops → ops.length ≤ 1 → c + (e ++ ops.map zoc).length + Q.length ≤ p → Q.length + 3 * d ≤ 25 → len ≤ p + n → zEm g t c e →
      match zlpR b len zJ2 O n p (e ++ ops.map zoc) with
      | .inl er => zFlt N len t c p g er
      | .inr (p', l) => ∃ k g1 ops e, k + p ≤ p' ∧ (∀ n, sh_Mo_summed_L6 N (n + k) g = sh_Mo_summed_L6 N n g1) ∧ zRS g1 b len t so p' (c + List.length e) (8 - (d : Int)) 1 (ops ++ Q) ∧ zops 5 ops ∧ ops.length ≤ 1 ∧ l = e ++ ops.map zoc ∧ zEm g1 t c e ∧ zFR t c g g1 ∧ zJ2 (zco b len p') = false := by
    intro n
    induction n with
    | zero =>
      intro p c Q ops e g S hQ ho h1 hc hL hn hE
      have hp := S.1.2.2
      have hb := zne_b (b := b) (len := len) hp
      refine ⟨0, g, ops, e, by omega, fun n => rfl, S, ho, h1, rfl, hE, zFR.refl g, ?_⟩
      rw [zco_e (by omega)]; decide
    | succ n ih =>
      intro p c Q ops e g S hQ ho h1 hc hL hn hE
      have hp := S.1.2.2
      have hb := zne_b (b := b) (len := len) hp
      have hlen : (e ++ ops.map zoc).length = e.length + ops.length := by rw [List.length_append, List.length_map]
      rw [show zlpR b len zJ2 O (n + 1) p (e ++ ops.map zoc) = if zJ2 (zco b len p) = true then (match O (zne b len p) with
        | .inl e => .inl e
        | .inr (p', l') => zlpR b len zJ2 O n p' ((e ++ ops.map zoc) ++ (l' ++ [20000 + zco b len p]))) else .inr (p, e ++ ops.map zoc) from rfl]
      by_cases c1 : zJ2 (zco b len p) = true
      case neg =>
        rw [if_neg c1]
        exact ⟨0, g, ops, e, by omega, fun n => rfl, S, ho, h1, rfl, hE, zFR.refl g, by simpa using c1⟩
      rw [if_pos c1]
      have hk : zco b len p ≠ 35 := fun q => by rw [q] at c1; exact absurd c1 (by decide)
      have hlt := zco_ne (b := b) (len := len) hp hk
      have c2 : zco b len p = 26 ∨ zco b len p = 27 := of_decide_eq_true c1
      obtain ⟨x, hx, hx2⟩ : ∃ x : Int, ((zco b len p = 26 ∧ x = 5) ∨ (zco b len p = 27 ∧ x = 6)) ∧ zoc x = 20000 + zco b len p := by
        rcases c2 with h | h
        · exact ⟨5, Or.inl ⟨h, rfl⟩, by rw [h]; rfl⟩
        · exact ⟨6, Or.inr ⟨h, rfl⟩, by rw [h]; rfl⟩
      obtain ⟨g1, q1, q2, q3, q4⟩ := zbhd_r hN ht 5 x S (fun x Q' h => by have := hQ x Q' h; omega) ho (by omega) (by rw [List.length_append]; omega) (Or.inl ⟨rfl, hx⟩)
      have hG := G (zne b len p) (c + e.length + ops.length) 0 (x :: Q) g1 q2 (fun y Q' h => by
        obtain ⟨rfl, -⟩ := List.cons.inj h
        omega) (by simp only [List.length_cons]; omega) (by simp only [List.length_cons]; omega) (by omega)
      have hgs := hg (zne b len p) hb.2.1
      have hE1 : zEm g1 t c (e ++ ops.map zoc) := zEm_app hE q4 q3
      have f1 : zFR t c g g1 := ⟨q4.1, fun j hj => q4.2.1 j (by omega), q4.2.2⟩
      cases hr : O (zne b len p) with
      | inl er =>
        rw [hr] at hG
        exact zFlt_p hG (by omega : 1 + p ≤ zne b len p) q1 f1 (by omega)
      | inr q =>
        obtain ⟨p', l'⟩ := q
        rw [hr] at hG hgs
        obtain ⟨g1', g2', g3'⟩ := hgs
        obtain ⟨k, g2, r1, r2, r3, r4, r5⟩ := hG
        simp only [List.replicate_zero, List.append_nil, Nat.add_zero] at r3 r4
        have hE2 : zEm g2 t c ((e ++ ops.map zoc) ++ l') := zEm_app hE1 (by rw [hlen, ← Nat.add_assoc]; exact r5) (by rw [hlen, ← Nat.add_assoc]; exact r4)
        have hlen2 : ((e ++ ops.map zoc) ++ l').length = e.length + ops.length + l'.length := by rw [List.length_append, hlen]
        have S2 : zRS g2 b len t so p' (c + ((e ++ ops.map zoc) ++ l').length) (8 - (d : Int)) 1 ([x] ++ Q) := by
          rw [hlen2, show c + (e.length + ops.length + l'.length) = c + e.length + ops.length + l'.length by omega]
          have e0 : (8 : Int) - (d : Int) - ((0 : Nat) : Int) = 8 - (d : Int) := by omega
          rw [e0] at r3
          exact r3
        have hih := ih p' c Q [x] ((e ++ ops.map zoc) ++ l') g2 S2 hQ (fun y hy => by
          rcases List.mem_cons.mp hy with rfl | h
          · omega
          · cases h) (by simp) (by
            rw [List.length_append, hlen2, List.length_map]
            simp only [List.length_cons, List.length_nil]
            omega) hL (by omega) hE2
        have eacc : ((e ++ ops.map zoc) ++ l') ++ [x].map zoc = (e ++ ops.map zoc) ++ (l' ++ [20000 + zco b len p]) := by
          rw [List.map_cons, List.map_nil, hx2, List.append_assoc]
        rw [eacc] at hih
        have hL2 : ∀ n, sh_Mo_summed_L6 N (n + (k + 1)) g = sh_Mo_summed_L6 N n g2 := fun n => by
          rw [← Nat.add_assoc, q1, r2]
        have f2 : zFR t c g g2 := f1.trans r5 (by omega)
        show match zlpR b len zJ2 O n p' ((e ++ ops.map zoc) ++ (l' ++ [20000 + zco b len p])) with
          | .inl er => zFlt N len t c p g er
          | .inr (p', l) => ∃ k g1 ops e, k + p ≤ p' ∧ (∀ n, sh_Mo_summed_L6 N (n + k) g = sh_Mo_summed_L6 N n g1) ∧ zRS g1 b len t so p' (c + List.length e) (8 - (d : Int)) 1 (ops ++ Q) ∧ zops 5 ops ∧ ops.length ≤ 1 ∧ l = e ++ ops.map zoc ∧ zEm g1 t c e ∧ zFR t c g g1 ∧ zJ2 (zco b len p') = false
        cases hz : zlpR b len zJ2 O n p' ((e ++ ops.map zoc) ++ (l' ++ [20000 + zco b len p])) with
        | inl er =>
          rw [hz] at hih
          exact zFlt_p hih (by omega : k + 1 + p ≤ p') hL2 f2 (Nat.le_refl _)
        | inr q =>
          obtain ⟨p2, l2⟩ := q
          rw [hz] at hih
          obtain ⟨k3, g3, ops3, e3, u1, u2, u3, u4, u5, u6, u7, u8, u9⟩ := hih
          exact ⟨k3 + (k + 1), g3, ops3, e3, by omega, fun n => by rw [← Nat.add_assoc, hL2, u2], u3, u4, u5, u6, u7, f2.trans u8 (Nat.le_refl _), u9⟩
  intro p c Q g S hQ hc hL
  have hp := S.1.2.2
  have hG := G p c 0 Q g S (fun x Q' h => by have := hQ x Q' h; omega) (by omega) (by omega) (by omega)
  have hgs := hg p hp
  unfold zprd zjnR
  cases hr : O p with
  | inl er => rw [hr] at hG; exact hG
  | inr q =>
    obtain ⟨p', l'⟩ := q
    rw [hr] at hG hgs
    obtain ⟨g1', g2', g3'⟩ := hgs
    obtain ⟨k, g2, r1, r2, r3, r4, r5⟩ := hG
    simp only [List.replicate_zero, List.append_nil, Nat.add_zero] at r3 r4
    have e0 : (8 : Int) - (d : Int) - ((0 : Nat) : Int) = 8 - (d : Int) := by omega
    rw [e0] at r3
    have hih := hlp len p' c Q [] l' g2 r3 hQ (fun y hy => by cases hy) (by simp) (by simp only [List.map_nil, List.append_nil]; omega) hL (by omega) r4
    simp only [List.map_nil, List.append_nil] at hih
    show match zlpR b len zJ2 O len p' l' with
      | .inl er => zFlt N len t c p g er
      | .inr (p', l) => ∃ k g1 ops e, k + p ≤ p' ∧ (∀ n, sh_Mo_summed_L6 N (n + k) g = sh_Mo_summed_L6 N n g1) ∧ zRS g1 b len t so p' (c + List.length e) (8 - (d : Int)) 1 (ops ++ Q) ∧ zops 5 ops ∧ ops.length ≤ 1 ∧ l = e ++ ops.map zoc ∧ zEm g1 t c e ∧ zFR t c g g1 ∧ zJ2 (zco b len p') = false
    cases hz : zlpR b len zJ2 O len p' l' with
    | inl er =>
      rw [hz] at hih
      exact zFlt_p hih r1 r2 r5 (Nat.le_refl _)
    | inr q =>
      obtain ⟨p2, l2⟩ := q
      rw [hz] at hih
      obtain ⟨k3, g3, ops3, e3, u1, u2, u3, u4, u5, u6, u7, u8, u9⟩ := hih
      exact ⟨k3 + k, g3, ops3, e3, by omega, fun n => by rw [← Nat.add_assoc, r2, u2], u3, u4, u5, u6, u7, r5.trans u8 (Nat.le_refl _), u9⟩
