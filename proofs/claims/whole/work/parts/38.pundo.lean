/-! PURE: undo -/
def zunf (a0 : zFn) (x k : Nat) : zFn := fun j => if 28 ≤ j ∧ j < 28 + 4 * k ∧ (j - 28) % 4 = 0 then a0 (x + 3 + (j - 28) / 4) else a0 j
def zuno (a0 b : zFn) (x k : Nat) : zFn := fun j => if 41 ≤ j ∧ j < 41 + 8 * k ∧ ((j - 41) % 8 = 0 ∨ 4 ≤ (j - 41) % 8) then (if (j - 41) % 8 = 0 then a0 (x + 7 + 5 * ((j - 41) / 8)) else a0 (x + 4 + 5 * ((j - 41) / 8) + (j - 41) % 8)) else b j
theorem zunf_up (a0 : zFn) (x k : Nat) (hx : 121 ≤ x) (hk : k < 4) : zup1 (zunf a0 x k) (28 + 4 * k) (zunf a0 x k (x + (3 + k))) = zunf a0 x (k + 1) := by
  funext j
  have e : zunf a0 x k (x + (3 + k)) = a0 (x + 3 + k) := by
    unfold zunf
    rw [if_neg (by omega)]; congr 1; omega
  rw [e]
  unfold zup1 zunf
  by_cases q : j = 28 + 4 * k
  · subst q
    rw [if_pos rfl, if_pos (by omega)]; congr 1; omega
  · rw [if_neg q]
    by_cases r : 28 ≤ j ∧ j < 28 + 4 * k ∧ (j - 28) % 4 = 0
    · rw [if_pos r, if_pos (by omega)]
    · rw [if_neg r, if_neg (by omega)]
theorem zuno_up (a0 b : zFn) (x k : Nat) : zup1 (zup1 (zup1 (zup1 (zup1 (zuno a0 b x k) (41 + 8 * k) (a0 (x + 7 + 5 * k))) (41 + 8 * k + 4) (a0 (x + 8 + 5 * k))) (41 + 8 * k + 5) (a0 (x + 9 + 5 * k))) (41 + 8 * k + 6) (a0 (x + 10 + 5 * k))) (41 + 8 * k + 7) (a0 (x + 11 + 5 * k)) = zuno a0 b x (k + 1) := by
  funext j
  unfold zup1 zuno
  by_cases q : j = 41 + 8 * k + 7
  · subst q
    rw [if_pos rfl, if_pos (by omega), if_neg (by omega)]; congr 1; omega
  rw [if_neg q]
  by_cases q1 : j = 41 + 8 * k + 6
  · subst q1
    rw [if_pos rfl, if_pos (by omega), if_neg (by omega)]; congr 1; omega
  rw [if_neg q1]
  by_cases q2 : j = 41 + 8 * k + 5
  · subst q2
    rw [if_pos rfl, if_pos (by omega), if_neg (by omega)]; congr 1; omega
  rw [if_neg q2]
  by_cases q3 : j = 41 + 8 * k + 4
  · subst q3
    rw [if_pos rfl, if_pos (by omega), if_neg (by omega)]; congr 1; omega
  rw [if_neg q3]
  by_cases q4 : j = 41 + 8 * k
  · subst q4
    rw [if_pos rfl, if_pos (by omega), if_pos (by omega)]; congr 1; omega
  rw [if_neg q4]
  by_cases r : 41 ≤ j ∧ j < 41 + 8 * k ∧ ((j - 41) % 8 = 0 ∨ 4 ≤ (j - 41) % 8)
  · rw [if_pos r, if_pos (c := 41 ≤ j ∧ j < 41 + 8 * (k + 1) ∧ ((j - 41) % 8 = 0 ∨ 4 ≤ (j - 41) % 8)) (by omega)]
  · rw [if_neg r, if_neg (c := 41 ≤ j ∧ j < 41 + 8 * (k + 1) ∧ ((j - 41) % 8 = 0 ∨ 4 ≤ (j - 41) % 8)) (by omega)]
theorem zund_L34 (N : Nat) (a0 : zFn) (x F : Nat) (hx : 121 ≤ x) (hx2 : x < 1015) (hF : a0 (x + 1) = F) (hF4 : F ≤ 4) : ∀ (d n k : Nat) (h : zHp), k + d = F → d < n → h 86 = zunf a0 x k → ∃ h', sh_Mo_undo_L34 N n (x : Int) (k : Int) h = some ((x : Int), h') ∧ h' 86 = zunf a0 x F ∧ ∀ id, id ≠ 86 → h' id = h id := by
  have hz : ∀ k, k ≤ 4 → zunf a0 x k (x + 1) = F := fun k hk4 => by unfold zunf; rw [if_neg (by omega)]; exact hF
  intro d
  induction d with
  | zero =>
    intro n k h hk hn he
    obtain ⟨n, rfl⟩ : ∃ m, n = m + 1 := ⟨n - 1, by omega⟩
    obtain rfl : k = F := by omega
    have e1 : ((x : Int) + 1).toNat = x + 1 := by omega
    refine ⟨h, ?_, he, fun _ _ => rfl⟩
    unfold sh_Mo_undo_L34
    simp (disch := omega) only [zst_if, zup1_ne, zup1_eq, w32_s, rget_in, rput_in, zgrd, Nat.reduceEqDiff, Nat.reduceAdd, ↓reduceIte, Int.reduceToNat, zb1_some, zb2_some, zb3_some, zb4_some, zb5_some, Int.toNat_natCast, true_and, and_true, e1, he, hz k hF4]
    rw [if_pos (by omega)]
  | succ d ih =>
    intro n k h hk hn he
    obtain ⟨n, rfl⟩ : ∃ m, n = m + 1 := ⟨n - 1, by omega⟩
    have e1 : ((x : Int) + 1).toNat = x + 1 := by omega
    have e2 : ((x : Int) + 3 + (k : Int)).toNat = x + (3 + k) := by omega
    have e4 : ((25 : Int) + 4 * (k : Int) + 3).toNat = 28 + 4 * k := by omega
    have e3 : w32 ((k : Int) + 1) = ((k + 1 : Nat) : Int) := by rw [w32_s (by omega) (by omega)]; omega
    obtain ⟨h', p, q, r⟩ := ih n (k + 1) (zst h 86 (28 + 4 * k) (h 86 (x + (3 + k)))) (by omega) (by omega) (by rw [zst_if, if_pos rfl, he]; exact zunf_up a0 x k hx (by omega))
    refine ⟨h', ?_, q, fun id hid => by rw [r id hid, zst_if, if_neg hid]⟩
    unfold sh_Mo_undo_L34
    rw [e3]
    simp (disch := omega) only [zst_if, zup1_ne, zup1_eq, w32_s, rget_in, rput_in, zgrd, Nat.reduceEqDiff, Nat.reduceAdd, ↓reduceIte, Int.reduceToNat, zb1_some, zb2_some, zb3_some, zb4_some, zb5_some, Int.toNat_natCast, true_and, and_true, e1, e2, e4]
    rw [if_neg (by rw [he, hz k (by omega)]; omega)]
    exact p
theorem zund_L64 (N : Nat) (hN : 6 ≤ N) (a0 b : zFn) (x F : Nat) (hx : 121 ≤ x) (hx2 : x < 1015) (hF : a0 (x + 2) = F) (hF8 : F ≤ 8) (hb : ∀ j, 121 ≤ j → b j = a0 j) : ∀ (d n k : Nat) (h : zHp), k + d = F → d < n → h 86 = zuno a0 b x k → ∃ h', sh_Mo_undo_L64 N n (x : Int) (k : Int) h = some h' ∧ h' 86 = zuno a0 b x F ∧ ∀ id, id ≠ 86 → h' id = h id := by
  have hz : ∀ k, k ≤ 8 → ∀ j, 121 ≤ j → zuno a0 b x k j = a0 j := fun k hk j hj => by unfold zuno; rw [if_neg (by omega)]; exact hb j hj
  intro d
  induction d with
  | zero =>
    intro n k h hk hn he
    obtain ⟨n, rfl⟩ : ∃ m, n = m + 1 := ⟨n - 1, by omega⟩
    obtain rfl : k = F := by omega
    have e1 : ((x : Int) + 2).toNat = x + 2 := by omega
    refine ⟨h, ?_, he, fun _ _ => rfl⟩
    unfold sh_Mo_undo_L64
    simp (disch := omega) only [zst_if, zup1_ne, zup1_eq, w32_s, rget_in, rput_in, zgrd, Nat.reduceEqDiff, Nat.reduceAdd, ↓reduceIte, Int.reduceToNat, zb1_some, zb2_some, zb3_some, zb4_some, zb5_some, Int.toNat_natCast, true_and, and_true, e1, he]
    rw [hz k hF8 _ (by omega), if_pos (by omega)]
  | succ d ih =>
    intro n k h hk hn he
    obtain ⟨n, rfl⟩ : ∃ m, n = m + 1 := ⟨n - 1, by omega⟩
    obtain ⟨M, rfl⟩ : ∃ m, N = m + 5 := ⟨N - 5, by omega⟩
    have e1 : ((x : Int) + 2).toNat = x + 2 := by omega
    have e2 : ((x : Int) + 7 + 5 * (k : Int)).toNat = x + 7 + 5 * k := by omega
    have f1 : ((x : Int) + 7 + 5 * (k : Int) + 1).toNat = x + 8 + 5 * k := by omega
    have f2 : ((x : Int) + 7 + 5 * (k : Int) + 2).toNat = x + 9 + 5 * k := by omega
    have f3 : ((x : Int) + 7 + 5 * (k : Int) + 3).toNat = x + 10 + 5 * k := by omega
    have f4 : ((x : Int) + 7 + 5 * (k : Int) + 4).toNat = x + 11 + 5 * k := by omega
    have e3 : w32 ((k : Int) + 1) = ((k + 1 : Nat) : Int) := by rw [w32_s (by omega) (by omega)]; omega
    have hzk := hz k (by omega)
    obtain ⟨h', p, q, r⟩ := ih n (k + 1) (zst (zst (zst (zst (zst h 86 (41 + 8 * k) (a0 (x + 7 + 5 * k))) 86 (41 + 8 * k + 4) (a0 (x + 8 + 5 * k))) 86 (41 + 8 * k + 5) (a0 (x + 9 + 5 * k))) 86 (41 + 8 * k + 6) (a0 (x + 10 + 5 * k))) 86 (41 + 8 * k + 7) (a0 (x + 11 + 5 * k))) (by omega) (by omega) (by simp (disch := omega) only [zst_if, zup1_ne, zup1_eq, w32_s, rget_in, rput_in, zgrd, Nat.reduceEqDiff, Nat.reduceAdd, ↓reduceIte, Int.reduceToNat, zb1_some, zb2_some, zb3_some, zb4_some, zb5_some, Int.toNat_natCast, true_and, and_true, he]; exact zuno_up a0 b x k)
    refine ⟨h', ?_, q, fun id hid => by rw [r id hid, zst_if, if_neg hid, zst_if, if_neg hid, zst_if, if_neg hid, zst_if, if_neg hid, zst_if, if_neg hid]⟩
    unfold sh_Mo_undo_L64
    simp only [sh_Mo_undo_L88]
    simp (disch := omega) only [zst_if, zup1_ne, zup1_eq, w32_s, rget_in, rput_in, zgrd, Nat.reduceEqDiff, Nat.reduceAdd, ↓reduceIte, Int.reduceToNat, zb1_some, zb2_some, zb3_some, zb4_some, zb5_some, Int.toNat_natCast, true_and, and_true, e1, e2, he, make_s, hzk, Nat.add_zero]
    rw [if_neg (by omega)]
    simp (disch := omega) only [zst_if, zup1_ne, zup1_eq, w32_s, rget_in, rput_in, zgrd, Nat.reduceEqDiff, Nat.reduceAdd, ↓reduceIte, Int.reduceToNat, zb1_some, zb2_some, zb3_some, zb4_some, zb5_some, Int.toNat_natCast, true_and, and_true, within_z, isIn_z, if_pos, if_neg, Int.reduceAdd, Int.reduceSub, Int.reduceLE, f1, f2, f3, f4, he, hzk, Int.reduceToNat]
    rw [show (k : Int) + 1 = ((k + 1 : Nat) : Int) by omega]
    exact p
def zund (a : zFn) (c F O : Nat) : zFn := zuno (zup1 (zup1 a 7 c) 3 (a (121 + 47 * c))) (zunf (zup1 (zup1 a 7 c) 3 (a (121 + 47 * c))) (121 + 47 * c) F) (121 + 47 * c) O
section ZU
variable {a : zFn} {c F O : Nat}
theorem zund_x {j : Nat} (h : j < 28 ∨ 105 ≤ j ∨ (j < 41 ∧ (j - 28) % 4 ≠ 0) ∨ (41 ≤ j ∧ 1 ≤ (j - 41) % 8 ∧ (j - 41) % 8 < 4)) (hF : F ≤ 4) (hO : O ≤ 8) : zund a c F O j = if j = 3 then a (121 + 47 * c) else if j = 7 then (c : Int) else a j := by
  unfold zund zuno zunf
  rw [if_neg (by omega), if_neg (by omega), zup1_if, zup1_if]
theorem zund_f {k : Nat} (hk : k < 4) (hF : F ≤ 4) : zund a c F O (28 + 4 * k) = if k < F then a (124 + 47 * c + k) else a (28 + 4 * k) := by
  unfold zund zuno
  rw [if_neg (by omega)]
  unfold zunf
  by_cases q : k < F
  · rw [if_pos (by omega), if_pos q, zup1_ne _ _ (by omega), zup1_ne _ _ (by omega)]; congr 1; omega
  · rw [if_neg (by omega), if_neg q, zup1_ne _ _ (by omega), zup1_ne _ _ (by omega)]
theorem zund_o {o : Nat} (ho : o < 8) (hF : F ≤ 4) : zund a c F O (41 + 8 * o) = if o < O then a (128 + 47 * c + 5 * o) else a (41 + 8 * o) := by
  unfold zund zuno
  by_cases q : o < O
  · rw [if_pos (by omega), if_pos q, if_pos (by omega), zup1_ne _ _ (by omega), zup1_ne _ _ (by omega)]; congr 1; omega
  · rw [if_neg (by omega), if_neg q]
    unfold zunf
    rw [if_neg (by omega), zup1_ne _ _ (by omega), zup1_ne _ _ (by omega)]
theorem zund_e {o e : Nat} (ho : o < 8) (he : e < 4) (hF : F ≤ 4) : zund a c F O (45 + 8 * o + e) = if o < O then a (129 + 47 * c + 5 * o + e) else a (45 + 8 * o + e) := by
  unfold zund zuno
  by_cases q : o < O
  · rw [if_pos (by omega), if_pos q, if_neg (by omega), zup1_ne _ _ (by omega), zup1_ne _ _ (by omega)]; congr 1; omega
  · rw [if_neg (by omega), if_neg q]
    unfold zunf
    rw [if_neg (by omega), zup1_ne _ _ (by omega), zup1_ne _ _ (by omega)]
end ZU
theorem zund_ok {a : zFn} {c F O : Nat} (hk : zOk a) (h7 : a 7 = (c : Int) + 1) (hF : a (122 + 47 * c) = F) (hO : a (123 + 47 * c) = O) : zOk (zund a c F O) := by
  obtain ⟨k1, k2, k3, k4, k5, k6⟩ := hk
  obtain ⟨⟨s1, s2, s3⟩, s4, s5⟩ := k6 c (by omega)
  have hF4 : F ≤ 4 := by omega
  have hO8 : O ≤ 8 := by omega
  have lo : ∀ j, (j < 28 ∨ 105 ≤ j ∨ (j < 41 ∧ (j - 28) % 4 ≠ 0) ∨ (41 ≤ j ∧ 1 ≤ (j - 41) % 8 ∧ (j - 41) % 8 < 4)) → j ≠ 3 → j ≠ 7 → zund a c F O j = a j := fun j h1 h2 h3 => by rw [zund_x h1 hF4 hO8, if_neg h2, if_neg h3]
  have e3 : zund a c F O 3 = a (121 + 47 * c) := by rw [zund_x (by omega) hF4 hO8, if_pos rfl]
  have e7 : zund a c F O 7 = c := by rw [zund_x (by omega) hF4 hO8, if_neg (by omega), if_pos rfl]
  refine ⟨?_, ?_, ?_, ?_, ?_, ?_⟩
  · rw [lo 0 (by omega) (by omega) (by omega), lo 1 (by omega) (by omega) (by omega), lo 2 (by omega) (by omega) (by omega), lo 4 (by omega) (by omega) (by omega), lo 5 (by omega) (by omega) (by omega), lo 6 (by omega) (by omega) (by omega), e3, e7]
    refine ⟨k1.1, k1.2.1, k1.2.2.1, s1, k1.2.2.2.2.1, k1.2.2.2.2.2.1, k1.2.2.2.2.2.2.1, by omega, by omega⟩
  · intro k hk
    rw [lo _ (by omega) (by omega) (by omega), lo _ (by omega) (by omega) (by omega), lo _ (by omega) (by omega) (by omega)]; exact k2 k hk
  · intro k hk
    have hh := k3 k hk
    rw [lo (25 + 4 * k) (by omega) (by omega) (by omega), lo (26 + 4 * k) (by omega) (by omega) (by omega), lo (27 + 4 * k) (by omega) (by omega) (by omega), zund_f hk hF4]
    refine ⟨hh.1, hh.2.1, hh.2.2.1, ?_⟩
    split
    · exact s4 k hk
    · exact hh.2.2.2
  · intro o ho
    rw [lo 2 (by omega) (by omega) (by omega)] at ho
    obtain ⟨o1, o2⟩ := k4 o ho
    rw [lo 0 (by omega) (by omega) (by omega), lo 1 (by omega) (by omega) (by omega), lo 2 (by omega) (by omega) (by omega), lo (42 + 8 * o) (by omega) (by omega) (by omega), lo (43 + 8 * o) (by omega) (by omega) (by omega), lo (44 + 8 * o) (by omega) (by omega) (by omega), zund_o (by omega) hF4]
    have x0 := zund_e (a := a) (c := c) (F := F) (O := O) (o := o) (e := 0) (by omega) (by omega) hF4
    have x1 := zund_e (a := a) (c := c) (F := F) (O := O) (o := o) (e := 1) (by omega) (by omega) hF4
    have x2 := zund_e (a := a) (c := c) (F := F) (O := O) (o := o) (e := 2) (by omega) (by omega) hF4
    have x3 := zund_e (a := a) (c := c) (F := F) (O := O) (o := o) (e := 3) (by omega) (by omega) hF4
    rw [Nat.add_zero, Nat.add_zero] at x0
    rw [show 45 + 8 * o + 1 = 46 + 8 * o by omega] at x1
    rw [show 45 + 8 * o + 2 = 47 + 8 * o by omega] at x2
    rw [show 45 + 8 * o + 3 = 48 + 8 * o by omega] at x3
    rw [x0, x1, x2, x3]
    refine ⟨?_, o2⟩
    by_cases q : o < O
    · rw [if_pos q, if_pos q, if_pos q, if_pos q, if_pos q, show 129 + 47 * c + 5 * o + 1 = 130 + 47 * c + 5 * o by omega, show 129 + 47 * c + 5 * o + 2 = 131 + 47 * c + 5 * o by omega, show 129 + 47 * c + 5 * o + 3 = 132 + 47 * c + 5 * o by omega]
      exact zOx_mono (s5 o (by omega)) (Int.le_refl _) (by omega) (by omega)
    · rw [if_neg q, if_neg q, if_neg q, if_neg q, if_neg q]
      exact o1
  · intro k hk
    rw [lo 6 (by omega) (by omega) (by omega)] at hk
    rw [lo 0 (by omega) (by omega) (by omega), lo _ (by omega) (by omega) (by omega), lo _ (by omega) (by omega) (by omega)]; exact k5 k hk
  · intro k hk
    rw [e7] at hk
    obtain ⟨h1, h2, h3⟩ := k6 k (by omega)
    rw [lo 0 (by omega) (by omega) (by omega), lo 1 (by omega) (by omega) (by omega), lo 2 (by omega) (by omega) (by omega), lo (121 + 47 * k) (by omega) (by omega) (by omega), lo (122 + 47 * k) (by omega) (by omega) (by omega), lo (123 + 47 * k) (by omega) (by omega) (by omega)]
    refine ⟨h1, fun f hf => by rw [lo _ (by omega) (by omega) (by omega)]; exact h2 f hf, fun o ho => ?_⟩
    rw [lo (128 + 47 * k + 5 * o) (by omega) (by omega) (by omega), lo (129 + 47 * k + 5 * o) (by omega) (by omega) (by omega), lo (130 + 47 * k + 5 * o) (by omega) (by omega) (by omega), lo (131 + 47 * k + 5 * o) (by omega) (by omega) (by omega), lo (132 + 47 * k + 5 * o) (by omega) (by omega) (by omega)]
    exact h3 o ho
theorem zund_r (N : Nat) (hN : 10 ≤ N) {h : zHp} {c F O : Nat} (hc : c < 20) (h7 : h 86 7 = (c : Int) + 1) (hF : h 86 (122 + 47 * c) = F) (hO : h 86 (123 + 47 * c) = O) (hF4 : F ≤ 4) (hO8 : O ≤ 8) : ∃ h', sh_Mo_undo N h = some ((c : Int), h') ∧ h' 86 = zund (h 86) c F O ∧ ∀ id, id ≠ 86 → h' id = h id := by
  have e0 : ((121 : Int) + 47 * (c : Int)).toNat = 121 + 47 * c := by omega
  have ec : (121 : Int) + 47 * (c : Int) = ((121 + 47 * c : Nat) : Int) := by omega
  have hA : zst (zst h 86 7 c) 86 3 (h 86 (121 + 47 * c)) 86 = zup1 (zup1 (h 86) 7 c) 3 (h 86 (121 + 47 * c)) := by rw [zst_if, if_pos rfl, zst_if, if_pos rfl]
  obtain ⟨h1, p1, q1, r1⟩ := zund_L34 N (zup1 (zup1 (h 86) 7 c) 3 (h 86 (121 + 47 * c))) (121 + 47 * c) F (by omega) (by omega) (by rw [zup1_ne _ _ (by omega), zup1_ne _ _ (by omega), show 121 + 47 * c + 1 = 122 + 47 * c by omega]; exact hF) hF4 F N 0 (zst (zst h 86 7 c) 86 3 (h 86 (121 + 47 * c))) (by omega) (by omega) (by
    rw [hA]; funext j; unfold zunf; rw [if_neg (by omega)])
  obtain ⟨h2, p2, q2, r2⟩ := zund_L64 N (by omega) (zup1 (zup1 (h 86) 7 c) 3 (h 86 (121 + 47 * c))) (zunf (zup1 (zup1 (h 86) 7 c) 3 (h 86 (121 + 47 * c))) (121 + 47 * c) F) (121 + 47 * c) O (by omega) (by omega) (by rw [zup1_ne _ _ (by omega), zup1_ne _ _ (by omega), show 121 + 47 * c + 2 = 123 + 47 * c by omega]; exact hO) hO8 (fun j hj => by unfold zunf; rw [if_neg (by omega)]) O N 0 h1 (by omega) (by omega) (by
    rw [q1]; funext j; unfold zuno; rw [if_neg (by omega)])
  refine ⟨h2, ?_, q2, fun id hid => by rw [r2 id hid, r1 id hid, zst_if, if_neg hid, zst_if, if_neg hid]⟩
  unfold sh_Mo_undo
  have ecc : (c : Int) + 1 - 1 = c := by omega
  rw [if_neg (by omega)]
  simp (disch := omega) only [zst_if, zup1_ne, zup1_eq, w32_s, rget_in, rput_in, zgrd, Nat.reduceEqDiff, Nat.reduceAdd, ↓reduceIte, Int.reduceToNat, zb1_some, zb2_some, zb3_some, zb4_some, zb5_some, Int.toNat_natCast, true_and, and_true, h7, ecc, e0]
  rw [ec, show (0 : Int) = ((0 : Nat) : Int) from rfl, p1]
  simp only [zb2_some]
  rw [p2]
  simp only [zb1_some]
  have : h2 86 7 = c := by
    rw [q2]
    exact (zund_x (a := h 86) (c := c) (F := F) (O := O) (j := 7) (by omega) hF4 hO8).trans (by rw [if_neg (by omega), if_pos rfl])
  rw [this]
theorem zund_c {h : zHp} {a : zFn} {c F O : Nat} (hy : zYc 0 h a) (hk : zOk a) (h7 : a 7 = (c : Int) + 1) (hF : a (122 + 47 * c) = F) (hO : a (123 + 47 * c) = O) : ∃ h', sh_Ox_undo h = some ((c : Int), h') ∧ zYc 0 h' (zund a c F O) ∧ ∀ id, id ≠ 16 → id ≠ 17 → h' id = h id := by
  obtain ⟨y1, y2, y3, y4, y5, y6⟩ := hy
  simp only [Nat.reduceAdd] at y1 y2 y3 y4 y5 y6
  have hk1 := hk.1
  obtain ⟨⟨s1, s2, s3⟩, s4, s5⟩ := hk.s c (by omega)
  have hF4 : F ≤ 4 := by omega
  have hO8 : O ≤ 8 := by omega
  obtain ⟨p, hp⟩ : ∃ p : Nat, h 17 1 = p := ⟨(h 17 1).toNat, by omega⟩
  have sp := y6 c (by omega)
  have hs : (71 * ((h 17 1 - a 7 + c + 20).toNat % 20)) = 71 * ((p + 19) % 20) := by rw [hp, h7]; omega
  rw [hs] at sp
  have hs20 : (p + 19) % 20 < 20 := Nat.mod_lt _ (by decide)
  generalize hq : (p + 19) % 20 = q at *
  obtain ⟨⟨t1, t2, t3⟩, t4, t5, t6⟩ := sp
  have tF : h 19 (71 * q + 1) = F := by rw [t2, show 121 + 47 * c + 1 = 122 + 47 * c by omega]; exact hF
  have tO : h 19 (71 * q + 2) = O := by rw [t3, show 121 + 47 * c + 2 = 123 + 47 * c by omega]; exact hO
  -- the class's cells behind it
  have eh : sh_Ox_undo h = some ((c : Int), fun o => if o = 16 then zcp (zcp (zup1 (h 16) 0 (h 19 (71 * q))) 3 F (h 19) (71 * q + 3)) 7 (8 * O) (h 19) (71 * q + 7) else zst (zst h 17 1 q) 17 2 c o) := by
    unfold sh_Ox_undo sh_Steps_takeBack_17_14
    have e20 : w32 ((w32 (w32 (h 17 1 + 20) - 1)).tmod 20) = (q : Int) := by
      rw [hp, w32_s (a := (p : Int) + 20) (by omega) (by omega), w32_s (a := (p : Int) + 20 - 1) (by omega) (by omega), Int.tmod_eq_emod_of_nonneg (by omega), w32_s (by omega) (by omega)]
      omega
    rw [e20, if_neg (by rw [y1.2.2.2.2.2.2.2.1]; omega)]
    simp (disch := omega) only [zst_if, zup1_ne, zup1_eq, w32_s, rget_in, rput_in, zgrd, Nat.reduceEqDiff, Nat.reduceAdd, ↓reduceIte, Int.reduceToNat, zb1_some, zb2_some, zb3_some, zb4_some, zb5_some, Int.toNat_natCast, true_and, and_true, y1.2.2.2.2.2.2.2.1, h7]
    unfold sh_Herd_readBack_14_18
    rw [show (c : Int) + 1 - 1 = c by omega]
    have eq71 : (q : Int) * 71 = ((71 * q : Nat) : Int) := by omega
    have eq3 : ((71 * q : Nat) : Int) + 3 = ((71 * q + 3 : Nat) : Int) := by omega
    have eq7 : ((71 * q : Nat) : Int) + 7 = ((71 * q + 7 : Nat) : Int) := by omega
    have n1 : (((71 * q : Nat) : Int) + 1).toNat = 71 * q + 1 := by omega
    have n2 : (((71 * q : Nat) : Int) + 2).toNat = 71 * q + 2 := by omega
    simp (disch := omega) only [zst_if, zup1_ne, zup1_eq, w32_s, rget_in, rput_in, zgrd, Nat.reduceEqDiff, Nat.reduceAdd, ↓reduceIte, Int.reduceToNat, zb1_some, zb2_some, zb3_some, zb4_some, zb5_some, Int.toNat_natCast, true_and, and_true, seth_s, eq71, Int.add_zero, n1, n2, tF, eq3, eq7]
    rw [show (3 : Int) = ((3 : Nat) : Int) from rfl, rpart_s (t := 3) (f := 71 * q + 3) (k := F) (by decide) (by decide) (by decide) (by omega) (by omega)]
    simp (disch := omega) only [zst_if, zup1_ne, zup1_eq, w32_s, rget_in, rput_in, zgrd, Nat.reduceEqDiff, Nat.reduceAdd, ↓reduceIte, Int.reduceToNat, zb1_some, zb2_some, zb3_some, zb4_some, zb5_some, Int.toNat_natCast, true_and, and_true, n2, tO]
    rw [show (O : Int) * 8 = ((8 * O : Nat) : Int) by omega, show (7 : Int) = ((7 : Nat) : Int) from rfl, rpart_s (t := 7) (f := 71 * q + 7) (k := 8 * O) (by decide) (by decide) (by decide) (by omega) (by omega)]
    congr 2
    funext o
    simp (disch := omega) only [zst_if, zup1_ne, zup1_eq, w32_s, rget_in, rput_in, zgrd, Nat.reduceEqDiff, Nat.reduceAdd, ↓reduceIte, Int.reduceToNat, zb1_some, zb2_some, zb3_some, zb4_some, zb5_some, Int.toNat_natCast, true_and, and_true]
    by_cases o16 : o = 16
    · simp only [if_pos o16]
    · simp only [if_neg o16]
  refine ⟨_, eh, ?_, fun id i1 i2 => ?_⟩
  · have lo : ∀ j, (j < 28 ∨ 105 ≤ j ∨ (j < 41 ∧ (j - 28) % 4 ≠ 0) ∨ (41 ≤ j ∧ 1 ≤ (j - 41) % 8 ∧ (j - 41) % 8 < 4)) → j ≠ 3 → j ≠ 7 → zund a c F O j = a j := fun j h1 h2 h3 => by rw [zund_x h1 hF4 hO8, if_neg h2, if_neg h3]
    have e3 : zund a c F O 3 = a (121 + 47 * c) := by rw [zund_x (by omega) hF4 hO8, if_pos rfl]
    have e7 : zund a c F O 7 = c := by rw [zund_x (by omega) hF4 hO8, if_neg (by omega), if_pos rfl]
    have n7 : ∀ j, 1 ≤ j → j < 3 → zcp (zcp (zup1 (h 16) 0 (h 19 (71 * q))) 3 F (h 19) (71 * q + 3)) 7 (8 * O) (h 19) (71 * q + 7) j = h 16 j := fun j h1 h2 => by
      unfold zcp; rw [if_neg (by omega), if_neg (by omega), zup1_ne _ _ (by omega)]
    have n0 : zcp (zcp (zup1 (h 16) 0 (h 19 (71 * q))) 3 F (h 19) (71 * q + 3)) 7 (8 * O) (h 19) (71 * q + 7) 0 = h 19 (71 * q) := by
      unfold zcp; rw [if_neg (by omega), if_neg (by omega), zup1_eq]
    refine ⟨?_, ?_, ?_, ?_, ?_, ?_⟩ <;> simp only [Nat.reduceAdd]
    · simp (disch := omega) only [zst_if, zup1_ne, zup1_eq, w32_s, rget_in, rput_in, zgrd, Nat.reduceEqDiff, Nat.reduceAdd, ↓reduceIte, Int.reduceToNat, zb1_some, zb2_some, zb3_some, zb4_some, zb5_some, Int.toNat_natCast, true_and, and_true, n0, n7 1 (by omega) (by omega), n7 2 (by omega) (by omega), lo 0 (by omega) (by omega) (by omega), lo 1 (by omega) (by omega) (by omega), lo 2 (by omega) (by omega) (by omega), lo 4 (by omega) (by omega) (by omega), lo 5 (by omega) (by omega) (by omega), lo 6 (by omega) (by omega) (by omega), e3, e7]
      refine ⟨y1.1, y1.2.1, y1.2.2.1, t1, y1.2.2.2.2.1, y1.2.2.2.2.2.1, y1.2.2.2.2.2.2.1, by omega, by omega⟩
    · intro k hk
      rw [lo _ (by omega) (by omega) (by omega), lo _ (by omega) (by omega) (by omega), lo _ (by omega) (by omega) (by omega)]
      simp (disch := omega) only [zst_if, zup1_ne, zup1_eq, w32_s, rget_in, rput_in, zgrd, Nat.reduceEqDiff, Nat.reduceAdd, ↓reduceIte, Int.reduceToNat, zb1_some, zb2_some, zb3_some, zb4_some, zb5_some, Int.toNat_natCast, true_and, and_true]
      exact y2 k hk
    · intro k hk
      rw [lo (25 + 4 * k) (by omega) (by omega) (by omega), lo (26 + 4 * k) (by omega) (by omega) (by omega), lo (27 + 4 * k) (by omega) (by omega) (by omega), zund_f hk hF4]
      simp (disch := omega) only [zst_if, zup1_ne, zup1_eq, w32_s, rget_in, rput_in, zgrd, Nat.reduceEqDiff, Nat.reduceAdd, ↓reduceIte, Int.reduceToNat, zb1_some, zb2_some, zb3_some, zb4_some, zb5_some, Int.toNat_natCast, true_and, and_true]
      have hh := y3 k hk
      refine ⟨hh.1, hh.2.1, hh.2.2.1, ?_⟩
      unfold zcp
      rw [if_neg (by omega)]
      by_cases r : k < F
      · rw [if_pos (by omega), if_pos r]
        have := t4 k hk
        rw [show 71 * q + 3 + (3 + k - 3) = 71 * q + 3 + k by omega, this]; congr 1; omega
      · rw [if_neg (by omega), if_neg r, zup1_ne _ _ (by omega)]; exact hh.2.2.2
    · intro o ho w hw
      simp (disch := omega) only [zst_if, zup1_ne, zup1_eq, w32_s, rget_in, rput_in, zgrd, Nat.reduceEqDiff, Nat.reduceAdd, ↓reduceIte, Int.reduceToNat, zb1_some, zb2_some, zb3_some, zb4_some, zb5_some, Int.toNat_natCast, true_and, and_true]
      unfold zcp
      by_cases r : o < O
      · rw [if_pos (by omega), show 71 * q + 7 + (7 + 8 * o + w - 7) = 71 * q + 7 + 8 * o + w by omega]
        have hw3 : w = 0 ∨ (1 ≤ w ∧ w < 4) ∨ 4 ≤ w := by omega
        rcases hw3 with rfl | hw3 | hw3
        · simp only [Nat.add_zero]
          rw [zund_o ho hF4, if_pos r, (t5 o ho).1]; congr 1; omega
        · rw [lo _ (by omega) (by omega) (by omega)]
          exact t6 o (by rw [show 121 + 47 * c + 2 = 123 + 47 * c by omega, hO]; omega) w hw3.1 hw3.2
        · obtain ⟨e, rfl⟩ : ∃ e, w = 4 + e := ⟨w - 4, by omega⟩
          have := (t5 o ho).2 e (by omega)
          rw [show 71 * q + 7 + 8 * o + (4 + e) = 71 * q + 7 + 8 * o + 4 + e by omega, this, show 41 + 8 * o + (4 + e) = 45 + 8 * o + e by omega, zund_e ho (by omega) hF4, if_pos r]; congr 1; omega
      · rw [if_neg (by omega), if_neg (by omega), zup1_ne _ _ (by omega), y4 o ho w hw]
        have hw3 : w = 0 ∨ (1 ≤ w ∧ w < 4) ∨ 4 ≤ w := by omega
        rcases hw3 with rfl | hw3 | hw3
        · rw [Nat.add_zero, zund_o ho hF4, if_neg r]
        · rw [lo _ (by omega) (by omega) (by omega)]
        · obtain ⟨e, rfl⟩ : ∃ e, w = 4 + e := ⟨w - 4, by omega⟩
          rw [show 41 + 8 * o + (4 + e) = 45 + 8 * o + e by omega, zund_e ho (by omega) hF4, if_neg r]
    · intro k hk
      rw [lo _ (by omega) (by omega) (by omega), lo _ (by omega) (by omega) (by omega)]
      simp (disch := omega) only [zst_if, zup1_ne, zup1_eq, w32_s, rget_in, rput_in, zgrd, Nat.reduceEqDiff, Nat.reduceAdd, ↓reduceIte, Int.reduceToNat, zb1_some, zb2_some, zb3_some, zb4_some, zb5_some, Int.toNat_natCast, true_and, and_true]
      exact y5 k hk
    · intro k hk0
      rw [e7] at hk0 ⊢
      simp (disch := omega) only [zst_if, zup1_ne, zup1_eq, w32_s, rget_in, rput_in, zgrd, Nat.reduceEqDiff, Nat.reduceAdd, ↓reduceIte, Int.reduceToNat, zb1_some, zb2_some, zb3_some, zb4_some, zb5_some, Int.toNat_natCast, true_and, and_true]
      have hh := y6 k (by omega)
      have hsl : 71 * (((h 17 1 - a 7 + k + 20).toNat) % 20) = 71 * (((q : Int) - c + k + 20).toNat % 20) := by rw [hp, h7]; omega
      rw [hsl] at hh
      have hr := (hk.s k (by omega)).1.2.2
      rw [show 123 + 47 * k = 121 + 47 * k + 2 by omega] at hr
      exact zSp_mv hh (fun _ _ => rfl) (fun j hj => lo _ (by omega) (by omega) (by omega)) (fun o ho w w1 w2 => lo _ (by omega) (by omega) (by omega)) (by omega)
  · show (if id = 16 then _ else zst (zst h 17 1 q) 17 2 c id) = h id
    rw [if_neg i1, zst_if, if_neg i2, zst_if, if_neg i2]
theorem zc_undo {h : zHp} (hI : zInv h) {N : Nat} (hN : 10 ≤ N) : ∃ h2, zcas sh_Ox_undo (sh_Mo_undo N) h = some (1, h2) ∧ zInv h2 := by
  have hI' := hI
  obtain ⟨⟨hy, hk⟩, -⟩ := hI'
  have b7 := hk.1.2.2.2.2.2.2.2
  by_cases z : h 86 7 = 0
  · refine ⟨h, zcas_of (r := -1) (h1 := h) ?_ ?_, hI⟩
    · unfold sh_Ox_undo sh_Steps_takeBack_17_14
      rw [if_pos (by have := hy.1.2.2.2.2.2.2.2.1; simp only [Nat.reduceAdd] at this; rw [this]; exact z)]
      rfl
    · unfold sh_Mo_undo
      rw [if_pos z]
  · obtain ⟨c, hc⟩ : ∃ c : Nat, h 86 7 = (c : Int) + 1 := ⟨(h 86 7 - 1).toNat, by omega⟩
    obtain ⟨⟨s1, s2, s3⟩, -⟩ := hk.s c (by omega)
    have hk1 := hk.1
    obtain ⟨F, hF⟩ : ∃ F : Nat, h 86 (122 + 47 * c) = F := ⟨(h 86 (122 + 47 * c)).toNat, by omega⟩
    obtain ⟨O, hO⟩ : ∃ O : Nat, h 86 (123 + 47 * c) = O := ⟨(h 86 (123 + 47 * c)).toNat, by omega⟩
    obtain ⟨h1, p1, z1, f1⟩ := zund_c hy hk hc hF hO
    have f86 := f1 86 (by decide) (by decide)
    obtain ⟨h2, p2, q2, r2⟩ := zund_r N hN (h := h1) (c := c) (F := F) (O := O) (by omega) (by rw [f86]; exact hc) (by rw [f86]; exact hF) (by rw [f86]; exact hO) (by omega) (by omega)
    refine ⟨h2, zcas_of p1 p2, ?_⟩
    refine zmut hI (h1 := h1) (a := zund (h 86) c F O) (fun id _ r => f1 id (by omega) (by omega)) z1 (fun id _ r => r2 id r) (by rw [q2, f86]) (zund_ok hk hc hF hO) ?_
    rw [zund_x (by omega) (by omega) (by omega), if_neg (by omega), if_neg (by omega)]
