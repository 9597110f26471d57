/-! PURE: what a clause comes to -/
def zclp (v : Int) : Int := if v < -1000000 then -1000000 else if 1000000 < v then 1000000 else v
def zjn (k x y : Int) : Int :=
  if k = 16 then (if x = 0 ∧ y = 0 then 0 else 1) else if k = 17 then (if x = 0 ∨ y = 0 then 0 else 1)
  else if k = 20 then (if x < y then 1 else 0) else if k = 31 then (if x ≤ y then 1 else 0)
  else if k = 21 then (if y < x then 1 else 0) else if k = 32 then (if y ≤ x then 1 else 0)
  else if k = 22 then (if x = y then 1 else 0) else if k = 23 then (if x = y then 0 else 1)
  else if k = 24 then zclp (x + y) else if k = 25 then zclp (x - y) else if k = 26 then zclp (x * y)
  else if y = 0 then 0 else zclp (x.tdiv y)
def zvs1 (nm : zFn) (x : Int) (s : List Int) : List Int :=
  if x < 10000 then x :: s else if x < 20000 then nm (x - 10000).toNat :: s
  else if x = 20018 then (match s with | y :: t => (1 - y) :: t | [] => [])
  else if x = 20033 then (match s with | y :: t => (-y) :: t | [] => [])
  else (match s with | y :: x' :: t => zjn (x - 20000) x' y :: t | _ => [])
def zvs (nm : zFn) : List Int → List Int → List Int
  | [], s => s
  | x :: l, s => zvs nm l (zvs1 nm x s)
/-- a stack in cells, the top first -/
def zsk (c : zFn) : List Int → Prop
  | [] => True
  | x :: s => c s.length = x ∧ zsk c s
theorem zsk_up {c : zFn} {k : Nat} {v : Int} : ∀ {s : List Int}, s.length ≤ k → zsk c s → zsk (zup1 c k v) s := by
  intro s
  induction s with
  | nil => intro _ _; trivial
  | cons x s ih =>
    intro hk h
    have hk : s.length + 1 ≤ k := hk
    exact ⟨by rw [zup1_ne _ _ (by omega)]; exact h.1, ih (by omega) h.2⟩
theorem zsk_push {c : zFn} {v : Int} {s : List Int} (h : zsk c s) : zsk (zup1 c s.length v) (v :: s) := ⟨zup1_eq _ _ _, zsk_up (Nat.le_refl _) h⟩
theorem zcmp_ge {a b : Int} : 0 ≤ zcmp a b ↔ b ≤ a := by
  unfold zcmp
  split
  · constructor <;> intro <;> omega
  · split <;> constructor <;> intro <;> omega
theorem zcmp_le {a b : Int} : zcmp a b ≤ 0 ↔ a ≤ b := by
  unfold zcmp
  split
  · constructor <;> intro <;> omega
  · split <;> constructor <;> intro <;> omega
theorem zcmp_lt {a b : Int} : zcmp a b < 0 ↔ a < b := by
  unfold zcmp
  split
  · constructor <;> intro <;> omega
  · split <;> constructor <;> intro <;> omega
theorem zcmp_gt {a b : Int} : 0 < zcmp a b ↔ b < a := by
  unfold zcmp
  split
  · constructor <;> intro <;> omega
  · split <;> constructor <;> intro <;> omega
theorem zcmp_eq {a b : Int} : zcmp a b = 0 ↔ a = b := by
  unfold zcmp
  split
  · constructor <;> intro <;> omega
  · split <;> constructor <;> intro <;> omega
def zB6 (x : Int) : Prop := -1000000 ≤ x ∧ x ≤ 1000000
theorem zclp_b (v : Int) : zB6 (zclp v) := by
  unfold zclp zB6
  split
  · omega
  · split <;> omega
theorem zclp_btw {v : Int} : sh_Laws_between v (-1000000) 1000000 = zclp v := by
  unfold sh_Laws_between zclp
  simp only [zcmp_ge, zcmp_le]
  by_cases h1 : v < -1000000
  · rw [if_neg (by omega), if_pos h1]
  · rw [if_pos (by omega), if_neg h1]
    by_cases h2 : 1000000 < v
    · rw [if_neg (by omega), if_pos h2]
    · rw [if_pos (by omega), if_neg h2, w32_s (by omega) (by omega)]
theorem zclp_ref {v : Int} : sh_Mo_clip v = zclp v := by
  unfold sh_Mo_clip zclp
  simp only [zcmp_ge, zcmp_le]
  by_cases h1 : v < -1000000
  · rw [if_pos (by omega), if_neg (by omega), if_pos h1]
  · by_cases h2 : 1000000 < v
    · rw [if_neg (by omega), if_neg h1, if_pos h2]
    · rw [if_pos (by omega), if_pos (by omega), if_neg h1, if_neg h2]
theorem zclp_i {v : Int} (h1 : -1000000 ≤ v) (h2 : v ≤ 1000000) : zclp v = v := by
  unfold zclp
  rw [if_neg (by omega), if_neg (by omega)]
theorem zlor_b {x y : Int} (hx : x = 0 ∨ x = 1) (hy : y = 0 ∨ y = 1) : zlor x y = if x = 0 ∧ y = 0 then 0 else 1 := by
  rcases hx with rfl | rfl <;> rcases hy with rfl | rfl <;> decide
theorem zland_b {x y : Int} (hx : x = 0 ∨ x = 1) (hy : y = 0 ∨ y = 1) : zland x y = if x = 0 ∨ y = 0 then 0 else 1 := by
  rcases hx with rfl | rfl <;> rcases hy with rfl | rfl <;> decide
theorem zite_b {c : Prop} [Decidable c] : zclp (if c then 1 else 0) = if c then 1 else 0 := by
  split
  · exact zclp_i (by decide) (by decide)
  · exact zclp_i (by decide) (by decide)
theorem zite_n {c d : Prop} [Decidable c] [Decidable d] (h : c ↔ ¬ d) : zclp (if c then 0 else 1) = if d then 1 else 0 := by
  by_cases q : c
  · rw [if_pos q, if_neg (h.mp q)]; exact zclp_i (by decide) (by decide)
  · rw [if_neg q, if_pos (Classical.byContradiction fun r => q (h.mpr r))]; exact zclp_i (by decide) (by decide)
theorem zite_o {c : Prop} [Decidable c] : zclp (if c then 0 else 1) = if c then 0 else 1 := by
  split
  · exact zclp_i (by decide) (by decide)
  · exact zclp_i (by decide) (by decide)
theorem zB6_mul {x y : Int} (hx : zB6 x) (hy : zB6 y) : -1000000000000 ≤ x * y ∧ x * y ≤ 1000000000000 := by
  unfold zB6 at hx hy
  have h1 : (x * y).natAbs = x.natAbs * y.natAbs := Int.natAbs_mul x y
  have h2 : x.natAbs * y.natAbs ≤ 1000000 * 1000000 := Nat.mul_le_mul (by omega) (by omega)
  omega
theorem zB6_div {x y : Int} (hx : zB6 x) : -1000000 ≤ x.tdiv y ∧ x.tdiv y ≤ 1000000 := by
  unfold zB6 at hx
  have h1 : (x.tdiv y).natAbs = x.natAbs / y.natAbs := Int.natAbs_tdiv x y
  have h2 : x.natAbs / y.natAbs ≤ x.natAbs := Nat.div_le_self _ _
  omega
theorem zjn_b {k x y : Int} : zB6 (zjn k x y) := by
  unfold zjn
  repeat' split
  all_goals first
    | exact zclp_b _
    | (unfold zB6; omega)
section ZJ
variable {N : Nat} {x y : Int} {h : zHp}
def zjP (N : Nat) (k x y : Int) (h : zHp) : Prop := ∃ j, sh_Laws_joined N k x y h = some j ∧ sh_Laws_between j (-1000000) 1000000 = zjn k x y
theorem zjn_r16 (hx : x = 0 ∨ x = 1) (hy : y = 0 ∨ y = 1) : zjP N 16 x y h := by
  unfold zjP sh_Laws_joined zjn
  simp only [Int.reduceEq, reduceIte, zcmp_ge, zcmp_le, zcmp_lt, zcmp_gt, zcmp_eq, zclp_btw]
  refine ⟨_, rfl, ?_⟩
  rw [zlor_b hx hy]; exact zite_o
theorem zjn_r17 (hx : x = 0 ∨ x = 1) (hy : y = 0 ∨ y = 1) : zjP N 17 x y h := by
  unfold zjP sh_Laws_joined zjn
  simp only [Int.reduceEq, reduceIte, zcmp_ge, zcmp_le, zcmp_lt, zcmp_gt, zcmp_eq, zclp_btw]
  refine ⟨_, rfl, ?_⟩
  rw [zland_b hx hy]; exact zite_o
theorem zjn_r20 : zjP N 20 x y h := by
  unfold zjP sh_Laws_joined zjn
  simp only [Int.reduceEq, reduceIte, zcmp_ge, zcmp_le, zcmp_lt, zcmp_gt, zcmp_eq, zclp_btw]
  exact ⟨_, rfl, zite_n (by omega)⟩
theorem zjn_r21 : zjP N 21 x y h := by
  unfold zjP sh_Laws_joined zjn
  simp only [Int.reduceEq, reduceIte, zcmp_ge, zcmp_le, zcmp_lt, zcmp_gt, zcmp_eq, zclp_btw]
  exact ⟨_, rfl, zite_n (by omega)⟩
theorem zjn_r31 : zjP N 31 x y h := by
  unfold zjP sh_Laws_joined zjn
  simp only [Int.reduceEq, reduceIte, zcmp_ge, zcmp_le, zcmp_lt, zcmp_gt, zcmp_eq, zclp_btw]
  exact ⟨_, rfl, zite_n (by omega)⟩
theorem zjn_r32 : zjP N 32 x y h := by
  unfold zjP sh_Laws_joined zjn
  simp only [Int.reduceEq, reduceIte, zcmp_ge, zcmp_le, zcmp_lt, zcmp_gt, zcmp_eq, zclp_btw]
  exact ⟨_, rfl, zite_n (by omega)⟩
theorem zjn_r22 : zjP N 22 x y h := by
  unfold zjP sh_Laws_joined zjn
  simp only [Int.reduceEq, reduceIte, zcmp_ge, zcmp_le, zcmp_lt, zcmp_gt, zcmp_eq, zclp_btw]
  exact ⟨_, rfl, zite_b⟩
theorem zjn_r23 : zjP N 23 x y h := by
  unfold zjP sh_Laws_joined zjn
  simp only [Int.reduceEq, reduceIte, zcmp_ge, zcmp_le, zcmp_lt, zcmp_gt, zcmp_eq, zclp_btw]
  exact ⟨_, rfl, zite_o⟩
theorem zjn_r24 (hx : zB6 x) (hy : zB6 y) : zjP N 24 x y h := by
  unfold zjP sh_Laws_joined zjn
  simp only [Int.reduceEq, reduceIte, zcmp_ge, zcmp_le, zcmp_lt, zcmp_gt, zcmp_eq, zclp_btw]
  unfold zB6 at hx hy
  refine ⟨_, rfl, ?_⟩
  rw [w64_s (by omega) (by omega)]
theorem zjn_r25 (hx : zB6 x) (hy : zB6 y) : zjP N 25 x y h := by
  unfold zjP sh_Laws_joined zjn
  simp only [Int.reduceEq, reduceIte, zcmp_ge, zcmp_le, zcmp_lt, zcmp_gt, zcmp_eq, zclp_btw]
  unfold zB6 at hx hy
  refine ⟨_, rfl, ?_⟩
  rw [w64_s (by omega) (by omega)]
theorem zjn_r26 (hx : zB6 x) (hy : zB6 y) : zjP N 26 x y h := by
  unfold zjP sh_Laws_joined zjn
  simp only [Int.reduceEq, reduceIte, zcmp_ge, zcmp_le, zcmp_lt, zcmp_gt, zcmp_eq, zclp_btw]
  have hm := zB6_mul hx hy
  refine ⟨_, rfl, ?_⟩
  rw [w64_s (by omega) (by omega)]
theorem zjn_r27 (hx : zB6 x) : zjP N 27 x y h := by
  unfold zjP sh_Laws_joined zjn
  simp only [Int.reduceEq, reduceIte, zcmp_ge, zcmp_le, zcmp_lt, zcmp_gt, zcmp_eq, zclp_btw]
  have hd := zB6_div (y := y) hx
  by_cases c : y = 0
  · refine ⟨0, by rw [if_pos c], ?_⟩
    rw [if_pos c]; exact zclp_i (by decide) (by decide)
  · refine ⟨x.tdiv y, ?_, ?_⟩
    · rw [if_neg c, if_pos c, w64_s (by omega) (by omega)]
    · rw [if_neg c]
end ZJ
theorem zjn_r {N : Nat} {k x y : Int} {h : zHp} (hk : 16 ≤ k ∧ k ≤ 17 ∨ 20 ≤ k ∧ k ≤ 27 ∨ 31 ≤ k ∧ k ≤ 32) (hx : zB6 x) (hy : zB6 y) (hb : k ≤ 17 → (x = 0 ∨ x = 1) ∧ (y = 0 ∨ y = 1)) : ∃ j, sh_Laws_joined N k x y h = some j ∧ sh_Laws_between j (-1000000) 1000000 = zjn k x y := by
  have hc : k = 16 ∨ k = 17 ∨ k = 20 ∨ k = 21 ∨ k = 22 ∨ k = 23 ∨ k = 24 ∨ k = 25 ∨ k = 26 ∨ k = 27 ∨ k = 31 ∨ k = 32 := by omega
  rcases hc with rfl | rfl | rfl | rfl | rfl | rfl | rfl | rfl | rfl | rfl | rfl | rfl
  · exact zjn_r16 (hb (by decide)).1 (hb (by decide)).2
  · exact zjn_r17 (hb (by decide)).1 (hb (by decide)).2
  · exact zjn_r20
  · exact zjn_r21
  · exact zjn_r22
  · exact zjn_r23
  · exact zjn_r24 hx hy
  · exact zjn_r25 hx hy
  · exact zjn_r26 hx hy
  · exact zjn_r27 hx
  · exact zjn_r31
  · exact zjn_r32
