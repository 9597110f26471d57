/-! PURE, the base: cells as functions; numbers; the invariant of the cells -/
abbrev zFn : Type := Nat → Int
def zup1 (a : zFn) (k : Nat) (v : Int) : zFn := fun j => if j = k then v else a j
theorem zst_if (h : zHp) (o i : Nat) (v : Int) (p : Nat) : zst h o i v p = if p = o then zup1 (h o) i v else h p := by
  funext j
  unfold zst zup1
  by_cases hp : p = o
  · subst hp
    by_cases hj : j = i
    · rw [if_pos ⟨rfl, hj⟩, if_pos rfl, if_pos hj]
    · rw [if_neg (fun q => hj q.2), if_pos rfl, if_neg hj]
  · rw [if_neg (fun q => hp q.1), if_neg hp]
theorem zup1_if (a : zFn) (k : Nat) (v : Int) (j : Nat) : zup1 a k v j = if j = k then v else a j := rfl
theorem zup1_eq (a : zFn) (k : Nat) (v : Int) : zup1 a k v k = v := if_pos rfl
theorem zup1_ne (a : zFn) {k : Nat} (v : Int) {j : Nat} (h : j ≠ k) : zup1 a k v j = a j := if_neg h
theorem w32_s {a : Int} (h1 : -2147483648 ≤ a) (h2 : a ≤ 2147483647) : w32 a = a := w32_i ⟨h1, h2⟩
theorem w64_s {a : Int} (h1 : -9223372036854775808 ≤ a) (h2 : a ≤ 9223372036854775807) : w64 a = a := w64_i ⟨h1, h2⟩
theorem rget_in {h : zHp} {a n : Nat} {i : Int} (h0 : 0 ≤ i) (h1 : i < n) : rget h a n i = h a i.toNat := if_pos ⟨h0, h1⟩
theorem rput_in {h : zHp} {a n : Nat} {i v : Int} (h0 : 0 ≤ i) (h1 : i < n) : rput h a n i v = zst h a i.toNat v := if_pos ⟨h0, h1⟩
theorem rput_ne {h : zHp} {a n : Nat} {i v : Int} {p : Nat} (hp : p ≠ a) : rput h a n i v p = h p := by
  unfold rput
  split
  · rw [zst_if, if_neg hp]
  · rfl
/-- the cells that nobody looks at between two calls -/
def zScr (id : Nat) : Bool := [33, 35, 37, 40, 66, 68, 70, 72, 74, 76, 77, 78, 80, 82, 84, 91, 92, 93, 94, 95, 96, 97, 98, 99, 100, 101].contains id
def zQ (h h' : zHp) : Prop := ∀ id, zScr id = false → h' id = h id
theorem zQ.refl (h : zHp) : zQ h h := fun _ _ => rfl
theorem zQ.trans {h h1 h2 : zHp} (a : zQ h h1) (b : zQ h1 h2) : zQ h h2 := fun id q => (b id q).trans (a id q)
theorem zQ.st {h h1 : zHp} {o i : Nat} {v : Int} (a : zQ h h1) (ho : zScr o = true) : zQ h (zst h1 o i v) := by
  intro id q
  have : id ≠ o := fun e => by rw [e, ho] at q; cases q
  rw [zst_if, if_neg this]
  exact a id q
theorem zQ.rp {h h1 : zHp} {o n : Nat} {i v : Int} (a : zQ h h1) (ho : zScr o = true) : zQ h (rput h1 o n i v) := by
  intro id q
  have : id ≠ o := fun e => by rw [e, ho] at q; cases q
  rw [rput_ne this]
  exact a id q
/-- one step: the class's ring at s, the reference's row at x -/
def zSp (c a : zFn) (s x : Nat) : Prop :=
  (c s = a x ∧ c (s + 1) = a (x + 1) ∧ c (s + 2) = a (x + 2)) ∧ (∀ f, f < 4 → c (s + 3 + f) = a (x + 3 + f)) ∧
  (∀ o, o < 8 → c (s + 7 + 8 * o) = a (x + 7 + 5 * o) ∧ ∀ e, e < 4 → c (s + 7 + 8 * o + 4 + e) = a (x + 7 + 5 * o + 1 + e)) ∧
  (∀ o : Nat, (o : Int) < a (x + 2) → ∀ w, 1 ≤ w → w < 4 → c (s + 7 + 8 * o + w) = a (41 + 8 * o + w))
/-- a yard of the class against a row of the reference -/
def zYc (b : Nat) (h : zHp) (a : zFn) : Prop :=
  (h (1 + b) 0 = a 0 ∧ h (16 + b) 1 = a 1 ∧ h (16 + b) 2 = a 2 ∧ h (16 + b) 0 = a 3 ∧ h (1 + b) 12 = a 4 ∧ h (1 + b) 13 = a 5 ∧ h (1 + b) 9 = a 6 ∧ h (17 + b) 2 = a 7 ∧ 0 ≤ h (17 + b) 1 ∧ h (17 + b) 1 < 20) ∧
  (∀ k, k < 5 → h (3 + b) k = a (10 + 3 * k) ∧ h (5 + b) k = a (11 + 3 * k) ∧ h (7 + b) k = a (12 + 3 * k)) ∧
  (∀ k, k < 4 → h (9 + b) k = a (25 + 4 * k) ∧ h (11 + b) k = a (26 + 4 * k) ∧ h (13 + b) k = a (27 + 4 * k) ∧ h (16 + b) (3 + k) = a (28 + 4 * k)) ∧
  (∀ o, o < 8 → ∀ w, w < 8 → h (16 + b) (7 + 8 * o + w) = a (41 + 8 * o + w)) ∧
  (∀ k, k < 8 → h (21 + b) k = a (105 + 2 * k) ∧ h (23 + b) k = a (106 + 2 * k)) ∧
  (∀ k : Nat, (k : Int) < a 7 → zSp (h (19 + b)) a (71 * ((h (17 + b) 1 - a 7 + k + 20).toNat % 20)) (121 + 47 * k))
/-- an ox: home, owner, nights, at, mate, among F farms, f fields and n oxen -/
def zOx (F f n o hm ow ni pl mt : Int) : Prop := (0 ≤ hm ∧ hm < F) ∧ (0 ≤ ow ∧ ow < F) ∧ (0 ≤ ni ∧ ni ≤ 2) ∧ ((0 ≤ pl ∧ pl < F) ∨ (10 ≤ pl ∧ pl < 10 + f)) ∧ (-1 ≤ mt ∧ mt < n ∧ mt ≠ o ∧ (0 ≤ mt → 10 ≤ pl))
def zOk (a : zFn) : Prop :=
  ((0 ≤ a 0 ∧ a 0 ≤ 5) ∧ (0 ≤ a 1 ∧ a 1 ≤ 4) ∧ (0 ≤ a 2 ∧ a 2 ≤ 8) ∧ (0 ≤ a 3 ∧ a 3 ≤ 23) ∧ (0 ≤ a 4 ∧ a 4 ≤ 4) ∧ (-1 ≤ a 5 ∧ a 5 < a 4) ∧ (0 ≤ a 6 ∧ a 6 ≤ 8) ∧ (0 ≤ a 7 ∧ a 7 ≤ 20)) ∧
  (∀ k, k < 5 → (0 ≤ a (10 + 3 * k) ∧ a (10 + 3 * k) ≤ 19) ∧ (0 ≤ a (11 + 3 * k) ∧ a (11 + 3 * k) ≤ 19) ∧ (0 ≤ a (12 + 3 * k) ∧ a (12 + 3 * k) ≤ 9)) ∧
  (∀ k, k < 4 → (0 ≤ a (25 + 4 * k) ∧ a (25 + 4 * k) ≤ 19) ∧ (0 ≤ a (26 + 4 * k) ∧ a (26 + 4 * k) ≤ 19) ∧ (0 ≤ a (27 + 4 * k) ∧ a (27 + 4 * k) ≤ 9) ∧ (0 ≤ a (28 + 4 * k) ∧ a (28 + 4 * k) ≤ 99)) ∧
  (∀ o : Nat, (o : Int) < a 2 → zOx (a 0) (a 1) (a 2) o (a (41 + 8 * o)) (a (45 + 8 * o)) (a (46 + 8 * o)) (a (47 + 8 * o)) (a (48 + 8 * o)) ∧ (-1 ≤ a (42 + 8 * o) ∧ a (42 + 8 * o) < a 0) ∧ (1 ≤ a (43 + 8 * o) ∧ a (43 + 8 * o) ≤ 9) ∧ (0 ≤ a (44 + 8 * o) ∧ a (44 + 8 * o) ≤ 9)) ∧
  (∀ k : Nat, (k : Int) < a 6 → (0 ≤ a (105 + 2 * k) ∧ a (105 + 2 * k) ≤ 23) ∧ (0 ≤ a (106 + 2 * k) ∧ a (106 + 2 * k) < a 0)) ∧
  (∀ k : Nat, (k : Int) < a 7 → ((0 ≤ a (121 + 47 * k) ∧ a (121 + 47 * k) ≤ 23) ∧ (0 ≤ a (122 + 47 * k) ∧ a (122 + 47 * k) ≤ a 1) ∧ (0 ≤ a (123 + 47 * k) ∧ a (123 + 47 * k) ≤ a 2)) ∧
    (∀ f, f < 4 → 0 ≤ a (124 + 47 * k + f) ∧ a (124 + 47 * k + f) ≤ 99) ∧
    (∀ o : Nat, (o : Int) < a (123 + 47 * k) → zOx (a 0) (a (122 + 47 * k)) (a (123 + 47 * k)) o (a (128 + 47 * k + 5 * o)) (a (129 + 47 * k + 5 * o)) (a (130 + 47 * k + 5 * o)) (a (131 + 47 * k + 5 * o)) (a (132 + 47 * k + 5 * o))))
/-! texts -/
/-- a code of the reference (sort, value) and the class's code -/
def zcd (o v c : Int) : Prop := (o = 0 ∧ 0 ≤ v ∧ v ≤ 9999 ∧ c = v) ∨ (o = 1 ∧ 0 ≤ v ∧ v < 11 ∧ c = 10000 + v) ∨
  (o = 2 ∧ c = 20033) ∨ (o = 3 ∧ c = 20024) ∨ (o = 4 ∧ c = 20025) ∨ (o = 5 ∧ c = 20026) ∨ (o = 6 ∧ c = 20027) ∨
  (o = 10 ∧ c = 20020) ∨ (o = 11 ∧ c = 20031) ∨ (o = 12 ∧ c = 20021) ∨ (o = 13 ∧ c = 20032) ∨ (o = 14 ∧ c = 20022) ∨ (o = 15 ∧ c = 20023) ∨
  (o = 20 ∧ c = 20018) ∨ (o = 21 ∧ c = 20017) ∨ (o = 22 ∧ c = 20016)
/-- clause c of the class's slot t is the codes l -/
def zTw (h : zHp) (t c : Nat) (l : List Int) : Prop :=
  ∃ f : Nat, h 30 (5 * t + c) = f ∧ h 32 (5 * t + c) = f + l.length ∧ (f + l.length ≤ 1200 ∧ f + l.length ≤ 300 * t + 300) ∧ ∀ (i : Nat) (v : Int), l[i]? = some v → h 28 (f + i) = v
/-- clause c of the reference's slot t is the codes l -/
def zTv (h : zHp) (t c : Nat) (l : List Int) : Prop :=
  ∃ n : Nat, h 88 (625 * t) = n ∧ n ≤ 5 ∧ ((l = [] ∧ ∀ k, k < n → h 88 (625 * t + 1 + 3 * k) ≠ c) ∨
    (∃ k f : Nat, k < n ∧ h 88 (625 * t + 1 + 3 * k) = c ∧ (∀ j, j < k → h 88 (625 * t + 1 + 3 * j) ≠ c) ∧ h 88 (625 * t + 2 + 3 * k) = f ∧ h 88 (625 * t + 3 + 3 * k) = f + l.length ∧ f + l.length ≤ 302 ∧ l ≠ [] ∧
      ∀ (i : Nat) (v : Int), l[i]? = some v → zcd (h 88 (625 * t + 20 + 2 * (f + i))) (h 88 (625 * t + 21 + 2 * (f + i))) v))
/-- a name that a clause may hold -/
def zNok (c i : Int) : Bool := if c = 4 then decide (i = 0 ∨ 8 ≤ i ∧ i ≤ 10) else if c = 3 then decide (0 ≤ i ∧ i ≤ 2) else decide (0 ≤ i ∧ i ≤ 8)
/-- truths and values that lie on the stack behind a code -/
def zwf1 (c : Int) (p : Nat × Nat) (x : Int) : Option (Nat × Nat) :=
  if 60 ≤ p.1 + p.2 then none
  else if 0 ≤ x ∧ x ≤ 9999 then some (p.1, p.2 + 1)
  else if 10000 ≤ x ∧ x < 10011 then (if zNok c (x - 10000) = true then some (p.1, p.2 + 1) else none)
  else if x = 20018 then (if p.2 = 0 ∧ 1 ≤ p.1 then some p else none)
  else if x = 20033 then (if 1 ≤ p.2 then some p else none)
  else if 20024 ≤ x ∧ x ≤ 20027 then (if 2 ≤ p.2 then some (p.1, p.2 - 1) else none)
  else if x = 20020 ∨ x = 20021 ∨ x = 20022 ∨ x = 20023 ∨ x = 20031 ∨ x = 20032 then (if p.2 = 2 then some (p.1 + 1, 0) else none)
  else if x = 20016 ∨ x = 20017 then (if p.2 = 0 ∧ 2 ≤ p.1 then some (p.1 - 1, 0) else none)
  else none
def zwf (c : Int) : Nat × Nat → List Int → Option (Nat × Nat)
  | p, [] => some p
  | p, x :: l => match zwf1 c p x with
    | some q => zwf c q l
    | none => none
def zTx (h : zHp) (T : Nat → Nat → List Int) : Prop := ∀ t : Nat, (t : Int) < h 86 4 → ∀ c, c < 5 → zTw h t c (T t c) ∧ zTv h t c (T t c) ∧ (T t c ≠ [] → zwf c (0, 0) (T t c) = some (if c < 2 then (1, 0) else (0, 1)))
/-- the whole invariant -/
def zInv (h : zHp) : Prop :=
  (zYc 0 h (h 86) ∧ zOk (h 86)) ∧ (zYc 40 h (h 87) ∧ zOk (h 87)) ∧ h 87 4 ≤ h 86 4 ∧ (∃ T, zTx h T) ∧
  (h 0 1 = h 85 4 ∧ 0 ≤ h 85 4 ∧ h 85 4 ≤ 300 ∧ ∀ i, i < 300 → h 25 i = h 89 i ∧ 0 ≤ h 89 i ∧ h 89 i ≤ 255) ∧ h 67 2 = h 85 5 ∧ h 67 3 = h 85 6
