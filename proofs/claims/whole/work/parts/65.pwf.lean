/-! PURE: text, what the grammar gives is well formed -/
theorem znu_0 {b : zFn} {len p : Nat} : 0 ≤ znu b len p := by
  have hz : ∀ (n q : Nat) (a : Int), 0 ≤ a → (∀ i, q ≤ i → i < q + n → zdt (b i) = true) → 0 ≤ zCn b n q a := by
    intro n
    induction n with
    | zero => intro q a ha _; exact ha
    | succ n ih =>
      intro q a ha h
      unfold zCn
      refine ih (q + 1) _ ?_ (fun i h1 h2 => h i (by omega) (by omega))
      have hq := h q (Nat.le_refl _) (by omega)
      unfold zdt at hq
      rw [decide_eq_true_iff] at hq
      unfold zmin
      split <;> omega
  unfold znu
  have hf := (zru_f (P := zdt) (b := b) (len := len) (len - zPl2 b len p) (zPl2 b len p) rfl).2.2
  have hb := (zru_b (P := zdt) (b := b) (len := len) (p := zPl2 b len p)).1
  exact hz _ _ _ (Int.le_refl _) (fun i h1 h2 => hf i h1 (by omega))
theorem zwf_app {c : Int} : ∀ (l : List Int) (l' : List Int) (p q r : Nat × Nat), zwf c p l = some q → zwf c q l' = some r → zwf c p (l ++ l') = some r := by
  intro l
  induction l with
  | nil =>
    intro l' p q r h1 h2
    unfold zwf at h1
    rw [Option.some.inj h1]
    exact h2
  | cons x l ih =>
    intro l' p q r h1 h2
    obtain ⟨p1, e1, e2⟩ := zwf_cons h1
    show zwf c p (x :: (l ++ l')) = some r
    unfold zwf
    rw [e1]
    exact ih l' p1 q r e2 h2
theorem zwf_one {c : Int} {p q : Nat × Nat} {x : Int} (h : zwf1 c p x = some q) : zwf c p [x] = some q := by
  unfold zwf
  rw [h]
  rfl
theorem zlp_w {c : Int} {b : zFn} {len : Nat} {J : Int → Bool} {sub : Nat → zR} {s0 s1 s2 : Nat × Nat} (hs : ∀ p p' l, sub p = .inr (p', l) → zwf c s1 l = some s2) (hJ : ∀ k, J k = true → zwf1 c s2 (20000 + k) = some s1) : ∀ (n p p' : Nat) (acc l : List Int), zwf c s0 acc = some s1 → zlpR b len J sub n p acc = .inr (p', l) → zwf c s0 l = some s1 := by
  intro n
  induction n with
  | zero =>
    intro p p' acc l h e
    unfold zlpR at e
    cases e
    exact h
  | succ n ih =>
    intro p p' acc l h e
    unfold zlpR at e
    by_cases c1 : J (zco b len p) = true
    · rw [if_pos c1] at e
      cases hr : sub (zne b len p) with
      | inl x => rw [hr] at e; cases e
      | inr q =>
        obtain ⟨p1, l1⟩ := q
        rw [hr] at e
        exact ih p1 p' _ l (zwf_app _ _ _ _ _ h (zwf_app _ _ _ _ _ (hs _ _ _ hr) (zwf_one (hJ _ c1)))) e
    · rw [if_neg c1] at e
      cases e
      exact h
theorem zjn_w {c : Int} {b : zFn} {len : Nat} {J : Int → Bool} {sub : Nat → zR} {s0 s1 s2 : Nat × Nat} (h0 : ∀ p p' l, sub p = .inr (p', l) → zwf c s0 l = some s1) (hs : ∀ p p' l, sub p = .inr (p', l) → zwf c s1 l = some s2) (hJ : ∀ k, J k = true → zwf1 c s2 (20000 + k) = some s1) (p p' : Nat) (l : List Int) (e : zjnR b len J sub p = .inr (p', l)) : zwf c s0 l = some s1 := by
  unfold zjnR at e
  cases hr : sub p with
  | inl x => rw [hr] at e; cases e
  | inr q =>
    obtain ⟨p1, l1⟩ := q
    rw [hr] at e
    exact zlp_w hs hJ len p1 p' l1 l (h0 _ _ _ hr) e
theorem zw1_op {c k : Int} {a v : Nat} (h : a + v + 2 < 60) (hk : 24 ≤ k ∧ k ≤ 27) : zwf1 c (a, v + 2) (20000 + k) = some (a, v + 1) := by
  unfold zwf1
  rw [if_neg (by show ¬ (60 ≤ a + (v + 2)); omega), if_neg (by omega), if_neg (by omega), if_neg (by omega), if_neg (by omega), if_pos (by omega), if_pos (by show 2 ≤ v + 2; omega)]
  rfl
theorem zw1_cp {c k : Int} {a : Nat} (h : a + 2 < 60) (hk : zcpn k = true) : zwf1 c (a, 2) (20000 + k) = some (a + 1, 0) := by
  unfold zcpn at hk
  rw [decide_eq_true_iff] at hk
  unfold zwf1
  rw [if_neg (by show ¬ (60 ≤ a + 2); omega), if_neg (by omega), if_neg (by omega), if_neg (by omega), if_neg (by omega), if_neg (by omega), if_pos (by omega), if_pos rfl]
theorem zw1_j {c k : Int} {a : Nat} (h : a + 2 < 60) (hk : k = 16 ∨ k = 17) : zwf1 c (a + 2, 0) (20000 + k) = some (a + 1, 0) := by
  unfold zwf1
  rw [if_neg (by show ¬ (60 ≤ a + 2 + 0); omega), if_neg (by omega), if_neg (by omega), if_neg (by omega), if_neg (by omega), if_neg (by omega), if_neg (by omega), if_pos (by omega), if_pos ⟨rfl, by show 2 ≤ a + 2; omega⟩]
  rfl
theorem zw1_n {c k : Int} {a v : Nat} (h : a + v < 60) (hk : 0 ≤ k ∧ k ≤ 9999) : zwf1 c (a, v) k = some (a, v + 1) := by
  unfold zwf1
  rw [if_neg (by show ¬ (60 ≤ a + v); omega), if_pos hk]
theorem zw1_nm {c k : Int} {a v : Nat} (h : a + v < 60) (hk : 0 ≤ k ∧ k < 11) (hn : zNok c k = true) : zwf1 c (a, v) (10000 + k) = some (a, v + 1) := by
  unfold zwf1
  rw [if_neg (by show ¬ (60 ≤ a + v); omega), if_neg (by omega), if_pos (by omega), if_pos (by rw [show 10000 + k - 10000 = k by omega]; exact hn)]
theorem zw1_ng {c : Int} {a v : Nat} (h : a + v + 1 < 60) : zwf1 c (a, v + 1) 20033 = some (a, v + 1) := by
  unfold zwf1
  rw [if_neg (by show ¬ (60 ≤ a + (v + 1)); omega), if_neg (by omega), if_neg (by omega), if_neg (by omega), if_pos rfl, if_pos (by show 1 ≤ v + 1; omega)]
theorem zw1_no {c : Int} {a : Nat} (h : a + 1 < 60) : zwf1 c (a + 1, 0) 20018 = some (a + 1, 0) := by
  unfold zwf1
  rw [if_neg (by show ¬ (60 ≤ a + 1 + 0); omega), if_neg (by omega), if_neg (by omega), if_pos rfl, if_pos ⟨rfl, by show 1 ≤ a + 1; omega⟩]
def zWO (c : Int) (O : Nat → zR) (a v : Nat) : Prop := ∀ p p' l, O p = .inr (p', l) → zwf c (a, v) l = some (a, v + 1)
theorem zsm_w {c : Int} {b : zFn} {len : Nat} {O : Nat → zR} {a v : Nat} (h : a + v + 3 < 60) (h0 : zWO c O a v) (h1 : zWO c O a (v + 1)) (h2 : zWO c O a (v + 2)) : zWO c (zsmR b len O) a v := by
  have hp : ∀ v', a + v' + 2 < 60 → zWO c O a v' → zWO c O a (v' + 1) → zWO c (zprd b len O) a v' := by
    intro v' hv x y p p' l e
    exact zjn_w (s1 := (a, v' + 1)) (s2 := (a, v' + 2)) x y (fun k hk => zw1_op hv (by unfold zJ2 at hk; rw [decide_eq_true_iff] at hk; omega)) p p' l e
  intro p p' l e
  exact zjn_w (s1 := (a, v + 1)) (s2 := (a, v + 2)) (hp v (by omega) h0 h1) (hp (v + 1) (by omega) h1 h2) (fun k hk => zw1_op (by omega) (by unfold zJ3 at hk; rw [decide_eq_true_iff] at hk; omega)) p p' l e
theorem zone_w {c : Int} {b : zFn} {len : Nat} : ∀ (d a v : Nat), a + v + 2 * d + 1 < 60 → zWO c (zone b len c d) a v := by
  intro d
  induction d with
  | zero =>
    intro a v h p p' l e
    by_cases c1 : zco b len p = 34
    · rw [zoneU_34 0 p c1] at e
      by_cases c2 : znu b len p ≤ 9999
      · rw [if_pos c2] at e
        cases e
        exact zwf_one (zw1_n (by omega) ⟨znu_0, c2⟩)
      · rw [if_neg c2] at e
        cases e
    by_cases c3 : 0 ≤ zco b len p ∧ zco b len p < 11
    · rw [zoneU_nm 0 p c3] at e
      by_cases c2 : zNok c (zco b len p) = true
      · rw [if_pos c2] at e
        cases e
        exact zwf_one (zw1_nm (by omega) c3 c2)
      · rw [if_neg c2] at e
        cases e
    by_cases c4 : zco b len p = 25 ∨ zco b len p = 28
    · rw [zoneU_0 p c4] at e
      cases e
    · rw [zoneU_el 0 p c1 c3 (by omega) (by omega)] at e
      cases e
  | succ d ih =>
    intro a v h p p' l e
    by_cases c1 : zco b len p = 34
    · rw [zoneU_34 (d + 1) p c1] at e
      by_cases c2 : znu b len p ≤ 9999
      · rw [if_pos c2] at e
        cases e
        exact zwf_one (zw1_n (by omega) ⟨znu_0, c2⟩)
      · rw [if_neg c2] at e
        cases e
    by_cases c3 : 0 ≤ zco b len p ∧ zco b len p < 11
    · rw [zoneU_nm (d + 1) p c3] at e
      by_cases c2 : zNok c (zco b len p) = true
      · rw [if_pos c2] at e
        cases e
        exact zwf_one (zw1_nm (by omega) c3 c2)
      · rw [if_neg c2] at e
        cases e
    by_cases c4 : zco b len p = 25
    · rw [zoneU_m d p c4] at e
      cases hr : zone b len c d (zne b len p) with
      | inl x => rw [hr] at e; cases e
      | inr q =>
        obtain ⟨p1, l1⟩ := q
        rw [hr] at e
        cases e
        exact zwf_app _ _ _ _ _ (ih a v (by omega) _ _ _ hr) (zwf_one (zw1_ng (by omega)))
    by_cases c5 : zco b len p = 28
    · rw [zoneU_p d p c5] at e
      cases hr : zsmR b len (zone b len c d) (zne b len p) with
      | inl x => rw [hr] at e; cases e
      | inr q =>
        obtain ⟨p1, l1⟩ := q
        rw [hr] at e
        have hw := zsm_w (b := b) (len := len) (by omega) (ih a v (by omega)) (ih a (v + 1) (by omega)) (ih a (v + 2) (by omega)) _ _ _ hr
        simp only at e
        by_cases c6 : zco b len p1 = 29
        · rw [if_pos c6] at e
          cases e
          exact hw
        · rw [if_neg c6] at e
          cases e
    · rw [zoneU_el (d + 1) p c1 c3 c4 c5] at e
      cases e
theorem zsm8_w {c : Int} {b : zFn} {len d a v : Nat} (hd : d ≤ 8) (h : a + v ≤ 20) : zWO c (zsmR b len (zone b len c d)) a v :=
  zsm_w (by omega) (zone_w d a v (by omega)) (zone_w d a (v + 1) (by omega)) (zone_w d a (v + 2) (by omega))
theorem zask1_w {c : Int} {b : zFn} {len d a : Nat} (hd : d ≤ 8) (h : a ≤ 10) (p p' : Nat) (l : List Int) (e : zask1 b len c d p = .inr (p', l)) : zwf c (a, 0) l = some (a + 1, 0) := by
  unfold zask1 at e
  cases hr : zsmR b len (zone b len c d) p with
  | inl x => rw [hr] at e; cases e
  | inr q =>
    obtain ⟨p1, l1⟩ := q
    rw [hr] at e
    simp only at e
    by_cases c1 : zcpn (zco b len p1) = true
    · rw [if_pos c1] at e
      cases hr2 : zsmR b len (zone b len c d) (zne b len p1) with
      | inl x => rw [hr2] at e; cases e
      | inr q =>
        obtain ⟨p2, l2⟩ := q
        rw [hr2] at e
        cases e
        exact zwf_app _ _ _ _ _ (zsm8_w hd (by omega) _ _ _ hr) (zwf_app _ _ _ _ _ (zsm8_w hd (by omega) _ _ _ hr2) (zwf_one (zw1_cp (by omega) c1)))
    · rw [if_neg c1] at e
      cases e
theorem zask_w {c : Int} {b : zFn} {len a : Nat} (h : a ≤ 10) : ∀ (d p p' : Nat) (l : List Int), d ≤ 8 → zask b len c d p = .inr (p', l) → zwf c (a, 0) l = some (a + 1, 0) := by
  intro d
  induction d with
  | zero =>
    intro p p' l hd e
    unfold zask at e
    by_cases c1 : zco b len p = 18
    · rw [if_pos c1] at e
      cases e
    · rw [if_neg c1] at e
      exact zask1_w (by omega) h p p' l e
  | succ d ih =>
    intro p p' l hd e
    unfold zask at e
    by_cases c1 : zco b len p = 18
    · rw [if_pos c1] at e
      cases hr : zask b len c d (zne b len p) with
      | inl x => rw [hr] at e; cases e
      | inr q =>
        obtain ⟨p1, l1⟩ := q
        rw [hr] at e
        cases e
        exact zwf_app _ _ _ _ _ (ih _ _ _ (by omega) hr) (zwf_one (zw1_no (by omega)))
    · rw [if_neg c1] at e
      exact zask1_w hd h p p' l e
theorem zbth_w {c : Int} {b : zFn} {len a : Nat} (h : a ≤ 5) (p p' : Nat) (l : List Int) (e : zbth b len c p = .inr (p', l)) : zwf c (a, 0) l = some (a + 1, 0) :=
  zjn_w (s1 := (a + 1, 0)) (s2 := (a + 2, 0)) (fun p p' l e => zask_w (by omega) 8 p p' l (by omega) e) (fun p p' l e => zask_w (by omega) 8 p p' l (by omega) e) (fun k hk => zw1_j (by omega) (by unfold zJ1 at hk; rw [decide_eq_true_iff] at hk; omega)) p p' l e
theorem zeit_w {c : Int} {b : zFn} {len : Nat} (p p' : Nat) (l : List Int) (e : zeit b len c p = .inr (p', l)) : zwf c (0, 0) l = some (1, 0) :=
  zjn_w (s1 := (1, 0)) (s2 := (2, 0)) (fun p p' l e => zbth_w (by omega) p p' l e) (fun p p' l e => zbth_w (by omega) p p' l e) (fun k hk => zw1_j (a := 0) (by omega) (by unfold zJ0 at hk; rw [decide_eq_true_iff] at hk; omega)) p p' l e
