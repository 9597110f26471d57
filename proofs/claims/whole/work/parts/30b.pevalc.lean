/-! PURE: the class's loop over a clause's codes -/
theorem zlen1 (x : Int) (t : List Int) : ((x :: t).length : Int) - 1 = (t.length : Int) := by simp
def zsr (s : List Int) (p : Nat × Nat) : Prop := s.length = p.1 + p.2 ∧ (∀ x ∈ s, zB6 x) ∧ ∀ x ∈ s.drop p.2, x = 0 ∨ x = 1
theorem zsr_nil : zsr [] (0, 0) := ⟨rfl, fun x h => absurd h List.not_mem_nil, fun x h => absurd h List.not_mem_nil⟩
theorem zsr_push {s : List Int} {p : Nat × Nat} {v : Int} (h : zsr s p) (hv : zB6 v) : zsr (v :: s) (p.1, p.2 + 1) :=
  ⟨by have := h.1; simp only [List.length_cons]; omega, fun x hx => by
    rcases List.mem_cons.mp hx with rfl | q
    · exact hv
    · exact h.2.1 x q, h.2.2⟩
def zcase (c : Int) (p q : Nat × Nat) (x : Int) : Prop :=
  p.1 + p.2 < 60 ∧ ((0 ≤ x ∧ x ≤ 9999 ∧ q = (p.1, p.2 + 1)) ∨ (10000 ≤ x ∧ x < 10011 ∧ zNok c (x - 10000) = true ∧ q = (p.1, p.2 + 1)) ∨
  (x = 20018 ∧ p.2 = 0 ∧ 1 ≤ p.1 ∧ q = p) ∨ (x = 20033 ∧ 1 ≤ p.2 ∧ q = p) ∨ (20024 ≤ x ∧ x ≤ 20027 ∧ 2 ≤ p.2 ∧ q = (p.1, p.2 - 1)) ∨
  ((x = 20020 ∨ x = 20021 ∨ x = 20022 ∨ x = 20023 ∨ x = 20031 ∨ x = 20032) ∧ p.2 = 2 ∧ q = (p.1 + 1, 0)) ∨ ((x = 20016 ∨ x = 20017) ∧ p.2 = 0 ∧ 2 ≤ p.1 ∧ q = (p.1 - 1, 0)))
theorem zcase_of {c : Int} {p q : Nat × Nat} {x : Int} (h : zwf1 c p x = some q) : zcase c p q x := by
  unfold zwf1 at h
  unfold zcase
  by_cases h0 : 60 ≤ p.1 + p.2
  · rw [if_pos h0] at h; cases h
  rw [if_neg h0] at h
  refine ⟨by omega, ?_⟩
  by_cases h1 : 0 ≤ x ∧ x ≤ 9999
  · rw [if_pos h1] at h; cases h; exact Or.inl ⟨h1.1, h1.2, rfl⟩
  rw [if_neg h1] at h
  by_cases h2 : 10000 ≤ x ∧ x < 10011
  · rw [if_pos h2] at h
    by_cases h3 : zNok c (x - 10000) = true
    · rw [if_pos h3] at h; cases h; exact Or.inr (Or.inl ⟨h2.1, h2.2, h3, rfl⟩)
    · rw [if_neg h3] at h; cases h
  rw [if_neg h2] at h
  by_cases h3 : x = 20018
  · rw [if_pos h3] at h
    by_cases h4 : p.2 = 0 ∧ 1 ≤ p.1
    · rw [if_pos h4] at h; cases h; exact Or.inr (Or.inr (Or.inl ⟨h3, h4.1, h4.2, rfl⟩))
    · rw [if_neg h4] at h; cases h
  rw [if_neg h3] at h
  by_cases h4 : x = 20033
  · rw [if_pos h4] at h
    by_cases h5 : 1 ≤ p.2
    · rw [if_pos h5] at h; cases h; exact Or.inr (Or.inr (Or.inr (Or.inl ⟨h4, h5, rfl⟩)))
    · rw [if_neg h5] at h; cases h
  rw [if_neg h4] at h
  by_cases h5 : 20024 ≤ x ∧ x ≤ 20027
  · rw [if_pos h5] at h
    by_cases h6 : 2 ≤ p.2
    · rw [if_pos h6] at h; cases h; exact Or.inr (Or.inr (Or.inr (Or.inr (Or.inl ⟨h5.1, h5.2, h6, rfl⟩))))
    · rw [if_neg h6] at h; cases h
  rw [if_neg h5] at h
  by_cases h6 : x = 20020 ∨ x = 20021 ∨ x = 20022 ∨ x = 20023 ∨ x = 20031 ∨ x = 20032
  · rw [if_pos h6] at h
    by_cases h7 : p.2 = 2
    · rw [if_pos h7] at h; cases h; exact Or.inr (Or.inr (Or.inr (Or.inr (Or.inr (Or.inl ⟨h6, h7, rfl⟩)))))
    · rw [if_neg h7] at h; cases h
  rw [if_neg h6] at h
  by_cases h7 : x = 20016 ∨ x = 20017
  · rw [if_pos h7] at h
    by_cases h8 : p.2 = 0 ∧ 2 ≤ p.1
    · rw [if_pos h8] at h; cases h; exact Or.inr (Or.inr (Or.inr (Or.inr (Or.inr (Or.inr ⟨h7, h8.1, h8.2, rfl⟩)))))
    · rw [if_neg h8] at h; cases h
  · rw [if_neg h7] at h; cases h
/-- a step of the pure stack keeps its kinds -/
theorem zvs1_r {nm : zFn} {c : Int} (hnm : ∀ i : Nat, i < 11 → zNok c i = true → zB6 (nm i)) {s : List Int} {p q : Nat × Nat} {x : Int} (hs : zsr s p) (hw : zcase c p q x) : zsr (zvs1 nm x s) q := by
  obtain ⟨p1, p2⟩ := p
  obtain ⟨hb, hw⟩ := hw
  obtain ⟨s1, s2, s3⟩ := hs
  simp only at hw s1 s3
  unfold zvs1
  rcases hw with ⟨a, b, rfl⟩ | ⟨a, b, d, rfl⟩ | ⟨rfl, a, b, rfl⟩ | ⟨rfl, a, rfl⟩ | ⟨a, b, d, rfl⟩ | ⟨a, rfl, rfl⟩ | ⟨a, rfl, b, rfl⟩
  · rw [if_pos (by omega)]
    exact zsr_push (p := (p1, p2)) ⟨s1, s2, s3⟩ (by unfold zB6; omega)
  · rw [if_neg (by omega), if_pos (by omega)]
    refine zsr_push (p := (p1, p2)) ⟨s1, s2, s3⟩ (hnm (x - 10000).toNat (by omega) ?_)
    rw [Int.toNat_of_nonneg (by omega)]; exact d
  · subst a
    match s, s1, s2, s3 with
    | y :: t, s1, s2, s3 =>
      have hy := s3 y List.mem_cons_self
      refine ⟨s1, fun z hz => ?_, fun z hz => ?_⟩
      · rcases List.mem_cons.mp hz with rfl | q
        · unfold zB6; omega
        · exact s2 z (List.mem_cons_of_mem _ q)
      · rcases List.mem_cons.mp hz with rfl | q
        · omega
        · exact s3 z (List.mem_cons_of_mem _ q)
    | [], s1, s2, s3 => simp at s1 <;> omega
  · match p2, a with
    | k + 1, _ =>
      match s, s1, s2, s3 with
      | y :: t, s1, s2, s3 =>
        have hy := s2 y List.mem_cons_self
        refine ⟨s1, fun z hz => ?_, s3⟩
        rcases List.mem_cons.mp hz with rfl | q
        · unfold zB6 at hy ⊢; omega
        · exact s2 z (List.mem_cons_of_mem _ q)
      | [], s1, s2, s3 => simp at s1 <;> omega
  · rw [if_neg (by omega), if_neg (by omega), if_neg (by omega), if_neg (by omega)]
    match p2, d with
    | k + 2, _ =>
      match s, s1, s2, s3 with
      | y :: z :: t, s1, s2, s3 =>
        refine ⟨by simp at s1 ⊢; omega, fun w hw => ?_, s3⟩
        rcases List.mem_cons.mp hw with rfl | q
        · exact zjn_b
        · exact s2 w (List.mem_cons_of_mem _ (List.mem_cons_of_mem _ q))
      | [y], s1, s2, s3 => simp at s1 <;> omega
      | [], s1, s2, s3 => simp at s1 <;> omega
  · rw [if_neg (by omega), if_neg (by omega), if_neg (by omega), if_neg (by omega)]
    match s, s1, s2, s3 with
    | y :: z :: t, s1, s2, s3 =>
      have h01 : zjn (x - 20000) z y = 0 ∨ zjn (x - 20000) z y = 1 := by
        rcases a with rfl | rfl | rfl | rfl | rfl | rfl
        all_goals
          unfold zjn
          simp only [Int.reduceSub, Int.reduceEq, reduceIte]
          split
        all_goals first
          | exact Or.inl rfl
          | exact Or.inr rfl
      refine ⟨by simp at s1 ⊢; omega, fun w hw => ?_, fun w hw => ?_⟩
      · rcases List.mem_cons.mp hw with rfl | q
        · exact zjn_b
        · exact s2 w (List.mem_cons_of_mem _ (List.mem_cons_of_mem _ q))
      · rcases List.mem_cons.mp hw with rfl | q
        · exact h01
        · exact s3 w q
    | [y], s1, s2, s3 => simp at s1 <;> omega
    | [], s1, s2, s3 => simp at s1 <;> omega
  · rw [if_neg (by omega), if_neg (by omega), if_neg (by omega), if_neg (by omega)]
    match s, s1, s2, s3 with
    | y :: z :: t, s1, s2, s3 =>
      have h01 : zjn (x - 20000) z y = 0 ∨ zjn (x - 20000) z y = 1 := by
        rcases a with rfl | rfl
        all_goals
          unfold zjn
          simp only [Int.reduceSub, Int.reduceEq, reduceIte]
          split
        all_goals first
          | exact Or.inl rfl
          | exact Or.inr rfl
      refine ⟨by simp at s1 ⊢; omega, fun w hw => ?_, fun w hw => ?_⟩
      · rcases List.mem_cons.mp hw with rfl | q
        · exact zjn_b
        · exact s2 w (List.mem_cons_of_mem _ (List.mem_cons_of_mem _ q))
      · rcases List.mem_cons.mp hw with rfl | q
        · exact h01
        · exact s3 w (List.mem_cons_of_mem _ (List.mem_cons_of_mem _ q))
    | [y], s1, s2, s3 => simp at s1 <;> omega
    | [], s1, s2, s3 => simp at s1 <;> omega
section ZVS
variable {nm : zFn} {x y z : Int} {s t : List Int}
theorem zvs1_num (h : x < 10000) : zvs1 nm x s = x :: s := by unfold zvs1; rw [if_pos h]
theorem zvs1_nm (h : 10000 ≤ x) (h2 : x < 20000) : zvs1 nm x s = nm (x - 10000).toNat :: s := by unfold zvs1; rw [if_neg (by omega), if_pos h2]
theorem zvs1_not : zvs1 nm 20018 (y :: t) = (1 - y) :: t := by unfold zvs1; rw [if_neg (by decide), if_neg (by decide), if_pos rfl]
theorem zvs1_neg : zvs1 nm 20033 (y :: t) = (-y) :: t := by unfold zvs1; rw [if_neg (by decide), if_neg (by decide), if_neg (by decide), if_pos rfl]
theorem zvs1_op (h : 20000 ≤ x) (h1 : x ≠ 20018) (h2 : x ≠ 20033) : zvs1 nm x (y :: z :: t) = zjn (x - 20000) z y :: t := by unfold zvs1; rw [if_neg (by omega), if_neg (by omega), if_neg h1, if_neg h2]
end ZVS
theorem zsk_len {c : zFn} {x : Int} {s : List Int} (h : zsk c (x :: s)) : c s.length = x := h.1
theorem zwf_cons {c : Int} {p q : Nat × Nat} {x : Int} {l : List Int} (h : zwf c p (x :: l) = some q) : ∃ p1, zwf1 c p x = some p1 ∧ zwf c p1 l = some q := by
  unfold zwf at h
  split at h
  · rename_i p1 e
    exact ⟨p1, e, h⟩
  · cases h
/-- the class's loop -/
theorem zev_c (N : Nat) (nm : zFn) (c : Int) (hnm : ∀ i : Nat, i < 11 → zNok c i = true → zB6 (nm i)) : ∀ (l : List Int) (n f : Nat) (h : zHp) (p q : Nat × Nat) (s : List Int),
    (∀ (i : Nat) (v : Int), l[i]? = some v → h 28 (f + i) = v) → f + l.length ≤ 1200 → (∀ i : Nat, i < 11 → zNok c i = true → h 35 i = nm i) → zsk (h 37) s → zsr s p → zwf c p l = some q → l.length < n →
    ∃ h1, sh_Laws_value_L40 N n ((f + l.length : Nat) : Int) ((s.length : Int) - 1) (f : Int) h = some (((zvs nm l s).length : Int) - 1, h1) ∧ zsk (h1 37) (zvs nm l s) ∧ zsr (zvs nm l s) q ∧ ∀ id, id ≠ 37 → h1 id = h id := by
  intro l
  induction l with
  | nil =>
    intro n f h p q s hl hf hN hk hs hw hn
    obtain ⟨n, rfl⟩ : ∃ m, n = m + 1 := ⟨n - 1, by omega⟩
    cases hw
    refine ⟨h, ?_, hk, hs, fun _ _ => rfl⟩
    unfold sh_Laws_value_L40
    rw [if_pos (by simp)]
    rfl
  | cons x l ih =>
    intro n f h p q s hl hf hN hk hs hw hn
    obtain ⟨p1, hw1, hw2⟩ := zwf_cons hw
    have hc := zcase_of hw1
    have hs1 := zvs1_r hnm hs hc
    simp only [List.length_cons] at hf hn
    obtain ⟨n, rfl⟩ : ∃ m, n = m + 1 := ⟨n - 1, by omega⟩
    have hx : h 28 f = x := hl 0 x rfl
    have hcell : rget h 28 1200 (f : Int) = x := by rw [rget_in (by omega) (by omega), Int.toNat_natCast]; exact hx
    -- it is enough to show one step
    suffices hstep : ∃ h2, sh_Laws_value_L40 N (n + 1) ((f + (x :: l).length : Nat) : Int) ((s.length : Int) - 1) (f : Int) h = sh_Laws_value_L40 N n ((f + 1 + l.length : Nat) : Int) (((zvs1 nm x s).length : Int) - 1) ((f + 1 : Nat) : Int) h2 ∧ zsk (h2 37) (zvs1 nm x s) ∧ ∀ id, id ≠ 37 → h2 id = h id by
      obtain ⟨h2, e2, k2, f2⟩ := hstep
      obtain ⟨h1, e1, k1, r1, f1⟩ := ih n (f + 1) h2 p1 q (zvs1 nm x s) (fun i v hi => by rw [f2 28 (by decide), Nat.add_assoc, Nat.add_comm 1 i]; exact hl (i + 1) v hi) (by omega) (fun i hi ho => by rw [f2 35 (by decide)]; exact hN i hi ho) k2 hs1 hw2 (by omega)
      exact ⟨h1, e2.trans e1, k1, r1, fun id hid => (f1 id hid).trans (f2 id hid)⟩
    have e6 : w32 ((f : Int) + 1) = ((f + 1 : Nat) : Int) := by rw [w32_s (by omega) (by omega)]; omega
    have eto : (f + (x :: l).length : Nat) = f + 1 + l.length := by simp only [List.length_cons]; omega
    obtain ⟨hb, hc⟩ := hc
    obtain ⟨sl, s2, s3⟩ := hs
    rw [eto]
    conv => enter [1, h2, 1, 1]; unfold sh_Laws_value_L40
    rw [if_neg (by omega)]
    simp only [hcell, e6]
    rcases hc with ⟨a, b, rfl⟩ | ⟨a, b, d, rfl⟩ | ⟨rfl, a, b, rfl⟩ | ⟨rfl, a, rfl⟩ | ⟨a, b, d, rfl⟩ | ⟨a, a2, rfl⟩ | ⟨a, a2, b, rfl⟩
    · rw [if_neg (by omega), zvs1_num (by omega)]
      have et : w32 ((s.length : Int) - 1 + 1) = (s.length : Int) := by rw [w32_s (by omega) (by omega)]; omega
      rw [et, rput_in (by omega) (by omega), Int.toNat_natCast]
      refine ⟨_, by rw [show (((x :: s).length : Int) - 1) = (s.length : Int) by simp], ?_, fun id hid => by rw [zst_if, if_neg hid]⟩
      rw [zst_if, if_pos rfl]
      exact zsk_push hk
    · rw [if_pos (by omega), if_neg (by omega), zvs1_nm (by omega) (by omega)]
      have et : w32 ((s.length : Int) - 1 + 1) = (s.length : Int) := by rw [w32_s (by omega) (by omega)]; omega
      have en : rget h 35 11 (w32 (x - 10000)) = nm (x - 10000).toNat := by
        rw [w32_s (by omega) (by omega), rget_in (by omega) (by omega)]
        exact hN _ (by omega) (by rw [Int.toNat_of_nonneg (by omega)]; exact d)
      rw [et, en, rput_in (by omega) (by omega), Int.toNat_natCast]
      refine ⟨_, by rw [show (((nm (x - 10000).toNat :: s).length : Int) - 1) = (s.length : Int) by simp], ?_, fun id hid => by rw [zst_if, if_neg hid]⟩
      rw [zst_if, if_pos rfl]
      exact zsk_push hk
    · rw [if_pos (by omega), if_pos (by omega), if_pos rfl]
      match s, sl, s2, s3, hk with
      | y :: t, sl, s2, s3, hk =>
        have hy : y = 0 ∨ y = 1 := by
          rw [a] at s3; exact s3 y List.mem_cons_self
        have hl2 : ((y :: t).length : Int) - 1 = (t.length : Int) := by simp
        have hyc : rget h 37 64 (t.length : Int) = y := by
          rw [rget_in (by omega) (by simp at sl <;> omega), Int.toNat_natCast]; exact hk.1
        rw [hl2, hyc, rput_in (by omega) (by simp at sl <;> omega), Int.toNat_natCast, w32_s (by omega) (by omega), zvs1_not]
        refine ⟨_, by rw [zlen1], ?_, fun id hid => by rw [zst_if, if_neg hid]⟩
        rw [zst_if, if_pos rfl]
        exact zsk_push hk.2
      | [], sl, s2, s3, hk => simp at sl <;> omega
    · rw [if_pos (by omega), if_pos (by omega), if_neg (by omega), if_pos rfl]
      match s, sl, s2, s3, hk with
      | y :: t, sl, s2, s3, hk =>
        have hy := s2 y List.mem_cons_self
        unfold zB6 at hy
        have hl2 : ((y :: t).length : Int) - 1 = (t.length : Int) := by simp
        have hyc : rget h 37 64 (t.length : Int) = y := by
          rw [rget_in (by omega) (by simp at sl <;> omega), Int.toNat_natCast]; exact hk.1
        rw [hl2, hyc, rput_in (by omega) (by simp at sl <;> omega), Int.toNat_natCast, w32_s (by omega) (by omega), zvs1_neg]
        refine ⟨_, by rw [zlen1], ?_, fun id hid => by rw [zst_if, if_neg hid]⟩
        rw [zst_if, if_pos rfl]
        exact zsk_push hk.2
      | [], sl, s2, s3, hk => simp at sl <;> omega
    all_goals
      rw [if_pos (by omega), if_pos (by omega), if_neg (by omega), if_neg (by omega)]
      match s, sl, s2, s3, hk with
      | y :: z :: t, sl, s2, s3, hk =>
        have hy := s2 y List.mem_cons_self
        have hz := s2 z (List.mem_cons_of_mem _ List.mem_cons_self)
        have hl2 : w32 (((y :: z :: t).length : Int) - 1 + (-1)) = (t.length : Int) := by
          simp at sl ⊢
          rw [w32_s (by omega) (by omega)]; omega
        have hl3 : w32 ((t.length : Int) + 1) = (t.length + 1 : Nat) := by
          simp at sl
          rw [w32_s (by omega) (by omega)]; omega
        have hzc : rget h 37 64 (t.length : Int) = z := by
          rw [rget_in (by omega) (by simp at sl <;> omega), Int.toNat_natCast]; exact hk.2.1
        have hyc : rget h 37 64 ((t.length + 1 : Nat) : Int) = y := by
          rw [rget_in (by omega) (by simp at sl <;> omega), Int.toNat_natCast]; exact hk.1
        rw [hl2, hl3, hyc, hzc, w32_s (by omega) (by omega)]
        obtain ⟨j, e1, e2⟩ := zjn_r (N := N) (k := x - 20000) (x := z) (y := y) (h := h) (by omega) hz hy (fun hk17 => by
          first
            | (exfalso; omega)
            | (rw [a2] at s3; exact ⟨s3 z (List.mem_cons_of_mem _ List.mem_cons_self), s3 y List.mem_cons_self⟩))
        rw [e1]
        simp only [zb1_some]
        rw [e2, rput_in (by omega) (by simp at sl <;> omega), Int.toNat_natCast, zvs1_op (by omega) (by omega) (by omega)]
        refine ⟨_, by rw [zlen1], ?_, fun id hid => by rw [zst_if, if_neg hid]⟩
        rw [zst_if, if_pos rfl]
        exact zsk_push hk.2.2
      | [y], sl, s2, s3, hk => simp at sl <;> omega
      | [], sl, s2, s3, hk => simp at sl <;> omega
