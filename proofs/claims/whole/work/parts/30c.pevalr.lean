/-! PURE: the reference's loop over a clause's codes -/
theorem ztwo_r {N : Nat} {o x y : Int} {h : zHp} (ho : 3 ≤ o ∧ o ≤ 6) (hx : zB6 x) (hy : zB6 y) : sh_Mo_two N o x y h = some (zjn (o + 21) x y) := by
  have hm := zB6_mul hx hy
  have hd := zB6_div (y := y) hx
  unfold zB6 at hx hy
  unfold sh_Mo_two zjn
  simp only [zclp_ref, zcmp_eq]
  have hc : o = 3 ∨ o = 4 ∨ o = 5 ∨ o = 6 := by omega
  rcases hc with rfl | rfl | rfl | rfl
  · simp only [Int.reduceAdd, Int.reduceEq, reduceIte]
    rw [w64_s (by omega) (by omega)]
  · simp only [Int.reduceAdd, Int.reduceEq, reduceIte]
    rw [w64_s (by omega) (by omega)]
  · simp only [Int.reduceAdd, Int.reduceEq, reduceIte]
    rw [w64_s (by omega) (by omega)]
  · simp only [Int.reduceAdd, Int.reduceEq, reduceIte]
    by_cases c : y = 0
    · rw [if_pos c, if_pos c]
    · rw [if_neg c, if_neg c, if_pos c, w64_s (by omega) (by omega)]
theorem zask_r {o x y : Int} {k : Int} (h : (o = 10 ∧ k = 20) ∨ (o = 11 ∧ k = 31) ∨ (o = 12 ∧ k = 21) ∨ (o = 13 ∧ k = 32) ∨ (o = 14 ∧ k = 22) ∨ (o = 15 ∧ k = 23)) : sh_Mo_isAsked o x y = zjn k x y := by
  unfold sh_Mo_isAsked zjn
  simp only [zcmp_ge, zcmp_le, zcmp_lt, zcmp_gt, zcmp_eq]
  rcases h with ⟨rfl, rfl⟩ | ⟨rfl, rfl⟩ | ⟨rfl, rfl⟩ | ⟨rfl, rfl⟩ | ⟨rfl, rfl⟩ | ⟨rfl, rfl⟩
  · simp only [Int.reduceEq, reduceIte]
    by_cases c : x < y
    · rw [if_neg (by omega), if_pos c]
    · rw [if_pos (by omega), if_neg c]
  · simp only [Int.reduceEq, reduceIte]
    by_cases c : x ≤ y
    · rw [if_neg (by omega), if_pos c]
    · rw [if_pos (by omega), if_neg c]
  · simp only [Int.reduceEq, reduceIte]
    by_cases c : y < x
    · rw [if_neg (by omega), if_pos c]
    · rw [if_pos (by omega), if_neg c]
  · simp only [Int.reduceEq, reduceIte]
    by_cases c : y ≤ x
    · rw [if_neg (by omega), if_pos c]
    · rw [if_pos (by omega), if_neg c]
  · simp only [Int.reduceEq, reduceIte]
  · simp only [Int.reduceEq, reduceIte]
theorem zev_r (N : Nat) (nm : zFn) (c : Int) (hnm : ∀ i : Nat, i < 11 → zNok c i = true → zB6 (nm i)) (X C : Nat) (hX : X + 2 < 2500) : ∀ (l : List Int) (n f : Nat) (h : zHp) (p q : Nat × Nat) (vs ts : List Int),
    h 88 (X + 2) = ((f + l.length : Nat) : Int) → C + 2 * (f + l.length) ≤ 2500 → (∀ (i : Nat) (v : Int), l[i]? = some v → zcd (h 88 (C + 2 * (f + i))) (h 88 (C + 2 * (f + i) + 1)) v) → (∀ i : Nat, i < 11 → zNok c i = true → h 91 i = nm i) → zsk (h 92) vs → zsk (h 93) ts → vs.length = p.2 → zsr (vs ++ ts) p → zwf c p l = some q → l.length < n →
    ∃ h1 vs1 ts1, sh_Mo_work_L33 N n (X : Int) (C : Int) (vs.length : Int) (ts.length : Int) (f : Int) h = some h1 ∧ vs1 ++ ts1 = zvs nm l (vs ++ ts) ∧ vs1.length = q.2 ∧ zsk (h1 92) vs1 ∧ zsk (h1 93) ts1 ∧ zsr (zvs nm l (vs ++ ts)) q ∧ ∀ id, id ≠ 92 → id ≠ 93 → h1 id = h id := by
  intro l
  induction l with
  | nil =>
    intro n f h p q vs ts hto hC hl hN hkv hkt hv hs hw hn
    obtain ⟨n, rfl⟩ : ∃ m, n = m + 1 := ⟨n - 1, by omega⟩
    cases hw
    refine ⟨h, vs, ts, ?_, rfl, hv, hkv, hkt, hs, fun _ _ _ => rfl⟩
    unfold sh_Mo_work_L33
    have e2 : w32 ((X : Int) + 2) = ((X + 2 : Nat) : Int) := by rw [w32_s (by omega) (by omega)]; omega
    rw [e2, Int.toNat_natCast, hto, if_pos (by omega), if_pos (by simp)]
  | cons x l ih =>
    intro n f h p q vs ts hto hC hl hN hkv hkt hv hs hw hn
    obtain ⟨p1, hw1, hw2⟩ := zwf_cons hw
    have hc := zcase_of hw1
    have hs1 := zvs1_r hnm hs hc
    simp only [List.length_cons] at hC hn hto
    obtain ⟨n, rfl⟩ : ∃ m, n = m + 1 := ⟨n - 1, by omega⟩
    have hz := hl 0 x rfl
    rw [Nat.add_zero] at hz
    suffices hstep : ∃ h2 vs2 ts2, sh_Mo_work_L33 N (n + 1) (X : Int) (C : Int) (vs.length : Int) (ts.length : Int) (f : Int) h = sh_Mo_work_L33 N n (X : Int) (C : Int) ((vs2.length : Nat) : Int) ((ts2.length : Nat) : Int) ((f + 1 : Nat) : Int) h2 ∧ vs2 ++ ts2 = zvs1 nm x (vs ++ ts) ∧ vs2.length = p1.2 ∧ zsk (h2 92) vs2 ∧ zsk (h2 93) ts2 ∧ ∀ id, id ≠ 92 → id ≠ 93 → h2 id = h id by
      obtain ⟨h2, vs2, ts2, e2, a2, b2, k2, t2, f2⟩ := hstep
      obtain ⟨h1, vs1, ts1, e1, a1, b1, k1, t1, r1, f1⟩ := ih n (f + 1) h2 p1 q vs2 ts2 (by rw [f2 88 (by decide) (by decide), hto]; omega) (by omega) (fun i v hi => by
        have := hl (i + 1) v hi
        rw [f2 88 (by decide) (by decide), show f + 1 + i = f + (i + 1) by omega]
        exact this) (fun i hi ho => by rw [f2 91 (by decide) (by decide)]; exact hN i hi ho) k2 t2 b2 (by rw [a2]; exact hs1) hw2 (by omega)
      refine ⟨h1, vs1, ts1, e2.trans e1, ?_, b1, k1, t1, ?_, fun id i1 i2 => (f1 id i1 i2).trans (f2 id i1 i2)⟩
      · rw [a1, a2]; rfl
      · rw [a2] at r1; exact r1
    have e6 : w32 ((f : Int) + 1) = ((f + 1 : Nat) : Int) := by rw [w32_s (by omega) (by omega)]; omega
    have eX : w32 ((X : Int) + 2) = ((X + 2 : Nat) : Int) := by rw [w32_s (by omega) (by omega)]; omega
    have e3 : w32 ((C : Int) + w32 (2 * (f : Int))) = ((C + 2 * f : Nat) : Int) := by
      rw [w32_s (a := 2 * (f : Int)) (by omega) (by omega), w32_s (by omega) (by omega)]; omega
    have e4 : w32 (((C + 2 * f : Nat) : Int) + 1) = ((C + 2 * f + 1 : Nat) : Int) := by
      rw [w32_s (by omega) (by omega)]; omega
    obtain ⟨hb, hc⟩ := hc
    obtain ⟨sl, s2, s3⟩ := hs
    conv => enter [1, h2, 1, vs2, 1, ts2, 1, 1]; unfold sh_Mo_work_L33
    rw [eX, e3, e4]
    simp only [Int.toNat_natCast, hto, e6]
    rw [if_pos (by omega), if_neg (by omega), if_pos (by omega), if_pos (by omega)]
    generalize h 88 (C + 2 * f) = o at hz ⊢
    generalize h 88 (C + 2 * f + 1) = v at hz ⊢
    unfold zcd at hz
    rw [List.length_append] at sl
    rcases hc with ⟨a, b, rfl⟩ | ⟨a, b, d, rfl⟩ | ⟨rfl, a, b, rfl⟩ | ⟨rfl, a, rfl⟩ | ⟨a, b, d, rfl⟩ | ⟨a, a2, rfl⟩ | ⟨a, a2, b, rfl⟩
    · obtain ⟨rfl, rfl⟩ : o = 0 ∧ v = x := by constructor <;> omega
      rw [if_neg (by omega), if_pos rfl, if_pos (by omega), w32_s (by omega) (by omega), zvs1_num (by omega)]
      refine ⟨_, v :: vs, ts, by rw [List.length_cons]; rfl, rfl, by rw [List.length_cons, hv], ?_, ?_, fun id i1 i2 => by rw [zst_if, if_neg i1]⟩
      · rw [zst_if, if_pos rfl]; exact zsk_push hkv
      · rw [zst_if, if_neg (by decide)]; exact hkt
    · obtain ⟨rfl, rfl⟩ : o = 1 ∧ v = x - 10000 := by constructor <;> omega
      have en : h 91 (x - 10000).toNat = nm (x - 10000).toNat := hN _ (by omega) (by rw [Int.toNat_of_nonneg (by omega)]; exact d)
      rw [if_neg (by omega), if_neg (by omega), if_pos (by omega), if_pos (by omega), w32_s (by omega) (by omega), en, zvs1_nm (by omega) (by omega)]
      refine ⟨_, nm (x - 10000).toNat :: vs, ts, by rw [List.length_cons]; rfl, rfl, by rw [List.length_cons, hv], ?_, ?_, fun id i1 i2 => by rw [zst_if, if_neg i1]⟩
      · rw [zst_if, if_pos rfl]; exact zsk_push hkv
      · rw [zst_if, if_neg (by decide)]; exact hkt
    · obtain rfl : o = 20 := by omega
      rw [a] at hv s3
      obtain rfl := List.length_eq_zero_iff.mp hv
      simp only [List.nil_append, List.drop_zero, List.length_nil] at s2 s3 sl ⊢
      rw [if_pos (by omega), if_neg (by omega), if_pos (by omega), if_pos (by omega), if_pos trivial]
      match ts, sl, s2, s3, hkt with
      | y :: t, sl, s2, s3, hkt =>
        have hy := s3 y List.mem_cons_self
        have hl2 : w32 (((y :: t).length : Int) - 1) = (t.length : Int) := by
          simp at sl ⊢; rw [w32_s (by omega) (by omega)] <;> omega
        simp only [List.length_cons] at sl
        rw [hl2, if_pos (by omega), if_pos (by omega), Int.toNat_natCast]
        have hyc : h 93 t.length = y := hkt.1
        rw [hyc]
        have hr : (if y = 0 then 1 else 0 : Int) = 1 - y := by
          rcases hy with rfl | rfl <;> rfl
        rw [hr, zvs1_not]
        refine ⟨_, [], (1 - y) :: t, by rw [List.length_cons, List.length_cons, List.length_nil], rfl, a.symm, ?_, ?_, fun id i1 i2 => by rw [zst_if, if_neg i2]⟩
        · trivial
        · rw [zst_if, if_pos rfl]; exact zsk_push hkt.2
      | [], sl, s2, s3, hkt => simp at sl <;> omega
    · obtain rfl : o = 2 := by omega
      match vs, hv, sl, s2, s3, hkv with
      | y :: t, hv, sl, s2, s3, hkv =>
        have hy := s2 y List.mem_cons_self
        unfold zB6 at hy
        have hl2 : w32 (((y :: t).length : Int) - 1) = (t.length : Int) := by
          simp at sl ⊢; rw [w32_s (by omega) (by omega)] <;> omega
        simp only [List.length_cons] at sl
        have hyc : h 92 t.length = y := hkv.1
        rw [if_pos (by omega), if_pos rfl, hl2, if_pos (by omega), if_pos (by omega), Int.toNat_natCast, hyc, w64_s (by omega) (by omega)]
        refine ⟨_, (-y) :: t, ts, by rw [List.length_cons, List.length_cons], (zvs1_neg).symm, hv, ?_, ?_, fun id i1 i2 => by rw [zst_if, if_neg i1]⟩
        · rw [zst_if, if_pos rfl]; exact zsk_push hkv.2
        · rw [zst_if, if_neg (by decide)]; exact hkt
      | [], hv, sl, s2, s3, hkv => simp at hv <;> omega
    · match vs, hv, sl, s2, s3, hkv with
      | y :: z :: t, hv, sl, s2, s3, hkv =>
        have ho : 3 ≤ o ∧ o ≤ 6 ∧ x - 20000 = o + 21 := by refine ⟨?_, ?_, ?_⟩ <;> omega
        have hy := s2 y List.mem_cons_self
        have hz2 := s2 z (List.mem_cons_of_mem _ List.mem_cons_self)
        have hl2 : w32 (((y :: z :: t).length : Int) + (-1)) = ((t.length + 1 : Nat) : Int) := by
          simp at sl ⊢; rw [w32_s (by omega) (by omega)] <;> omega
        have hl3 : w32 (((t.length + 1 : Nat) : Int) - 1) = (t.length : Int) := by
          simp at sl; rw [w32_s (by omega) (by omega)] <;> omega
        simp only [List.length_cons] at sl
        have hyc : h 92 (t.length + 1) = y := hkv.1
        have hzc : h 92 t.length = z := hkv.2.1
        rw [if_pos (by omega), if_neg (by omega), if_neg (by omega), hl2, hl3, if_pos (by omega), if_pos (by omega)]
        simp only [Int.toNat_natCast, hyc, hzc]
        rw [ztwo_r ⟨ho.1, ho.2.1⟩ hz2 hy]
        simp only [zb1_some]
        rw [if_pos (by omega)]
        refine ⟨_, zjn (o + 21) z y :: t, ts, by rw [List.length_cons], by rw [← ho.2.2]; exact (zvs1_op (by omega) (by omega) (by omega)).symm, by simp at hv ⊢; omega, ?_, ?_, fun id i1 i2 => by rw [zst_if, if_neg i1]⟩
        · rw [zst_if, if_pos rfl]; exact zsk_push hkv.2.2
        · rw [zst_if, if_neg (by decide)]; exact hkt
      | [y], hv, sl, s2, s3, hkv => simp at hv <;> omega
      | [], hv, sl, s2, s3, hkv => simp at hv <;> omega
    · rw [a2] at hv
      match vs, hv, sl, s2, s3, hkv with
      | [y, z], hv, sl, s2, s3, hkv =>
        have ho : 10 ≤ o ∧ o ≤ 15 := by constructor <;> omega
        have hl2 : w32 ((([y, z] : List Int).length : Int) + (-2)) = 0 := by
          simp only [List.length_cons, List.length_nil]
          rw [w32_s (by decide) (by decide)]; rfl
        have hl3 : w32 ((0 : Int) + 1) = 1 := by rw [w32_s (by decide) (by decide)]; rfl
        simp only [List.length_cons, List.length_nil] at sl
        have hyc : h 92 1 = y := hkv.1
        have hzc : h 92 0 = z := hkv.2.1
        rw [if_pos (by omega), if_neg (by omega), if_pos (by omega), if_neg (by omega), hl2, hl3, if_pos (by omega), if_pos (by omega), if_pos (by omega), w32_s (by omega) (by omega)]
        simp only [Int.toNat_natCast, Int.toNat_zero, Int.toNat_one, hyc, hzc]
        rw [zask_r (k := x - 20000) (by omega)]
        refine ⟨_, [], zjn (x - 20000) z y :: ts, by rw [List.length_cons, List.length_nil]; rfl, (zvs1_op (by omega) (by omega) (by omega)).symm, rfl, trivial, ?_, fun id i1 i2 => by rw [zst_if, if_neg i2]⟩
        rw [zst_if, if_pos rfl]; exact zsk_push hkt
      | [y], hv, sl, s2, s3, hkv => simp at hv
      | [], hv, sl, s2, s3, hkv => simp at hv
      | _ :: _ :: _ :: _, hv, sl, s2, s3, hkv => simp at hv
    · rw [a2] at hv s3
      obtain rfl := List.length_eq_zero_iff.mp hv
      simp only [List.nil_append, List.drop_zero, List.length_nil] at s2 s3 sl ⊢
      match ts, sl, s2, s3, hkt with
      | y :: z :: t, sl, s2, s3, hkt =>
        have hy := s3 y List.mem_cons_self
        have hz2 := s3 z (List.mem_cons_of_mem _ List.mem_cons_self)
        have hl2 : w32 (((y :: z :: t).length : Int) + (-1)) = ((t.length + 1 : Nat) : Int) := by
          simp at sl ⊢; rw [w32_s (by omega) (by omega)] <;> omega
        have hl3 : w32 (((t.length + 1 : Nat) : Int) - 1) = (t.length : Int) := by
          simp at sl; rw [w32_s (by omega) (by omega)] <;> omega
        simp only [List.length_cons] at sl
        have hyc : h 93 (t.length + 1) = y := hkt.1
        have hzc : h 93 t.length = z := hkt.2.1
        rw [if_pos (by omega), if_neg (by omega), if_pos (by omega), if_pos (by omega), if_neg (by omega), hl2, hl3]
        simp only [Int.toNat_natCast, hyc, hzc]
        rw [zvs1_op (by omega) (by omega) (by omega)]
        rcases a with rfl | rfl
        · obtain rfl : o = 22 := by omega
          rw [if_neg (by decide), if_pos (by omega)]
          by_cases c0 : z = 0
          · subst c0
            rw [if_pos rfl, if_pos (by omega), if_pos (by omega)]
            refine ⟨_, [], zjn (20016 - 20000) 0 y :: t, by rw [List.length_cons, List.length_nil], rfl, rfl, trivial, ?_, fun id i1 i2 => by rw [zst_if, if_neg i2]⟩
            have e : (if y = 0 then 0 else 1 : Int) = zjn (20016 - 20000) 0 y := by
              rcases hy with rfl | rfl <;> rfl
            rw [zst_if, if_pos rfl, e]; exact zsk_push hkt.2.2
          · obtain rfl : z = 1 := by omega
            rw [if_neg c0, if_pos (by omega)]
            refine ⟨_, [], zjn (20016 - 20000) 1 y :: t, by rw [List.length_cons, List.length_nil], rfl, rfl, trivial, ?_, fun id i1 i2 => by rw [zst_if, if_neg i2]⟩
            have e : (1 : Int) = zjn (20016 - 20000) 1 y := by
              rcases hy with rfl | rfl <;> rfl
            rw [zst_if, if_pos rfl, ← e]
            exact zsk_push hkt.2.2
        · obtain rfl : o = 21 := by omega
          rw [if_pos rfl, if_pos (by omega)]
          by_cases c0 : z = 0
          · subst c0
            rw [if_pos rfl, if_pos (by omega)]
            refine ⟨_, [], zjn (20017 - 20000) 0 y :: t, by rw [List.length_cons, List.length_nil], rfl, rfl, trivial, ?_, fun id i1 i2 => by rw [zst_if, if_neg i2]⟩
            have e : (0 : Int) = zjn (20017 - 20000) 0 y := by
              rcases hy with rfl | rfl <;> rfl
            rw [zst_if, if_pos rfl, ← e]
            exact zsk_push hkt.2.2
          · obtain rfl : z = 1 := by omega
            rw [if_neg c0, if_pos (by omega), if_pos (by omega)]
            refine ⟨_, [], zjn (20017 - 20000) 1 y :: t, by rw [List.length_cons, List.length_nil], rfl, rfl, trivial, ?_, fun id i1 i2 => by rw [zst_if, if_neg i2]⟩
            have e : (if y = 0 then 0 else 1 : Int) = zjn (20017 - 20000) 1 y := by
              rcases hy with rfl | rfl <;> rfl
            rw [zst_if, if_pos rfl, e]; exact zsk_push hkt.2.2
      | [y], sl, s2, s3, hkt => simp at sl <;> omega
      | [], sl, s2, s3, hkt => simp at sl <;> omega
