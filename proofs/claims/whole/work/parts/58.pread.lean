/-! PURE: text, the class reads -/
theorem zlp_g {b : zFn} {len : Nat} {J : Int → Bool} {sub : Nat → zR} (hJ : J 35 = false) (hs : ∀ p, p ≤ len → zRG2 len p (sub p)) : ∀ (n p p0 : Nat) (acc : List Int), p ≤ len → p0 + acc.length ≤ p → acc ≠ [] → zRG2 len p0 (zlpR b len J sub n p acc) := by
  intro n
  induction n with
  | zero => intro p p0 acc h1 h2 h3; exact ⟨h2, h1, h3⟩
  | succ n ih =>
    intro p p0 acc h1 h2 h3
    unfold zlpR
    by_cases c : J (zco b len p) = true
    · rw [if_pos c]
      have hk : zco b len p ≠ 35 := fun q => by rw [q, hJ] at c; exact absurd c (by decide)
      have hb := zne_b (b := b) (len := len) h1
      have hl := zco_ne (b := b) (len := len) h1 hk
      have h5 := hs (zne b len p) hb.2.1
      cases hr : sub (zne b len p) with
      | inl e => rw [hr] at h5; exact h5
      | inr q =>
        obtain ⟨p', l'⟩ := q
        rw [hr] at h5
        obtain ⟨h6, h7, h8⟩ := h5
        refine ih p' p0 _ h7 ?_ (by simp)
        simp only [List.length_append, List.length_cons, List.length_nil]
        omega
    · rw [if_neg c]; exact ⟨h2, h1, h3⟩
theorem zjn_g {b : zFn} {len : Nat} {J : Int → Bool} {sub : Nat → zR} (hJ : J 35 = false) (hs : ∀ p, p ≤ len → zRG2 len p (sub p)) (p : Nat) (hp : p ≤ len) : zRG2 len p (zjnR b len J sub p) := by
  have h5 := hs p hp
  unfold zjnR
  cases hr : sub p with
  | inl e => rw [hr] at h5; exact h5
  | inr q =>
    obtain ⟨p', l'⟩ := q
    rw [hr] at h5
    exact zlp_g hJ hs len p' p l' h5.2.1 h5.1 h5.2.2
theorem zone_g {b : zFn} {len : Nat} {cl : Int} : ∀ (d p : Nat), p ≤ len → zRG2 len p (zone b len cl d p) := by
  intro d
  induction d with
  | zero =>
    intro p hp
    have hb := zne_b (b := b) (len := len) hp
    have hl := fun hk => zco_ne (b := b) (len := len) hp hk
    unfold zone
    split
    · rename_i h
      have := (hl (by rw [h]; decide)).2
      split
      · exact ⟨by simp only [List.length_cons, List.length_nil]; omega, hb.2.1, by simp⟩
      · exact ⟨by decide, hb.2.2.1⟩
    split
    · rename_i _ h
      have := (hl (by omega)).2
      split
      · exact ⟨by simp only [List.length_cons, List.length_nil]; omega, hb.2.1, by simp⟩
      · exact ⟨by decide, hb.2.2.1⟩
    split
    · exact ⟨by decide, hb.2.2.1⟩
    split
    · exact ⟨by decide, hb.2.2.1⟩
    · exact ⟨by decide, hb.2.2.1⟩
  | succ d ih =>
    intro p hp
    have hb := zne_b (b := b) (len := len) hp
    have hl := fun hk => zco_ne (b := b) (len := len) hp hk
    unfold zone
    split
    · rename_i h
      have := (hl (by rw [h]; decide)).2
      split
      · exact ⟨by simp only [List.length_cons, List.length_nil]; omega, hb.2.1, by simp⟩
      · exact ⟨by decide, hb.2.2.1⟩
    split
    · rename_i _ h
      have := (hl (by omega)).2
      split
      · exact ⟨by simp only [List.length_cons, List.length_nil]; omega, hb.2.1, by simp⟩
      · exact ⟨by decide, hb.2.2.1⟩
    split
    · rename_i _ _ h
      have := (hl (by rw [h]; decide)).2
      have h5 := ih (zne b len p) hb.2.1
      cases hr : zone b len cl d (zne b len p) with
      | inl e => rw [hr] at h5; exact h5
      | inr q =>
        obtain ⟨p', l'⟩ := q
        rw [hr] at h5
        exact ⟨by simp only [List.length_append, List.length_cons, List.length_nil]; have := h5.1; omega, h5.2.1, by simp⟩
    split
    · rename_i _ _ _ h
      have := (hl (by rw [h]; decide)).2
      have h5 := zjn_g (b := b) (len := len) (J := zJ3) (sub := zprd b len (zone b len cl d)) (by decide) (fun p hp => zjn_g (by decide) ih p hp) (zne b len p) hb.2.1
      cases hr : zsmR b len (zone b len cl d) (zne b len p) with
      | inl e =>
        rw [show zjnR b len zJ3 (zprd b len (zone b len cl d)) (zne b len p) = zsmR b len (zone b len cl d) (zne b len p) from rfl, hr] at h5
        exact h5
      | inr q =>
        obtain ⟨p', l'⟩ := q
        rw [show zjnR b len zJ3 (zprd b len (zone b len cl d)) (zne b len p) = zsmR b len (zone b len cl d) (zne b len p) from rfl, hr] at h5
        have hb' := zne_b (b := b) (len := len) h5.2.1
        show zRG2 len p (if zco b len p' = 29 then .inr (zne b len p', l') else .inl (1, zPl2 b len p'))
        split
        · exact ⟨by have := h5.1; omega, hb'.2.1, h5.2.2⟩
        · exact ⟨by decide, hb'.2.2.1⟩
    · exact ⟨by decide, hb.2.2.1⟩
theorem zsm_g {b : zFn} {len : Nat} {cl : Int} (d p : Nat) (hp : p ≤ len) : zRG2 len p (zsmR b len (zone b len cl d) p) :=
  zjn_g (by decide) (fun p hp => zjn_g (by decide) (zone_g d) p hp) p hp
theorem zak1_g {b : zFn} {len : Nat} {cl : Int} (d p : Nat) (hp : p ≤ len) : zRG2 len p (zask1 b len cl d p) := by
  have h5 := zsm_g (b := b) (len := len) (cl := cl) d p hp
  unfold zask1
  cases hr : zsmR b len (zone b len cl d) p with
  | inl e => rw [hr] at h5; exact h5
  | inr q =>
    obtain ⟨p1, l1⟩ := q
    rw [hr] at h5
    have hb := zne_b (b := b) (len := len) h5.2.1
    show zRG2 len p (if _ then _ else _)
    split
    · rename_i hc
      have hk : zco b len p1 ≠ 35 := fun q => by rw [q] at hc; exact absurd hc (by decide)
      have hl := zco_ne (b := b) (len := len) h5.2.1 hk
      have h6 := zsm_g (b := b) (len := len) (cl := cl) d (zne b len p1) hb.2.1
      cases hr2 : zsmR b len (zone b len cl d) (zne b len p1) with
      | inl e => rw [hr2] at h6; exact h6
      | inr q =>
        obtain ⟨p2, l2⟩ := q
        rw [hr2] at h6
        exact ⟨by simp only [List.length_append, List.length_cons, List.length_nil]; have := h5.1; have := h6.1; omega, h6.2.1, by simp⟩
    · exact ⟨by decide, hb.2.2.1⟩
theorem zask_g {b : zFn} {len : Nat} {cl : Int} : ∀ (d p : Nat), p ≤ len → zRG2 len p (zask b len cl d p) := by
  intro d
  induction d with
  | zero =>
    intro p hp
    have hb := zne_b (b := b) (len := len) hp
    unfold zask
    split
    · exact ⟨by decide, hb.2.2.1⟩
    · exact zak1_g 0 p hp
  | succ d ih =>
    intro p hp
    have hb := zne_b (b := b) (len := len) hp
    unfold zask
    split
    · rename_i h
      have := (zco_ne (b := b) (len := len) hp (by rw [h]; decide)).2
      have h5 := ih (zne b len p) hb.2.1
      cases hr : zask b len cl d (zne b len p) with
      | inl e => rw [hr] at h5; exact h5
      | inr q =>
        obtain ⟨p', l'⟩ := q
        rw [hr] at h5
        exact ⟨by simp only [List.length_append, List.length_cons, List.length_nil]; have := h5.1; omega, h5.2.1, by simp⟩
    · exact zak1_g (d + 1) p hp
theorem zbth_g {b : zFn} {len : Nat} {cl : Int} (p : Nat) (hp : p ≤ len) : zRG2 len p (zbth b len cl p) := zjn_g (by decide) (zask_g 8) p hp
theorem zeit_g {b : zFn} {len : Nat} {cl : Int} (p : Nat) (hp : p ≤ len) : zRG2 len p (zeit b len cl p) := zjn_g (by decide) zbth_g p hp
/-! the class's state -/
def zCS (h : zHp) (b : zFn) (len t : Nat) (cl : Int) (p c : Nat) : Prop := (h 25 = b ∧ h 67 4 = len ∧ h 67 5 = t ∧ h 67 6 = cl) ∧ h 67 2 = 0 ∧ h 67 7 = c ∧ h 67 8 = (zPl2 b len p : Int) ∧ h 67 9 = (zne b len p : Int) ∧ h 67 10 = zco b len p ∧ ((zco b len p = 34 → h 67 11 = znu b len p) ∧ h 67 3 = -1)
def zFC (t c : Nat) (h h1 : zHp) : Prop := (∀ id, id ≠ 28 → id ≠ 67 → h1 id = h id) ∧ (∀ j, j < 300 * t + c → h1 28 j = h 28 j) ∧ h1 67 4 = h 67 4 ∧ h1 67 5 = h 67 5 ∧ h1 67 6 = h 67 6
theorem zFC.refl {t c : Nat} (h : zHp) : zFC t c h h := ⟨fun _ _ _ => rfl, fun _ _ => rfl, rfl, rfl, rfl⟩
theorem zFC.trans {t c c' : Nat} {h h1 h2 : zHp} (a : zFC t c h h1) (b : zFC t c' h1 h2) (hc : c ≤ c') : zFC t c h h2 :=
  ⟨fun id p q => (b.1 id p q).trans (a.1 id p q), fun j hj => (b.2.1 j (by omega)).trans (a.2.1 j hj), b.2.2.1.trans a.2.2.1, b.2.2.2.1.trans a.2.2.2.1, b.2.2.2.2.trans a.2.2.2.2⟩
theorem zFC.st {t c : Nat} {h h1 : zHp} {i : Nat} {v : Int} (a : zFC t c h h1) (h4 : i ≠ 4) (h5 : i ≠ 5) (h6 : i ≠ 6) : zFC t c h (zst h1 67 i v) := by
  refine ⟨fun id p q => by rw [zst_if, if_neg q]; exact a.1 id p q, fun j hj => by rw [zst_if, if_neg (by decide)]; exact a.2.1 j hj, ?_, ?_, ?_⟩
  · rw [zst_if, if_pos rfl, zup1_ne _ _ (fun e => h4 e.symm)]; exact a.2.2.1
  · rw [zst_if, if_pos rfl, zup1_ne _ _ (fun e => h5 e.symm)]; exact a.2.2.2.1
  · rw [zst_if, if_pos rfl, zup1_ne _ _ (fun e => h6 e.symm)]; exact a.2.2.2.2
theorem zFC_67 {t c : Nat} {h h1 : zHp} (f : zF67 [8, 9, 10, 11] h h1) : zFC t c h h1 :=
  ⟨fun id _ q => f.1 id q, fun j _ => by rw [f.1 28 (by decide)], f.2 4 (by decide), f.2 5 (by decide), f.2 6 (by decide)⟩
theorem zCS_stp {h : zHp} {b : zFn} {len t : Nat} {cl : Int} {p c N : Nat} (hN : 1300 ≤ N) (hl : len ≤ 300) (hp : p ≤ len) (S : zCS h b len t cl p c) : ∃ h1, sh_Reader_step N h = some h1 ∧ zCS h1 b len t cl (zne b len p) c ∧ zFC t c h h1 ∧ h1 28 = h 28 := by
  obtain ⟨⟨s1, s2, s3, s4⟩, s5, s6, s7, s8, s9, s10⟩ := S
  have hb := zne_b (b := b) (len := len) hp
  obtain ⟨h1, q1, q2, q3, q4, q5, q6⟩ := zstp_c hN hl hb.2.1 s1 s2 s8
  refine ⟨h1, q1, ⟨⟨?_, ?_, ?_, ?_⟩, ?_, ?_, q2, q3, q4, q5, ?_⟩, zFC_67 q6, q6.1 28 (by decide)⟩
  · rw [q6.1 25 (by decide)]; exact s1
  · rw [q6.2 4 (by decide)]; exact s2
  · rw [q6.2 5 (by decide)]; exact s3
  · rw [q6.2 6 (by decide)]; exact s4
  · rw [q6.2 2 (by decide)]; exact s5
  · rw [q6.2 7 (by decide)]; exact s6
  · rw [q6.2 3 (by decide)]; exact s10.2
theorem zCS_emt {h : zHp} {b : zFn} {len t : Nat} {cl : Int} {p c : Nat} (v : Int) (ht : t ≤ 3) (hc : c < 300) (S : zCS h b len t cl p c) : ∃ h1, sh_Reader_emit v h = h1 ∧ zCS h1 b len t cl p (c + 1) ∧ zFC t c h h1 ∧ h1 28 (300 * t + c) = v := by
  obtain ⟨⟨s1, s2, s3, s4⟩, s5, s6, s7, s8, s9, s10⟩ := S
  have ex : w32 (w32 (h 67 5 * 300) + h 67 7) = ((300 * t + c : Nat) : Int) := by rw [s3, s6, w32_s (a := (t : Int) * 300) (by omega) (by omega), w32_s (by omega) (by omega)]; omega
  have e : sh_Reader_emit v h = zst (zst h 28 (300 * t + c) v) 67 7 ((c + 1 : Nat) : Int) := by
    unfold sh_Reader_emit
    rw [ex, rput_in (by omega) (by omega), Int.toNat_natCast, zst_if, if_neg (by decide), s6, w32_s (by omega) (by omega)]
    rfl
  refine ⟨_, e, ⟨⟨?_, ?_, ?_, ?_⟩, ?_, ?_, ?_, ?_, ?_, ?_⟩, ?_, ?_⟩
  · rw [zst_if, if_neg (by decide), zst_if, if_neg (by decide)]; exact s1
  · simp (disch := omega) only [zst_if, zup1_ne, zup1_eq, w32_s, rget_in, rput_in, zgrd, Nat.reduceEqDiff, Nat.reduceAdd, ↓reduceIte, Int.reduceToNat, zb1_some, zb2_some, zb3_some, zb4_some, zb5_some, Int.toNat_natCast, true_and, and_true]; exact s2
  · simp (disch := omega) only [zst_if, zup1_ne, zup1_eq, w32_s, rget_in, rput_in, zgrd, Nat.reduceEqDiff, Nat.reduceAdd, ↓reduceIte, Int.reduceToNat, zb1_some, zb2_some, zb3_some, zb4_some, zb5_some, Int.toNat_natCast, true_and, and_true]; exact s3
  · simp (disch := omega) only [zst_if, zup1_ne, zup1_eq, w32_s, rget_in, rput_in, zgrd, Nat.reduceEqDiff, Nat.reduceAdd, ↓reduceIte, Int.reduceToNat, zb1_some, zb2_some, zb3_some, zb4_some, zb5_some, Int.toNat_natCast, true_and, and_true]; exact s4
  · simp (disch := omega) only [zst_if, zup1_ne, zup1_eq, w32_s, rget_in, rput_in, zgrd, Nat.reduceEqDiff, Nat.reduceAdd, ↓reduceIte, Int.reduceToNat, zb1_some, zb2_some, zb3_some, zb4_some, zb5_some, Int.toNat_natCast, true_and, and_true]; exact s5
  · simp (disch := omega) only [zst_if, zup1_ne, zup1_eq, w32_s, rget_in, rput_in, zgrd, Nat.reduceEqDiff, Nat.reduceAdd, ↓reduceIte, Int.reduceToNat, zb1_some, zb2_some, zb3_some, zb4_some, zb5_some, Int.toNat_natCast, true_and, and_true]
  · simp (disch := omega) only [zst_if, zup1_ne, zup1_eq, w32_s, rget_in, rput_in, zgrd, Nat.reduceEqDiff, Nat.reduceAdd, ↓reduceIte, Int.reduceToNat, zb1_some, zb2_some, zb3_some, zb4_some, zb5_some, Int.toNat_natCast, true_and, and_true]; exact s7
  · simp (disch := omega) only [zst_if, zup1_ne, zup1_eq, w32_s, rget_in, rput_in, zgrd, Nat.reduceEqDiff, Nat.reduceAdd, ↓reduceIte, Int.reduceToNat, zb1_some, zb2_some, zb3_some, zb4_some, zb5_some, Int.toNat_natCast, true_and, and_true]; exact s8
  · simp (disch := omega) only [zst_if, zup1_ne, zup1_eq, w32_s, rget_in, rput_in, zgrd, Nat.reduceEqDiff, Nat.reduceAdd, ↓reduceIte, Int.reduceToNat, zb1_some, zb2_some, zb3_some, zb4_some, zb5_some, Int.toNat_natCast, true_and, and_true]; exact s9
  · simp (disch := omega) only [zst_if, zup1_ne, zup1_eq, w32_s, rget_in, rput_in, zgrd, Nat.reduceEqDiff, Nat.reduceAdd, ↓reduceIte, Int.reduceToNat, zb1_some, zb2_some, zb3_some, zb4_some, zb5_some, Int.toNat_natCast, true_and, and_true]; exact s10
  · refine zFC.st ⟨fun id q _ => by rw [zst_if, if_neg q], fun j hj => by rw [zst_if, if_pos rfl, zup1_ne _ _ (by omega)], ?_, ?_, ?_⟩ (by decide) (by decide) (by decide)
    · rw [zst_if, if_neg (by decide)]
    · rw [zst_if, if_neg (by decide)]
    · rw [zst_if, if_neg (by decide)]
  · simp (disch := omega) only [zst_if, zup1_ne, zup1_eq, w32_s, rget_in, rput_in, zgrd, Nat.reduceEqDiff, Nat.reduceAdd, ↓reduceIte, Int.reduceToNat, zb1_some, zb2_some, zb3_some, zb4_some, zb5_some, Int.toNat_natCast, true_and, and_true]
def zPost (kk : Nat) (h1 : zHp) (b : zFn) (len t : Nat) (cl : Int) (c : Nat) (r : zR) : Prop := match r with
  | .inl (k, q) => h1 67 2 = k ∧ h1 67 3 = (q : Int) ∧ (c : Int) ≤ h1 67 7 ∧ h1 67 7 ≤ 300 + kk ∧ ∃ m : Nat, m ≤ len ∧ h1 67 9 = m
  | .inr (p', l) => zCS h1 b len t cl p' (c + l.length) ∧ ∀ (i : Nat) (v : Int), l[i]? = some v → h1 28 (300 * t + c + i) = v
theorem zPost_m {kk kk' : Nat} {h1 : zHp} {b : zFn} {len t : Nat} {cl : Int} {c : Nat} {r : zR} (h : zPost kk h1 b len t cl c r) (hk : kk ≤ kk') : zPost kk' h1 b len t cl c r := by
  cases r with
  | inl e => exact ⟨h.1, h.2.1, h.2.2.1, by have := h.2.2.2.1; omega, h.2.2.2.2⟩
  | inr q => exact h
theorem zfai_c {h : zHp} {b : zFn} {len t : Nat} {cl : Int} {p c : Nat} (kk : Nat) (k : Int) (hp : p ≤ len) (hc : c ≤ 300) (S : zCS h b len t cl p c) : ∃ h1, sh_Reader_fail k h = h1 ∧ zPost kk h1 b len t cl c (.inl (k, zPl2 b len p)) ∧ zFC t c h h1 := by
  obtain ⟨⟨s1, s2, s3, s4⟩, s5, s6, s7, s8, s9, s10⟩ := S
  refine ⟨_, rfl, ?_, ?_⟩
  · unfold sh_Reader_fail
    rw [if_pos s5]
    refine ⟨?_, ?_, ?_, ?_, zne b len p, (zne_b hp).2.1, ?_⟩
    · simp (disch := omega) only [zst_if, zup1_ne, zup1_eq, w32_s, rget_in, rput_in, zgrd, Nat.reduceEqDiff, Nat.reduceAdd, ↓reduceIte, Int.reduceToNat, zb1_some, zb2_some, zb3_some, zb4_some, zb5_some, Int.toNat_natCast, true_and, and_true]
    · simp (disch := omega) only [zst_if, zup1_ne, zup1_eq, w32_s, rget_in, rput_in, zgrd, Nat.reduceEqDiff, Nat.reduceAdd, ↓reduceIte, Int.reduceToNat, zb1_some, zb2_some, zb3_some, zb4_some, zb5_some, Int.toNat_natCast, true_and, and_true]; exact s7
    · simp (disch := omega) only [zst_if, zup1_ne, zup1_eq, w32_s, rget_in, rput_in, zgrd, Nat.reduceEqDiff, Nat.reduceAdd, ↓reduceIte, Int.reduceToNat, zb1_some, zb2_some, zb3_some, zb4_some, zb5_some, Int.toNat_natCast, true_and, and_true]; omega
    · simp (disch := omega) only [zst_if, zup1_ne, zup1_eq, w32_s, rget_in, rput_in, zgrd, Nat.reduceEqDiff, Nat.reduceAdd, ↓reduceIte, Int.reduceToNat, zb1_some, zb2_some, zb3_some, zb4_some, zb5_some, Int.toNat_natCast, true_and, and_true]; omega
    · simp (disch := omega) only [zst_if, zup1_ne, zup1_eq, w32_s, rget_in, rput_in, zgrd, Nat.reduceEqDiff, Nat.reduceAdd, ↓reduceIte, Int.reduceToNat, zb1_some, zb2_some, zb3_some, zb4_some, zb5_some, Int.toNat_natCast, true_and, and_true]; exact s8
  · unfold sh_Reader_fail
    rw [if_pos s5]
    exact ((zFC.refl h).st (by decide) (by decide) (by decide)).st (by decide) (by decide) (by decide)
/-- an emission behind a fault -/
theorem zemf_c {h h1 : zHp} {b : zFn} {len t : Nat} {cl : Int} {c kk : Nat} {e : Int × Nat} (v : Int) (ht : t ≤ 3) (hk : kk ≤ 200) (h5 : h 67 5 = t) (hP : zPost kk h b len t cl c (.inl e)) : ∃ h1, sh_Reader_emit v h = h1 ∧ zPost (kk + 1) h1 b len t cl c (.inl e) ∧ zFC t c h h1 := by
  obtain ⟨p1, p2, p3, p4, m9, p5, p6⟩ := hP
  obtain ⟨m, hm⟩ : ∃ m : Nat, h 67 7 = m := ⟨(h 67 7).toNat, by omega⟩
  have ex : w32 (w32 (h 67 5 * 300) + h 67 7) = ((300 * t + m : Nat) : Int) := by rw [h5, hm, w32_s (a := (t : Int) * 300) (by omega) (by omega), w32_s (by omega) (by omega)]; omega
  have h67 : rput h 28 1200 ((300 * t + m : Nat) : Int) v 67 = h 67 := rput_ne (by decide)
  refine ⟨_, rfl, ?_, ?_⟩
  · unfold sh_Reader_emit
    rw [ex]
    refine ⟨?_, ?_, ?_, ?_, m9, p5, ?_⟩
    · rw [zst_if, if_pos rfl, zup1_ne _ _ (by decide), h67]; exact p1
    · rw [zst_if, if_pos rfl, zup1_ne _ _ (by decide), h67]; exact p2
    · rw [zst_if, if_pos rfl, zup1_eq, h67, hm, w32_s (by omega) (by omega)]; omega
    · rw [zst_if, if_pos rfl, zup1_eq, h67, hm, w32_s (by omega) (by omega)]; omega
    · rw [zst_if, if_pos rfl, zup1_ne _ _ (by decide), h67]; exact p6
  · unfold sh_Reader_emit
    rw [ex]
    refine zFC.st ⟨fun id q _ => rput_ne q, fun j hj => ?_, by rw [h67], by rw [h67], by rw [h67]⟩ (by decide) (by decide) (by decide)
    unfold rput
    split
    · rw [zst_if, if_pos rfl, zup1_ne _ _ (by omega)]
    · rfl
def zGd (kk : Nat) (call : zHp → Option (Int × zHp)) (sub : Nat → zR) (b : zFn) (len t : Nat) (cl : Int) : Prop := ∀ (p c : Nat) (h : zHp), zCS h b len t cl p c → c ≤ p → p ≤ len → ∃ h1, call h = some (0, h1) ∧ zPost kk h1 b len t cl c (sub p) ∧ zFC t c h h1
theorem zGd_r {N kk : Nat} {R x : Int} {sub : Nat → zR} {b : zFn} {len t : Nat} {cl : Int} (G : zGd kk (sh_GR N kk 1 [R, x]) sub b len t cl) (h2 : R ≠ 2) (h5 : R < 5) : zGd (kk + 1) (sh_GR N (kk + 1) 0 [R, x]) sub b len t cl := by
  intro p c h S hc hp
  obtain ⟨h1, q1, q2, q3⟩ := G p c h S hc hp
  refine ⟨h1, ?_, zPost_m q2 (by omega), q3⟩
  show sh_b_Reader_readRank N (sh_GR N kk) R x h = _
  unfold sh_b_Reader_readRank
  rw [if_neg h2, if_pos h5, q1]
  rfl
theorem zGd_5 {N kk : Nat} {x : Int} {sub : Nat → zR} {b : zFn} {len t : Nat} {cl : Int} (G : zGd kk (sh_GR N kk 3 [x]) sub b len t cl) : zGd (kk + 1) (sh_GR N (kk + 1) 0 [5, x]) sub b len t cl := by
  intro p c h S hc hp
  obtain ⟨h1, q1, q2, q3⟩ := G p c h S hc hp
  refine ⟨h1, ?_, zPost_m q2 (by omega), q3⟩
  show sh_b_Reader_readRank N (sh_GR N kk) 5 x h = _
  unfold sh_b_Reader_readRank
  rw [if_neg (by decide), if_neg (by decide), q1]
  rfl
theorem zGd_2 {N kk : Nat} {x : Int} {sub : Nat → zR} {b : zFn} {len t : Nat} {cl : Int} (G : zGd kk (sh_GR N kk 2 [x]) sub b len t cl) : zGd (kk + 1) (sh_GR N (kk + 1) 0 [2, x]) sub b len t cl := by
  intro p c h S hc hp
  obtain ⟨h1, q1, q2, q3⟩ := G p c h S hc hp
  refine ⟨h1, ?_, zPost_m q2 (by omega), q3⟩
  show sh_b_Reader_readRank N (sh_GR N kk) 2 x h = _
  unfold sh_b_Reader_readRank
  rw [if_pos rfl, q1]
  rfl
theorem zGd_j {N kk : Nat} {R x : Int} {J : Int → Bool} {sub : Nat → zR} {b : zFn} {len t : Nat} {cl : Int} (hN : 1300 ≤ N) (hl : len ≤ 300) (ht : t ≤ 3) (hkk : kk ≤ 150) (hR : w32 (R + 1) = R + 1) (hJ : ∀ k, (sh_Reader_joins R k = 0) = ¬ (J k = true)) (hJ35 : J 35 = false) (hg : ∀ p, p ≤ len → zRG2 len p (sub p)) (G : zGd kk (sh_GR N kk 0 [R + 1, x]) sub b len t cl) : zGd (kk + 1) (sh_GR N (kk + 1) 1 [R, x]) (zjnR b len J sub) b len t cl := by
  -- the loop
  have hlp : ∀ (n m i p c0 : Nat) (acc : List Int) (h : zHp), i + n = len → n < m → zCS h b len t cl p (c0 + acc.length) → c0 + acc.length ≤ p → p ≤ len → (∀ (j : Nat) (v : Int), acc[j]? = some v → h 28 (300 * t + c0 + j) = v) →
      ∃ h1, sh_Reader_readJoined_L8 N (sh_GR N kk) m R x (i : Int) h = some h1 ∧ zPost (kk + 1) h1 b len t cl c0 (zlpR b len J sub n p acc) ∧ zFC t (c0 + acc.length) h h1 := by
    intro n
    induction n with
    | zero =>
      intro m i p c0 acc h hi hm S hc hp ha
      obtain ⟨m, rfl⟩ : ∃ k, m = k + 1 := ⟨m - 1, by omega⟩
      refine ⟨h, ?_, ⟨S, ha⟩, zFC.refl h⟩
      unfold sh_Reader_readJoined_L8
      rw [S.1.2.1, if_pos (by omega)]
    | succ n ih =>
      intro m i p c0 acc h hi hm S hc hp ha
      obtain ⟨m, rfl⟩ : ∃ k, m = k + 1 := ⟨m - 1, by omega⟩
      have e1 : w32 ((i : Int) + 1) = ((i + 1 : Nat) : Int) := by rw [w32_s (by omega) (by omega)]; omega
      unfold sh_Reader_readJoined_L8
      rw [S.1.2.1, if_neg (c := (len : Int) ≤ (i : Int)) (by omega), if_pos (c := h 67 2 = 0) S.2.1, S.2.2.2.2.2.1]
      simp only [hJ]
      rw [show zlpR b len J sub (n + 1) p acc = if J (zco b len p) = true then (match sub (zne b len p) with
        | .inl e => .inl e
        | .inr (p', l') => zlpR b len J sub n p' (acc ++ (l' ++ [20000 + zco b len p]))) else .inr (p, acc) from rfl]
      by_cases c : J (zco b len p) = true
      case neg =>
        rw [if_pos c, if_neg c]
        exact ⟨h, rfl, ⟨S, ha⟩, zFC.refl h⟩
      rw [if_neg (fun q => q c), if_pos c, hR]
      have hk : zco b len p ≠ 35 := fun q => by rw [q, hJ35] at c; exact absurd c (by decide)
      have hkr := zco_r (b := b) (len := len) (p := p)
      have hb := zne_b (b := b) (len := len) hp
      have hlt := zco_ne (b := b) (len := len) hp hk
      obtain ⟨h1, q1, q2, q3, q4⟩ := zCS_stp hN hl hp S
      obtain ⟨h2, r1, r2, r3⟩ := G (zne b len p) (c0 + acc.length) h1 q2 (by omega) hb.2.1
      have hgs := hg (zne b len p) hb.2.1
      have e20 : w32 (20000 + zco b len p) = 20000 + zco b len p := w32_s (by omega) (by omega)
      rw [q1]
      simp only [zb1_some]
      rw [r1]
      simp only [zb2_some]
      rw [e20, e1]
      have f2 : zFC t (c0 + acc.length) h h2 := q3.trans r3 (Nat.le_refl _)
      cases hr : sub (zne b len p) with
      | inl e =>
        rw [hr] at r2
        obtain ⟨h3, s1, s2, s3⟩ := zemf_c (h1 := h2) (20000 + zco b len p) ht (by omega) (by rw [f2.2.2.2.1]; exact S.1.2.2.1) r2
        rw [s1]
        refine ⟨h3, ?_, ?_, f2.trans s3 (Nat.le_refl _)⟩
        · obtain ⟨m', rfl⟩ : ∃ k, m = k + 1 := ⟨m - 1, by omega⟩
          unfold sh_Reader_readJoined_L8
          have hne : h3 67 2 ≠ 0 := by
            rw [hr] at hgs
            have := hgs.1
            rw [s2.1]
            omega
          by_cases c9 : h3 67 4 ≤ ((i + 1 : Nat) : Int)
          · rw [if_pos c9]
          · rw [if_neg c9, if_neg hne]
        · exact ⟨s2.1, s2.2.1, by have := s2.2.2.1; omega, s2.2.2.2.1, s2.2.2.2.2⟩
      | inr q =>
        obtain ⟨p', l'⟩ := q
        rw [hr] at r2 hgs
        obtain ⟨g1, g2, g3⟩ := hgs
        obtain ⟨h3, s1, s2, s3, s4⟩ := zCS_emt (20000 + zco b len p) ht (by omega) r2.1
        rw [s1]
        have f3 : zFC t (c0 + acc.length) h h3 := f2.trans s3 (by omega)
        have hlen : (acc ++ (l' ++ [20000 + zco b len p])).length = acc.length + l'.length + 1 := by simp only [List.length_append, List.length_cons, List.length_nil]; omega
        have hS3 : zCS h3 b len t cl p' (c0 + (acc ++ (l' ++ [20000 + zco b len p])).length) := by
          rw [hlen, show c0 + (acc.length + l'.length + 1) = c0 + acc.length + l'.length + 1 by omega]; exact s2
        obtain ⟨h4, t1, t2, t3⟩ := ih m (i + 1) p' c0 (acc ++ (l' ++ [20000 + zco b len p])) h3 (by omega) (by omega) hS3 (by rw [hlen]; omega) g2 (fun j v hj => by
          by_cases j1 : j < acc.length
          · rw [List.getElem?_append_left j1] at hj
            rw [f3.2.1 _ (by omega)]
            exact ha j v hj
          · rw [List.getElem?_append_right (by omega)] at hj
            by_cases j2 : j - acc.length < l'.length
            · rw [List.getElem?_append_left j2] at hj
              rw [s3.2.1 _ (by omega)]
              have := r2.2 (j - acc.length) v hj
              rw [show 300 * t + c0 + j = 300 * t + (c0 + acc.length) + (j - acc.length) by omega]
              exact this
            · rw [List.getElem?_append_right (by omega)] at hj
              have j3 : j - acc.length - l'.length = 0 := by
                have := (List.getElem?_eq_some_iff.mp hj).1
                simp only [List.length_cons, List.length_nil] at this
                omega
              rw [j3] at hj
              have hv : 20000 + zco b len p = v := Option.some.inj hj
              rw [← hv, show 300 * t + c0 + j = 300 * t + (c0 + acc.length + l'.length) by omega]
              exact s4)
        exact ⟨h4, t1, t2, f3.trans t3 (by rw [hlen]; omega)⟩
  intro p c h S hc hp
  obtain ⟨h1, q1, q2, q3⟩ := G p c h S hc hp
  have hgs := hg p hp
  show ∃ h2, sh_b_Reader_readJoined N (sh_GR N kk) R x h = _ ∧ _
  unfold sh_b_Reader_readJoined zjnR
  rw [hR, q1]
  simp only [zb2_some]
  cases hr : sub p with
  | inl e =>
    rw [hr] at q2 hgs
    refine ⟨h1, ?_, zPost_m q2 (by omega), q3⟩
    have hne : h1 67 2 ≠ 0 := by
      have := hgs.1
      rw [q2.1]
      omega
    obtain ⟨N', rfl⟩ : ∃ k, N = k + 1 := ⟨N - 1, by omega⟩
    have : sh_Reader_readJoined_L8 (N' + 1) (sh_GR (N' + 1) kk) (N' + 1) R x 0 h1 = some h1 := by
      unfold sh_Reader_readJoined_L8
      by_cases c9 : h1 67 4 ≤ 0
      · rw [if_pos c9]
      · rw [if_neg c9, if_neg hne]
    rw [this]
    rfl
  | inr q =>
    obtain ⟨p', l'⟩ := q
    rw [hr] at q2 hgs
    obtain ⟨h2, r1, r2, r3⟩ := hlp len N 0 p' c l' h1 (by omega) (by omega) q2.1 (by have := hgs.1; omega) hgs.2.1 q2.2
    refine ⟨h2, ?_, r2, q3.trans r3 (by omega)⟩
    exact congrArg (fun o => zb1 o fun h33 => some ((0 : Int), h33)) r1
