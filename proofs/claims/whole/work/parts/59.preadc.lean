/-! PURE: text, the class reads a clause's codes -/
theorem zoneU_34 {b : zFn} {len : Nat} {cl : Int} (d p : Nat) (h : zco b len p = 34) : zone b len cl d p = if znu b len p ≤ 9999 then .inr (zne b len p, [znu b len p]) else .inl (2, zPl2 b len p) := by
  cases d <;> (unfold zone; rw [if_pos h])
theorem zoneU_nm {b : zFn} {len : Nat} {cl : Int} (d p : Nat) (h : 0 ≤ zco b len p ∧ zco b len p < 11) : zone b len cl d p = if zNok cl (zco b len p) = true then .inr (zne b len p, [10000 + zco b len p]) else .inl (5, zPl2 b len p) := by
  cases d <;> (unfold zone; rw [if_neg (by omega), if_pos h])
theorem zoneU_el {b : zFn} {len : Nat} {cl : Int} (d p : Nat) (h1 : zco b len p ≠ 34) (h2 : ¬ (0 ≤ zco b len p ∧ zco b len p < 11)) (h3 : zco b len p ≠ 25) (h4 : zco b len p ≠ 28) : zone b len cl d p = .inl (1, zPl2 b len p) := by
  cases d <;> (unfold zone; rw [if_neg h1, if_neg h2, if_neg h3, if_neg h4])
theorem zoneU_0 {b : zFn} {len : Nat} {cl : Int} (p : Nat) (h : zco b len p = 25 ∨ zco b len p = 28) : zone b len cl 0 p = .inl (3, zPl2 b len p) := by
  unfold zone
  rw [if_neg (by omega), if_neg (by omega)]
  by_cases c : zco b len p = 25
  · rw [if_pos c]
  · rw [if_neg c, if_pos (h.resolve_left c)]
theorem zoneU_m {b : zFn} {len : Nat} {cl : Int} (d p : Nat) (h : zco b len p = 25) : zone b len cl (d + 1) p = match zone b len cl d (zne b len p) with
      | .inl e => .inl e
      | .inr (p', l) => .inr (p', l ++ [20033]) := by
  conv => enter [1]; unfold zone
  rw [if_neg (by omega), if_neg (by omega), if_pos h]
  cases zone b len cl d (zne b len p) with
  | inl e => rfl
  | inr q => rfl
theorem zoneU_p {b : zFn} {len : Nat} {cl : Int} (d p : Nat) (h : zco b len p = 28) : zone b len cl (d + 1) p = match zsmR b len (zone b len cl d) (zne b len p) with
      | .inl e => .inl e
      | .inr (p', l) => if zco b len p' = 29 then .inr (zne b len p', l) else .inl (1, zPl2 b len p') := by
  conv => enter [1]; unfold zone
  rw [if_neg (by omega), if_neg (by omega), if_neg (by omega), if_pos h]
  cases zsmR b len (zone b len cl d) (zne b len p) with
  | inl e => rfl
  | inr q => rfl
theorem zisN {cl k : Int} (h : 0 ≤ k ∧ k < 11) : (sh_Reader_isNameOf cl k = 0) = ¬ (zNok cl k = true) := by
  apply propext
  unfold sh_Reader_isNameOf zNok
  by_cases c4 : cl = 4
  · rw [if_pos c4, if_pos c4, decide_eq_true_iff]
    repeat' split
    all_goals constructor <;> intro q <;> omega
  · rw [if_neg c4, if_neg c4]
    by_cases c3 : cl = 3
    · rw [if_pos c3, if_pos c3, decide_eq_true_iff]
      repeat' split
      all_goals constructor <;> intro q <;> omega
    · rw [if_neg c3, if_neg c3, decide_eq_true_iff]
      repeat' split
      all_goals constructor <;> intro q <;> omega
theorem zjn4 (k : Int) : (sh_Reader_joins 4 k = 0) = ¬ (zJ2 k = true) := by
  apply propext
  unfold sh_Reader_joins zJ2
  rw [decide_eq_true_iff]
  simp only [Int.reduceEq, if_false]
  repeat' split
  all_goals constructor <;> intro q <;> omega
theorem zjn3 (k : Int) : (sh_Reader_joins 3 k = 0) = ¬ (zJ3 k = true) := by
  apply propext
  unfold sh_Reader_joins zJ3
  rw [decide_eq_true_iff]
  simp only [Int.reduceEq, if_false, if_true]
  repeat' split
  all_goals constructor <;> intro q <;> omega
theorem zjn1 (k : Int) : (sh_Reader_joins 1 k = 0) = ¬ (zJ1 k = true) := by
  apply propext
  unfold sh_Reader_joins zJ1
  rw [decide_eq_true_iff]
  simp only [Int.reduceEq, if_false, if_true]
  repeat' split
  all_goals constructor <;> intro q <;> omega
theorem zjn0 (k : Int) : (sh_Reader_joins 0 k = 0) = ¬ (zJ0 k = true) := by
  apply propext
  unfold sh_Reader_joins zJ0
  rw [decide_eq_true_iff]
  simp only [if_true]
  repeat' split
  all_goals constructor <;> intro q <;> omega
theorem zGd_s {N kk : Nat} {x : Int} {O : Nat → zR} {b : zFn} {len t : Nat} {cl : Int} (hN : 1300 ≤ N) (hl : len ≤ 300) (ht : t ≤ 3) (hkk : kk ≤ 120) (hg : ∀ p, p ≤ len → zRG2 len p (O p)) (G : zGd kk (sh_GR N kk 3 [x]) O b len t cl) : zGd (kk + 5) (sh_GR N (kk + 5) 0 [3, x]) (zsmR b len O) b len t cl := by
  have g1 := zGd_5 (N := N) G
  have g2 := zGd_j (R := 4) hN hl ht (by omega) (by decide) zjn4 (by decide) hg g1
  have g3 := zGd_r g2 (by decide) (by decide)
  have g4 := zGd_j (R := 3) hN hl ht (by omega) (by decide) zjn3 (by decide) (fun p hp => zjn_g (by decide) hg p hp) g3
  exact zGd_r g4 (by decide) (by decide)
/-- behind a readOpened: its own step and what is opened -/
theorem zGd_o {N kk d : Nat} {R : Int} {sub : Nat → zR} {b : zFn} {len t : Nat} {cl : Int} (hN : 1300 ≤ N) (hl : len ≤ 300) (hd : d < 8) (G : zGd kk (sh_GR N kk 0 [R, 8 - (d : Int)]) sub b len t cl) : ∀ (p c : Nat) (h : zHp), zCS h b len t cl p c → c ≤ p → p ≤ len → zco b len p ≠ 35 → ∃ h1, sh_GR N (kk + 1) 4 [R, 8 - ((d + 1 : Nat) : Int)] h = some (0, h1) ∧ zPost kk h1 b len t cl c (sub (zne b len p)) ∧ zFC t c h h1 := by
  intro p c h S hc hp hk
  have hb := zne_b (b := b) (len := len) hp
  have hlt := zco_ne (b := b) (len := len) hp hk
  obtain ⟨h1, q1, q2, q3, q4⟩ := zCS_stp hN hl hp S
  obtain ⟨h2, r1, r2, r3⟩ := G (zne b len p) c h1 q2 (by omega) hb.2.1
  refine ⟨h2, ?_, r2, q3.trans r3 (Nat.le_refl _)⟩
  show sh_b_Reader_readOpened N (sh_GR N kk) R (8 - ((d + 1 : Nat) : Int)) h = _
  unfold sh_b_Reader_readOpened
  rw [if_pos (by omega), q1]
  simp only [zb1_some]
  rw [show w32 (8 - ((d + 1 : Nat) : Int) + 1) = 8 - (d : Int) by rw [w32_s (by omega) (by omega)]; omega, r1]
  rfl
theorem zg_oneB {N kk d : Nat} {x : Int} {b : zFn} {len t : Nat} {cl : Int} {p c : Nat} {h : zHp} (hN : 1300 ≤ N) (hl : len ≤ 300) (ht : t ≤ 3) (hkk : kk ≤ 120) (S : zCS h b len t cl p c) (hc : c ≤ p) (hp : p ≤ len)
    (hM : zco b len p = 25 → ∃ rM h1, sh_GR N kk 4 [5, x] h = some (0, h1) ∧ zPost kk h1 b len t cl c rM ∧ zFC t c h h1 ∧ zRG2 len (zne b len p) rM ∧ zone b len cl d p = match rM with
      | .inl e => .inl e
      | .inr (p', l) => .inr (p', l ++ [20033]))
    (hP : zco b len p = 28 → ∃ rM h1, sh_GR N kk 4 [3, x] h = some (0, h1) ∧ zPost kk h1 b len t cl c rM ∧ zFC t c h h1 ∧ zRG2 len (zne b len p) rM ∧ zone b len cl d p = match rM with
      | .inl e => .inl e
      | .inr (p', l) => if zco b len p' = 29 then .inr (zne b len p', l) else .inl (1, zPl2 b len p')) :
    ∃ h1, sh_GR N (kk + 1) 3 [x] h = some (0, h1) ∧ zPost (kk + 1) h1 b len t cl c (zone b len cl d p) ∧ zFC t c h h1 := by
  have hb := zne_b (b := b) (len := len) hp
  have hkr := zco_r (b := b) (len := len) (p := p)
  have hS := S
  obtain ⟨⟨s1, s2, s3, s4⟩, s5, s6, s7, s8, s9, s10⟩ := hS
  show ∃ h1, sh_b_Reader_readOne N (sh_GR N kk) x h = _ ∧ _
  unfold sh_b_Reader_readOne
  rw [s9]
  by_cases c1 : zco b len p = 34
  · have hlt := zco_ne (b := b) (len := len) hp (by omega)
    rw [if_pos c1, zoneU_34 d p c1]
    unfold sh_Reader_readNumber
    rw [s10.1 c1]
    by_cases c2 : znu b len p ≤ 9999
    · rw [if_pos c2, if_pos c2]
      obtain ⟨h1, q1, q2, q3, q4⟩ := zCS_emt (znu b len p) ht (by omega) S
      rw [q1]
      obtain ⟨h2, r1, r2, r3, r4⟩ := zCS_stp hN hl hp q2
      rw [r1]
      refine ⟨h2, rfl, ⟨r2, fun i v hi => ?_⟩, q3.trans r3 (by omega)⟩
      have : i = 0 := by
        have := (List.getElem?_eq_some_iff.mp hi).1
        simp only [List.length_cons, List.length_nil] at this
        omega
      subst this
      rw [r4, ← Option.some.inj hi]
      exact q4
    · rw [if_neg c2, if_neg c2]
      obtain ⟨h1, f1, f2, f3⟩ := zfai_c (kk + 1) 2 hp (by omega) S
      rw [f1]
      exact ⟨h1, rfl, f2, f3⟩
  rw [if_neg c1, if_neg (c := zco b len p < 0) (by omega)]
  by_cases c3 : 11 ≤ zco b len p
  · rw [if_pos c3]
    by_cases c4 : zco b len p = 25
    · have hlt := zco_ne (b := b) (len := len) hp (by omega)
      rw [if_pos c4]
      obtain ⟨rM, h1, q1, q2, q3, q4, q5⟩ := hM c4
      rw [q1, q5]
      simp only [zb2_some]
      cases rM with
      | inl e =>
        obtain ⟨h2, f1, f2, f3⟩ := zemf_c (h1 := h1) 20033 ht (by omega) (by rw [q3.2.2.2.1]; exact s3) q2
        rw [f1]
        exact ⟨h2, rfl, f2, q3.trans f3 (Nat.le_refl _)⟩
      | inr q =>
        obtain ⟨p', l⟩ := q
        obtain ⟨g1, g2, g3⟩ := q4
        obtain ⟨h2, f1, f2, f3, f4⟩ := zCS_emt 20033 ht (by omega) q2.1
        rw [f1]
        refine ⟨h2, rfl, ⟨?_, fun i v hi => ?_⟩, q3.trans f3 (by omega)⟩
        · rw [List.length_append]; exact f2
        · by_cases j1 : i < l.length
          · rw [List.getElem?_append_left j1] at hi
            rw [f3.2.1 _ (by omega)]
            exact q2.2 i v hi
          · rw [List.getElem?_append_right (by omega)] at hi
            have j3 : i - l.length = 0 := by
              have := (List.getElem?_eq_some_iff.mp hi).1
              simp only [List.length_cons, List.length_nil] at this
              omega
            rw [j3] at hi
            rw [← Option.some.inj hi, show 300 * t + c + i = 300 * t + (c + l.length) by omega]
            exact f4
    rw [if_neg c4]
    by_cases c5 : zco b len p = 28
    · have hlt := zco_ne (b := b) (len := len) hp (by omega)
      rw [if_pos c5]
      obtain ⟨rM, h1, q1, q2, q3, q4, q5⟩ := hP c5
      rw [q1, q5]
      simp only [zb2_some]
      unfold sh_Reader_close
      cases rM with
      | inl e =>
        obtain ⟨p1, p2, p3, p4, m, p5, p6⟩ := q2
        by_cases c6 : h1 67 10 = 29
        · rw [if_pos c6]
          obtain ⟨h2, f1, f2, f3, f4, f5, f6⟩ := zstp_c (h := h1) hN hl p5 rfl (by rw [q3.2.2.1]; exact s2) p6
          rw [f1]
          have hb2 := zne_b (b := h1 25) (len := len) p5
          refine ⟨h2, rfl, ⟨?_, ?_, ?_, ?_, _, hb2.2.1, f3⟩, q3.trans (zFC_67 f6) (Nat.le_refl _)⟩
          · rw [f6.2 2 (by decide)]; exact p1
          · rw [f6.2 3 (by decide)]; exact p2
          · rw [f6.2 7 (by decide)]; exact p3
          · rw [f6.2 7 (by decide)]; omega
        · rw [if_neg c6]
          have hne : h1 67 2 ≠ 0 := by
            have := q4.1
            rw [p1]
            omega
          have : sh_Reader_fail 1 h1 = h1 := by unfold sh_Reader_fail; rw [if_neg hne]
          rw [this]
          exact ⟨h1, rfl, ⟨p1, p2, p3, by omega, m, p5, p6⟩, q3⟩
      | inr q =>
        obtain ⟨p', l⟩ := q
        obtain ⟨g1, g2, g3⟩ := q4
        obtain ⟨q6, q7⟩ := q2
        rw [q6.2.2.2.2.2.1]
        show ∃ h1_1, _ ∧ zPost (kk + 1) h1_1 b len t cl c (if zco b len p' = 29 then .inr (zne b len p', l) else .inl (1, zPl2 b len p')) ∧ _
        by_cases c6 : zco b len p' = 29
        · rw [if_pos c6, if_pos c6]
          obtain ⟨h2, r1, r2, r3, r4⟩ := zCS_stp hN hl g2 q6
          rw [r1]
          exact ⟨h2, rfl, ⟨r2, fun i v hi => by rw [r4]; exact q7 i v hi⟩, q3.trans r3 (by omega)⟩
        · rw [if_neg c6, if_neg c6]
          obtain ⟨h2, f1, f2, f3⟩ := zfai_c (kk + 1) 1 g2 (by omega) q6
          rw [f1]
          exact ⟨h2, rfl, ⟨f2.1, f2.2.1, by have := f2.2.2.1; omega, f2.2.2.2⟩, q3.trans f3 (by omega)⟩
    rw [if_neg c5, zoneU_el d p c1 (by omega) c4 c5]
    obtain ⟨h1, f1, f2, f3⟩ := zfai_c (kk + 1) 1 hp (by omega) S
    rw [f1]
    exact ⟨h1, rfl, f2, f3⟩
  · have hlt := zco_ne (b := b) (len := len) hp (by omega)
    rw [if_neg c3, zoneU_nm d p (by omega)]
    unfold sh_Reader_readName
    rw [s4, s9]
    simp only [zisN (cl := cl) (k := zco b len p) (by omega)]
    by_cases c2 : zNok cl (zco b len p) = true
    · rw [if_neg (fun q => q c2), if_pos c2, w32_s (by omega) (by omega)]
      obtain ⟨h1, q1, q2, q3, q4⟩ := zCS_emt (10000 + zco b len p) ht (by omega) S
      rw [q1]
      obtain ⟨h2, r1, r2, r3, r4⟩ := zCS_stp hN hl hp q2
      rw [r1]
      refine ⟨h2, rfl, ⟨r2, fun i v hi => ?_⟩, q3.trans r3 (by omega)⟩
      have : i = 0 := by
        have := (List.getElem?_eq_some_iff.mp hi).1
        simp only [List.length_cons, List.length_nil] at this
        omega
      subst this
      rw [r4, ← Option.some.inj hi]
      exact q4
    · rw [if_pos c2, if_neg c2]
      obtain ⟨h1, f1, f2, f3⟩ := zfai_c (kk + 1) 5 hp (by omega) S
      rw [f1]
      exact ⟨h1, rfl, f2, f3⟩
theorem zg_opn0 {N kk : Nat} {R : Int} {b : zFn} {len t : Nat} {cl : Int} {p c : Nat} {h : zHp} (hp : p ≤ len) (hc : c ≤ 300) (S : zCS h b len t cl p c) : ∃ h1, sh_GR N (kk + 1) 4 [R, 8 - ((0 : Nat) : Int)] h = some (0, h1) ∧ zPost (kk + 1) h1 b len t cl c (.inl (3, zPl2 b len p)) ∧ zFC t c h h1 := by
  obtain ⟨h1, f1, f2, f3⟩ := zfai_c (kk + 1) 3 hp hc S
  refine ⟨h1, ?_, f2, f3⟩
  show sh_b_Reader_readOpened N (sh_GR N kk) R (8 - ((0 : Nat) : Int)) h = _
  unfold sh_b_Reader_readOpened
  rw [if_neg (by decide), f1]
theorem zg_one {N : Nat} {b : zFn} {len t : Nat} {cl : Int} (hN : 1300 ≤ N) (hl : len ≤ 300) (ht : t ≤ 3) : ∀ (d kk : Nat), d ≤ 8 → 7 * d + 2 ≤ kk → kk ≤ 100 → zGd kk (sh_GR N kk 3 [8 - (d : Int)]) (zone b len cl d) b len t cl := by
  intro d
  induction d with
  | zero =>
    intro kk hd hk hk2 p c h S hc hp
    obtain ⟨kk, rfl⟩ : ∃ m, kk = m + 2 := ⟨kk - 2, by omega⟩
    have hb := zne_b (b := b) (len := len) hp
    refine zg_oneB hN hl ht (by omega) S hc hp (fun q => ?_) (fun q => ?_)
    · obtain ⟨h1, f1, f2, f3⟩ := zg_opn0 (N := N) (kk := kk) (R := 5) hp (by omega) S
      exact ⟨.inl (3, zPl2 b len p), h1, f1, f2, f3, ⟨by decide, hb.2.2.1⟩, zoneU_0 p (Or.inl q)⟩
    · obtain ⟨h1, f1, f2, f3⟩ := zg_opn0 (N := N) (kk := kk) (R := 3) hp (by omega) S
      exact ⟨.inl (3, zPl2 b len p), h1, f1, f2, f3, ⟨by decide, hb.2.2.1⟩, zoneU_0 p (Or.inr q)⟩
  | succ d ih =>
    intro kk hd hk hk2 p c h S hc hp
    obtain ⟨kk, rfl⟩ : ∃ m, kk = m + 9 := ⟨kk - 9, by omega⟩
    have hb := zne_b (b := b) (len := len) hp
    refine zg_oneB hN hl ht (by omega) S hc hp (fun q => ?_) (fun q => ?_)
    · obtain ⟨h1, f1, f2, f3⟩ := zGd_o hN hl (by omega) (zGd_5 (N := N) (ih (kk + 6) (by omega) (by omega) (by omega))) p c h S hc hp (by omega)
      exact ⟨_, h1, f1, zPost_m f2 (by omega), f3, zone_g d _ hb.2.1, zoneU_m d p q⟩
    · obtain ⟨h1, f1, f2, f3⟩ := zGd_o hN hl (by omega) (zGd_s (N := N) hN hl ht (by omega) (zone_g d) (ih (kk + 2) (by omega) (by omega) (by omega))) p c h S hc hp (by omega)
      exact ⟨_, h1, f1, zPost_m f2 (by omega), f3, zsm_g d _ hb.2.1, zoneU_p d p q⟩
theorem zcpn_z {k : Int} : (sh_Reader_isComparison k = 0) = ¬ (zcpn k = true) := by
  apply propext
  unfold sh_Reader_isComparison zcpn
  rw [decide_eq_true_iff]
  repeat' split
  all_goals constructor <;> intro q <;> omega
theorem zg_ask1 {N : Nat} {b : zFn} {len t : Nat} {cl : Int} (hN : 1300 ≤ N) (hl : len ≤ 300) (ht : t ≤ 3) (d kk : Nat) (hd : d ≤ 8) (hk : 7 * d + 7 ≤ kk) (hk2 : kk ≤ 95) {p c : Nat} {h : zHp} (S : zCS h b len t cl p c) (hc : c ≤ p) (hp : p ≤ len) (h18 : zco b len p ≠ 18) :
    ∃ h1, sh_GR N (kk + 1) 2 [8 - (d : Int)] h = some (0, h1) ∧ zPost (kk + 1) h1 b len t cl c (zask1 b len cl d p) ∧ zFC t c h h1 := by
  obtain ⟨kk, rfl⟩ : ∃ m, kk = m + 5 := ⟨kk - 5, by omega⟩
  have G := zGd_s (N := N) (b := b) (cl := cl) hN hl ht (by omega) (zone_g d) (zg_one (b := b) (cl := cl) hN hl ht d kk hd (by omega) (by omega))
  obtain ⟨h1, q1, q2, q3⟩ := G p c h S hc hp
  have hgs := zsm_g (b := b) (len := len) (cl := cl) d p hp
  show ∃ h2, sh_b_Reader_readAsk N (sh_GR N (kk + 5)) (8 - (d : Int)) h = _ ∧ _
  unfold sh_b_Reader_readAsk zask1
  rw [S.2.2.2.2.2.1, if_neg h18, q1]
  simp only [zb2_some]
  cases hr : zsmR b len (zone b len cl d) p with
  | inl e =>
    rw [hr] at q2 hgs
    have hne : h1 67 2 ≠ 0 := by
      have := hgs.1
      rw [q2.1]
      omega
    have : sh_Reader_fail 1 h1 = h1 := by unfold sh_Reader_fail; rw [if_neg hne]
    rw [if_neg hne, this]
    exact ⟨h1, rfl, zPost_m q2 (by omega), q3⟩
  | inr q =>
    obtain ⟨p1, l1⟩ := q
    rw [hr] at q2 hgs
    obtain ⟨q5, q6⟩ := q2
    obtain ⟨g1, g2, g3⟩ := hgs
    rw [if_pos q5.2.1, q5.2.2.2.2.2.1]
    simp only [zcpn_z]
    by_cases c1 : zcpn (zco b len p1) = true
    case neg =>
      rw [if_pos c1, if_neg c1]
      obtain ⟨h2, f1, f2, f3⟩ := zfai_c (kk + 5 + 1) 1 g2 (by omega) q5
      rw [f1]
      exact ⟨h2, rfl, ⟨f2.1, f2.2.1, by have := f2.2.2.1; omega, f2.2.2.2⟩, q3.trans f3 (by omega)⟩
    rw [if_neg (fun q => q c1), if_pos c1]
    have hk : zco b len p1 ≠ 35 := fun q => by rw [q] at c1; exact absurd c1 (by decide)
    have hkr := zco_r (b := b) (len := len) (p := p1)
    have hlt := zco_ne (b := b) (len := len) g2 hk
    have hb := zne_b (b := b) (len := len) g2
    obtain ⟨h2, r1, r2, r3, r4⟩ := zCS_stp hN hl g2 q5
    obtain ⟨h3, s1, s2, s3⟩ := G (zne b len p1) (c + l1.length) h2 r2 (by omega) hb.2.1
    have hgs2 := zsm_g (b := b) (len := len) (cl := cl) d (zne b len p1) hb.2.1
    have e20 : w32 (20000 + zco b len p1) = 20000 + zco b len p1 := w32_s (by omega) (by omega)
    have f3 : zFC t c h h3 := (q3.trans r3 (by omega)).trans s3 (by omega)
    rw [r1]
    simp only [zb1_some]
    rw [s1]
    simp only [zb2_some]
    rw [e20]
    cases hr2 : zsmR b len (zone b len cl d) (zne b len p1) with
    | inl e =>
      rw [hr2] at s2 hgs2
      obtain ⟨h4, u1, u2, u3⟩ := zemf_c (h1 := h3) (20000 + zco b len p1) ht (by omega) (by rw [f3.2.2.2.1]; exact S.1.2.2.1) s2
      rw [u1]
      exact ⟨h4, rfl, ⟨u2.1, u2.2.1, by have := u2.2.2.1; omega, u2.2.2.2.1, u2.2.2.2.2⟩, f3.trans u3 (by omega)⟩
    | inr q =>
      obtain ⟨p2, l2⟩ := q
      rw [hr2] at s2 hgs2
      obtain ⟨s5, s6⟩ := s2
      obtain ⟨g4, g5, g6⟩ := hgs2
      obtain ⟨h4, u1, u2, u3, u4⟩ := zCS_emt (20000 + zco b len p1) ht (by omega) s5
      rw [u1]
      refine ⟨h4, rfl, ⟨?_, fun j v hj => ?_⟩, f3.trans u3 (by omega)⟩
      · rw [show c + (l1 ++ (l2 ++ [20000 + zco b len p1])).length = c + l1.length + l2.length + 1 by simp only [List.length_append, List.length_cons, List.length_nil]; omega]
        exact u2
      · by_cases j1 : j < l1.length
        · rw [List.getElem?_append_left j1] at hj
          rw [u3.2.1 _ (by omega), s3.2.1 _ (by omega), r4]
          exact q6 j v hj
        · rw [List.getElem?_append_right (by omega)] at hj
          by_cases j2 : j - l1.length < l2.length
          · rw [List.getElem?_append_left j2] at hj
            rw [u3.2.1 _ (by omega)]
            have := s6 (j - l1.length) v hj
            rw [show 300 * t + c + j = 300 * t + (c + l1.length) + (j - l1.length) by omega]
            exact this
          · rw [List.getElem?_append_right (by omega)] at hj
            have j3 : j - l1.length - l2.length = 0 := by
              have := (List.getElem?_eq_some_iff.mp hj).1
              simp only [List.length_cons, List.length_nil] at this
              omega
            rw [j3] at hj
            rw [← Option.some.inj hj, show 300 * t + c + j = 300 * t + (c + l1.length + l2.length) by omega]
            exact u4
theorem zg_ask {N : Nat} {b : zFn} {len t : Nat} {cl : Int} (hN : 1300 ≤ N) (hl : len ≤ 300) (ht : t ≤ 3) : ∀ (d kk : Nat), d ≤ 8 → 7 * d + 8 ≤ kk → kk ≤ 96 → zGd kk (sh_GR N kk 2 [8 - (d : Int)]) (zask b len cl d) b len t cl := by
  intro d
  induction d with
  | zero =>
    intro kk hd hk hk2 p c h S hc hp
    obtain ⟨kk, rfl⟩ : ∃ m, kk = m + 2 := ⟨kk - 2, by omega⟩
    have hb := zne_b (b := b) (len := len) hp
    by_cases c18 : zco b len p = 18
    · obtain ⟨h1, f1, f2, f3⟩ := zg_opn0 (N := N) (kk := kk) (R := 2) hp (by omega) S
      obtain ⟨h2, u1, u2, u3⟩ := zemf_c (h1 := h1) 20018 ht (by omega) (by rw [f3.2.2.2.1]; exact S.1.2.2.1) f2
      refine ⟨h2, ?_, ?_, f3.trans u3 (Nat.le_refl _)⟩
      · show sh_b_Reader_readAsk N (sh_GR N (kk + 1)) (8 - ((0 : Nat) : Int)) h = _
        unfold sh_b_Reader_readAsk
        rw [S.2.2.2.2.2.1, if_pos c18, f1]
        simp only [zb2_some]
        rw [u1]
      · unfold zask
        rw [if_pos c18]
        exact u2
    · obtain ⟨h1, f1, f2, f3⟩ := zg_ask1 (cl := cl) hN hl ht 0 (kk + 1) (by omega) (by omega) (by omega) S hc hp c18
      refine ⟨h1, f1, ?_, f3⟩
      unfold zask
      rw [if_neg c18]
      exact f2
  | succ d ih =>
    intro kk hd hk hk2 p c h S hc hp
    obtain ⟨kk, rfl⟩ : ∃ m, kk = m + 3 := ⟨kk - 3, by omega⟩
    have hb := zne_b (b := b) (len := len) hp
    by_cases c18 : zco b len p = 18
    · have hlt := zco_ne (b := b) (len := len) hp (by omega)
      obtain ⟨h1, f1, f2, f3⟩ := zGd_o hN hl (by omega) (zGd_2 (N := N) (ih kk (by omega) (by omega) (by omega))) p c h S hc hp (by omega)
      have hgs := zask_g (b := b) (len := len) (cl := cl) d (zne b len p) hb.2.1
      show ∃ h1, sh_b_Reader_readAsk N (sh_GR N (kk + 2)) (8 - ((d + 1 : Nat) : Int)) h = _ ∧ _
      unfold sh_b_Reader_readAsk zask
      rw [S.2.2.2.2.2.1, if_pos c18, if_pos c18, f1]
      simp only [zb2_some]
      cases hr : zask b len cl d (zne b len p) with
      | inl e =>
        rw [hr] at f2
        obtain ⟨h2, u1, u2, u3⟩ := zemf_c (h1 := h1) 20018 ht (by omega) (by rw [f3.2.2.2.1]; exact S.1.2.2.1) f2
        rw [u1]
        exact ⟨h2, rfl, zPost_m u2 (by omega), f3.trans u3 (Nat.le_refl _)⟩
      | inr q =>
        obtain ⟨p', l⟩ := q
        rw [hr] at f2 hgs
        obtain ⟨g1, g2, g3⟩ := hgs
        obtain ⟨h2, u1, u2, u3, u4⟩ := zCS_emt 20018 ht (by omega) f2.1
        rw [u1]
        refine ⟨h2, rfl, ⟨?_, fun i v hi => ?_⟩, f3.trans u3 (by omega)⟩
        · rw [List.length_append]; exact u2
        · by_cases j1 : i < l.length
          · rw [List.getElem?_append_left j1] at hi
            rw [u3.2.1 _ (by omega)]
            exact f2.2 i v hi
          · rw [List.getElem?_append_right (by omega)] at hi
            have j3 : i - l.length = 0 := by
              have := (List.getElem?_eq_some_iff.mp hi).1
              simp only [List.length_cons, List.length_nil] at this
              omega
            rw [j3] at hi
            rw [← Option.some.inj hi, show 300 * t + c + i = 300 * t + (c + l.length) by omega]
            exact u4
    · obtain ⟨h1, f1, f2, f3⟩ := zg_ask1 (cl := cl) hN hl ht (d + 1) (kk + 2) (by omega) (by omega) (by omega) S hc hp c18
      refine ⟨h1, f1, ?_, f3⟩
      unfold zask
      rw [if_neg c18]
      exact f2
theorem zg_eit {N : Nat} {b : zFn} {len t : Nat} {cl : Int} (hN : 1300 ≤ N) (hl : len ≤ 300) (ht : t ≤ 3) : zGd 100 (sh_GR N 100 0 [0, 0]) (zeit b len cl) b len t cl := by
  have g0 := zg_ask (N := N) (b := b) (cl := cl) hN hl ht 8 95 (by decide) (by decide) (by decide)
  have g1 := zGd_2 (N := N) (x := 0) g0
  have g2 := zGd_j (R := 1) hN hl ht (by decide) (by decide) zjn1 (by decide) (zask_g 8) g1
  have g3 := zGd_r g2 (by decide) (by decide)
  have g4 := zGd_j (R := 0) hN hl ht (by decide) (by decide) zjn0 (by decide) zbth_g g3
  exact zGd_r g4 (by decide) (by decide)
theorem zg_sum {N : Nat} {b : zFn} {len t : Nat} {cl : Int} (hN : 1300 ≤ N) (hl : len ≤ 300) (ht : t ≤ 3) : zGd 100 (sh_GR N 100 0 [3, 0]) (zsmR b len (zone b len cl 8)) b len t cl := by
  have g := zGd_s (N := N) (b := b) (cl := cl) hN hl ht (by decide) (zone_g 8) (zg_one (b := b) (cl := cl) hN hl ht 8 95 (by decide) (by decide) (by decide))
  exact g
