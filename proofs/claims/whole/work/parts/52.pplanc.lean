/-! PURE: plan, the class -/
def zdq (a : zFn) (T : Nat → Nat → List Int) (q : Nat) (f p : Nat) : Int := zdn a T (p / 10) (p % 10) f (zst2 a T (p / 10) (p % 10) f q)
theorem zdn_b {a : zFn} {T : Nat → Nat → List Int} {o m l q : Nat} (hf : 0 ≤ a (28 + 4 * l) ∧ a (28 + 4 * l) ≤ 99) : 0 ≤ zdn a T o m l q ∧ zdn a T o m l q ≤ 99 := by
  have := zsm_b (W := zWq a T o m l) (fun k => zWk_b) q 0 0
  unfold zdn zmin
  split <;> omega
/-- bounded, also where no field is -/
def zdF (a : zFn) (T : Nat → Nat → List Int) (q : Nat) (f p : Nat) : Int := if f < 4 then zdq a T q f p else 0
theorem zdF_b {a : zFn} {T : Nat → Nat → List Int} {q : Nat} (hk : zOk a) (f p : Nat) : 0 ≤ zdF a T q f p ∧ zdF a T q f p ≤ 99 := by
  unfold zdF
  split
  · rename_i h
    exact zdn_b (hk.2.2.1 f h).2.2.2
  · omega
def zD7 (h : zHp) (dn : Nat → Nat → Int) (D f i j : Nat) : Prop := ∀ f' i' j', i' < j' → j' < D → (f' < f ∨ f' = f ∧ (i' < i ∨ i' = i ∧ j' < j)) → h 70 (100 * f' + (10 * i' + j')) = dn f' (10 * i' + j')
theorem zmp_12 {a : zFn} {T : Nat → Nat → List Int} {N : Nat} (hN : 1300 ≤ N) {f q D i : Nat} (hD : a 2 = D) (hf : f < 4) (hq : q < 100) (hi : i < D) : ∀ (d n j : Nat) (h : zHp), zKc h a T → j + d = D → d < n → i < j → (∀ o, o < D → h 40 o = (zhT (zBq a T o f) q 0 : Int)) → zD7 h (zdF a T q) D f i j →
    ∃ h1, sh_Planner_measurePairs_L12 N n (f : Int) (i : Int) (j : Int) h = some ((f : Int), (i : Int), h1) ∧ zD7 h1 (zdF a T q) D f i D ∧ zFr [35, 37, 70] h h1 := by
  intro d
  induction d with
  | zero =>
    intro n j h K hj hn hij h40 hh
    obtain ⟨n, rfl⟩ : ∃ m, n = m + 1 := ⟨n - 1, by omega⟩
    obtain rfl : j = D := by omega
    have e0 : h 16 2 = a 2 := K.1.1.1.2.2.1
    refine ⟨h, ?_, hh, zFr.refl h⟩
    unfold sh_Planner_measurePairs_L12
    rw [oxen_s, e0, if_pos (by omega)]
  | succ d ih =>
    intro n j h K hj hn hij h40 hh
    obtain ⟨n, rfl⟩ : ∃ m, n = m + 1 := ⟨n - 1, by omega⟩
    have e0 : h 16 2 = a 2 := K.1.1.1.2.2.1
    have b2 := K.1.2.1.2.2.1
    have e1 : w32 ((j : Int) + 1) = ((j + 1 : Nat) : Int) := by rw [w32_s (by omega) (by omega)]; omega
    have hs := zst2_b (a := a) (T := T) (o := i) (m := j) (l := f) (q := q)
    obtain ⟨h1, p1, p2⟩ := zdone_c hN (o := i) (m := j) (l := f) (q := zst2 a T i j f q) (by omega) (by omega) hf (by omega) K
    have ed : zdF a T q f (10 * i + j) = zdn a T i j f (zst2 a T i j f q) := by
      unfold zdF zdq
      rw [if_pos hf, show (10 * i + j) / 10 = i by omega, show (10 * i + j) % 10 = j by omega]
    have ex : w32 (w32 (w32 ((f : Int) * 100) + w32 ((i : Int) * 10)) + (j : Int)) = ((100 * f + (10 * i + j) : Nat) : Int) := by
      rw [w32_s (a := (f : Int) * 100) (by omega) (by omega), w32_s (a := (i : Int) * 10) (by omega) (by omega), w32_s (a := (f : Int) * 100 + (i : Int) * 10) (by omega) (by omega), w32_s (by omega) (by omega)]; omega
    have f1 : zFr [35, 37, 70] h (zst h1 70 (100 * f + (10 * i + j)) (zdn a T i j f (zst2 a T i j f q))) := (p2.mono (by simp)).st (by decide)
    obtain ⟨h2, r1, r2, r3⟩ := ih n (j + 1) (zst h1 70 (100 * f + (10 * i + j)) (zdn a T i j f (zst2 a T i j f q))) (zKc_fr K f1 (by decide)) (by omega) (by omega) (by omega) (fun o ho => by rw [f1 40 (by decide)]; exact h40 o ho) (fun f' i' j' w1 w2 w3 => by
      rw [zst_if, if_pos rfl, zup1_if]
      by_cases e : 100 * f' + (10 * i' + j') = 100 * f + (10 * i + j)
      · obtain ⟨rfl, rfl, rfl⟩ : f' = f ∧ i' = i ∧ j' = j := by omega
        rw [if_pos rfl, ed]
      · rw [if_neg e, p2 70 (by decide)]
        exact hh f' i' j' w1 w2 (by omega))
    refine ⟨h2, ?_, r2, f1.trans r3⟩
    unfold sh_Planner_measurePairs_L12
    rw [oxen_s, e0, if_neg (c := a 2 ≤ (j : Int)) (by omega), zmd_c h40 hi (by omega) (by omega), p1]
    simp only [zb2_some]
    rw [e1, ex, rput_in (by omega) (by omega), Int.toNat_natCast]
    exact r1
theorem zmp_2 {a : zFn} {T : Nat → Nat → List Int} {N : Nat} (hN : 1300 ≤ N) {f q D : Nat} (hD : a 2 = D) (hf : f < 4) (hq : q < 100) : ∀ (d n i : Nat) (h : zHp), zKc h a T → i + d = D → d < n → (∀ o, o < D → h 40 o = (zhT (zBq a T o f) q 0 : Int)) → zD7 h (zdF a T q) D f i 0 →
    ∃ h1, sh_Planner_measurePairs_L2 N n (f : Int) (i : Int) h = some h1 ∧ zD7 h1 (zdF a T q) D (f + 1) 0 0 ∧ zFr [35, 37, 70] h h1 := by
  intro d
  induction d with
  | zero =>
    intro n i h K hi hn h40 hh
    obtain ⟨n, rfl⟩ : ∃ m, n = m + 1 := ⟨n - 1, by omega⟩
    have e0 : h 16 2 = a 2 := K.1.1.1.2.2.1
    refine ⟨h, ?_, fun f' i' j' w1 w2 w3 => hh f' i' j' w1 w2 (by omega), zFr.refl h⟩
    unfold sh_Planner_measurePairs_L2
    rw [oxen_s, e0, if_pos (by omega)]
  | succ d ih =>
    intro n i h K hi hn h40 hh
    obtain ⟨n, rfl⟩ : ∃ m, n = m + 1 := ⟨n - 1, by omega⟩
    have e0 : h 16 2 = a 2 := K.1.1.1.2.2.1
    have b2 := K.1.2.1.2.2.1
    have e1 : w32 ((i : Int) + 1) = ((i + 1 : Nat) : Int) := by rw [w32_s (by omega) (by omega)]; omega
    obtain ⟨h1, p1, p2, p3⟩ := zmp_12 (T := T) hN hD hf hq (i := i) (by omega) (D - (i + 1)) N (i + 1) h K (by omega) (by omega) (by omega) h40 (fun f' i' j' w1 w2 w3 => hh f' i' j' w1 w2 (by omega))
    obtain ⟨h2, r1, r2, r3⟩ := ih n (i + 1) h1 (zKc_fr K p3 (by decide)) (by omega) (by omega) (fun o ho => by rw [p3 40 (by decide)]; exact h40 o ho) (fun f' i' j' w1 w2 w3 => p2 f' i' j' w1 w2 (by omega))
    refine ⟨h2, ?_, r2, p3.trans r3⟩
    unfold sh_Planner_measurePairs_L2
    rw [oxen_s, e0, if_neg (c := a 2 ≤ (i : Int)) (by omega), e1, p1]
    simp only [zb3_some]
    rw [e1]
    exact r1
def zM1 (h : zHp) (f u : Nat) : Prop := ∀ f' u', u' < 256 → (f' < f ∨ f' = f ∧ u' < u) → h 72 (256 * f' + u') = -1
theorem zcl_72 {f : Nat} {x1 : Int} (N : Nat) (hf : f < 4) : ∀ (d n u : Nat) (h : zHp), u + d = 256 → d < n → zM1 h f u → ∃ h1, sh_Planner_search_L18 N n x1 (f : Int) (u : Int) h = some (x1, (f : Int), h1) ∧ zM1 h1 f 256 ∧ zFr [72] h h1 := by
  intro d
  induction d with
  | zero =>
    intro n u h hu hn hh
    obtain ⟨n, rfl⟩ : ∃ m, n = m + 1 := ⟨n - 1, by omega⟩
    obtain rfl : u = 256 := by omega
    refine ⟨h, ?_, hh, zFr.refl h⟩
    unfold sh_Planner_search_L18
    rw [if_pos (by omega)]
  | succ d ih =>
    intro n u h hu hn hh
    obtain ⟨n, rfl⟩ : ∃ m, n = m + 1 := ⟨n - 1, by omega⟩
    have e1 : w32 ((u : Int) + 1) = ((u + 1 : Nat) : Int) := by rw [w32_s (by omega) (by omega)]; omega
    have ex : w32 (w32 ((f : Int) * 256) + (u : Int)) = ((256 * f + u : Nat) : Int) := by rw [w32_s (a := (f : Int) * 256) (by omega) (by omega), w32_s (by omega) (by omega)]; omega
    have f1 : zFr [72] h (zst h 72 (256 * f + u) (-1)) := (zFr.refl h).st (by decide)
    obtain ⟨h2, r1, r2, r3⟩ := ih n (u + 1) (zst h 72 (256 * f + u) (-1)) (by omega) (by omega) (fun f' u' w1 w2 => by
      rw [zst_if, if_pos rfl, zup1_if]
      split
      · rfl
      · exact hh f' u' w1 (by omega))
    refine ⟨h2, ?_, r2, f1.trans r3⟩
    unfold sh_Planner_search_L18
    rw [if_neg (c := 256 ≤ (u : Int)) (by omega), e1, ex, rput_in (by omega) (by omega), Int.toNat_natCast]
    exact r1
theorem zsea_c {a : zFn} {T : Nat → Nat → List Int} {N : Nat} (hN : 1300 ≤ N) {q D F : Nat} (hD : a 2 = D) (hF : a 1 = F) (hq : q < 100) : ∀ (d n f : Nat) (h : zHp), zKc h a T → f + d = F → d < n → zD7 h (zdF a T q) D f 0 0 → zM1 h f 0 →
    ∃ h1, sh_Planner_search_L2 N n (q : Int) (f : Int) h = some h1 ∧ zD7 h1 (zdF a T q) D F 0 0 ∧ zM1 h1 F 0 ∧ zFr [33, 35, 37, 40, 70, 72] h h1 := by
  intro d
  induction d with
  | zero =>
    intro n f h K hf hn h7 h1
    obtain ⟨n, rfl⟩ : ∃ m, n = m + 1 := ⟨n - 1, by omega⟩
    obtain rfl : f = F := by omega
    have e1 : h 16 1 = a 1 := K.1.1.1.2.1
    refine ⟨h, ?_, h7, h1, zFr.refl h⟩
    unfold sh_Planner_search_L2
    rw [fields_s, e1, if_pos (by omega)]
  | succ d ih =>
    intro n f h K hf hn h7 h1
    obtain ⟨n, rfl⟩ : ∃ m, n = m + 1 := ⟨n - 1, by omega⟩
    have e1 : h 16 1 = a 1 := K.1.1.1.2.1
    have b1 := K.1.2.1.2.1
    have b2 := K.1.2.1.2.2.1
    have ef : w32 ((f : Int) + 1) = ((f + 1 : Nat) : Int) := by rw [w32_s (by omega) (by omega)]; omega
    obtain ⟨h2, p1, p2, p3⟩ := zmea_c hN (l := f) (q := q) hD (by omega) hq K
    obtain ⟨h3, q1, q2, q3⟩ := zmp_2 (T := T) hN hD (f := f) (by omega) hq D N 0 h2 (zKc_fr K p3 (by decide)) (by omega) (by omega) p2 (fun f' i' j' w1 w2 w3 => by rw [p3 70 (by decide)]; exact h7 f' i' j' w1 w2 (by omega))
    obtain ⟨h4, s1, s2, s3⟩ := zcl_72 (x1 := (q : Int)) N (f := f) (by omega) 256 N 0 h3 (by omega) (by omega) (fun f' u' w1 w2 => by rw [q3 72 (by decide), p3 72 (by decide)]; exact h1 f' u' w1 (by omega))
    have f4 : zFr [33, 35, 37, 40, 70, 72] h h4 := ((p3.mono (by simp)).trans (q3.mono (by simp))).trans (s3.mono (by simp))
    obtain ⟨h5, r1, r2, r3, r4⟩ := ih n (f + 1) h4 (zKc_fr K f4 (by decide)) (by omega) (by omega) (fun f' i' j' w1 w2 w3 => by rw [s3 70 (by decide)]; exact q2 f' i' j' w1 w2 w3) (fun f' u' w1 w2 => s2 f' u' w1 (by omega))
    refine ⟨h5, ?_, r2, r3, f4.trans r4⟩
    unfold sh_Planner_search_L2
    rw [fields_s, e1, if_neg (c := a 1 ≤ (f : Int)) (by omega), p1]
    simp only [zb1_some]
    unfold sh_Planner_measurePairs
    refine (congrArg (fun o => zb1 (zb1 o fun h31 => some h31) fun h17 => zb3 (sh_Planner_search_L18 N N (q : Int) (f : Int) 0 h17) fun y24 y25 h26 => sh_Planner_search_L2 N n y24 (w32 (y25 + 1)) h26) q1).trans ?_
    simp only [zb1_some]
    refine (congrArg (fun o => zb3 o fun y24 y25 h26 => sh_Planner_search_L2 N n y24 (w32 (y25 + 1)) h26) s1).trans ?_
    simp only [zb3_some]
    rw [ef]
    exact r1
/-- the pick c fields on -/
def zpp (dn : Nat → Nat → Int) (L : List Nat) (F : Nat) : Nat → Nat → Nat → Int
  | 0, f, u => (zyf dn L (F - f) f u).2
  | c + 1, f, u => zpp dn L F c (f + 1) (znx u (zyf dn L (F - f) f u).2)
theorem znx_b {dn : Nat → Nat → Int} {L : List Nat} {D : Nat} (hdn : ∀ f p, 0 ≤ dn f p ∧ dn f p ≤ 99) (hD : D ≤ 8) (hL : zpL D L) {r f u : Nat} (hu : u < 256) : znx u (zyf dn L r f u).2 < 256 := by
  have hq := (zyf_b (dn := dn) hdn hD hL r f u hu).2
  unfold znx
  rcases hq with hq | ⟨p, hq, hp1, hp2, hp3⟩
  · rw [if_pos hq]; exact hu
  · rw [hq, if_neg (by omega), Int.toNat_natCast]
    exact zbt_b hu (by omega) (by omega)
theorem znx_z {D u : Nat} {q : Int} (hu : u < 256) (hD : D ≤ 8) (hq : q = -1 ∨ ∃ p : Nat, q = p ∧ p / 10 < D ∧ p % 10 < D ∧ p < 80) : zor (u : Int) (if q = -1 then 0 else zor (zshl 1 (w32 (q.tdiv 10))) (zshl 1 (w32 (q.tmod 10))) : Int) = (znx u q : Int) := by
  unfold znx
  rcases hq with hq | ⟨p, hq, hp1, hp2, hp3⟩
  · rw [if_pos hq, if_pos hq]
    have := zor_8 u hu 0 (by decide)
    rw [Nat.or_zero] at this
    exact this
  · subst hq
    obtain ⟨d1, d2⟩ := zdm_s hp3
    rw [if_neg (by omega), if_neg (by omega), d1, d2, zbt_c (by omega) (by omega), zor_8 u hu _ (zbt_l (by omega) (by omega)), Int.toNat_natCast]
    rfl
theorem zfol_c {dn : Nat → Nat → Int} {D F : Nat} (N : Nat) (hdn : ∀ f p, 0 ≤ dn f p ∧ dn f p ≤ 99) (hD : D ≤ 8) (hF : F ≤ 4) : ∀ (d n f u : Nat) (h : zHp), f + d = F → d < n → u < 256 → h 16 1 = F → zMI h dn (zrp D 80 0) F 0 → (f < F → h 72 (256 * f + u) ≠ -1) →
    ∃ h1, sh_Planner_follow_L4 N n (u : Int) (f : Int) h = some h1 ∧ (∀ f', f ≤ f' → f' < F → h1 76 f' = zpp dn (zrp D 80 0) F (f' - f) f u) ∧ (∀ i, i < f → h1 76 i = h 76 i) ∧ zFr [76] h h1 := by
  intro d
  induction d with
  | zero =>
    intro n f u h hf hn hu h1 M hl
    obtain ⟨n, rfl⟩ : ∃ m, n = m + 1 := ⟨n - 1, by omega⟩
    refine ⟨h, ?_, fun f' w1 w2 => by omega, fun _ _ => rfl, zFr.refl h⟩
    unfold sh_Planner_follow_L4
    rw [fields_s, h1, if_pos (by omega)]
  | succ d ih =>
    intro n f u h hf hn hu h1 M hl
    obtain ⟨n, rfl⟩ : ∃ m, n = m + 1 := ⟨n - 1, by omega⟩
    have hL : zpL D (zrp D 80 0) := zrp_L 80 0 (by omega)
    have ef : w32 ((f : Int) + 1) = ((f + 1 : Nat) : Int) := by rw [w32_s (by omega) (by omega)]; omega
    have ex : w32 (w32 ((f : Int) * 256) + (u : Int)) = ((256 * f + u : Nat) : Int) := by rw [w32_s (a := (f : Int) * 256) (by omega) (by omega), w32_s (by omega) (by omega)]; omega
    rcases M f (Nat.zero_le _) (by omega) u hu with m | ⟨m1, m2, m3⟩
    · exact absurd m (hl (by omega))
    · have hq := (zyf_b (dn := dn) hdn hD hL (F - f) f u hu).2
      have hnx := znx_b hdn hD hL (r := F - f) (f := f) hu
      have f1 : zFr [76] h (zst h 76 f (zyf dn (zrp D 80 0) (F - f) f u).2) := (zFr.refl h).st (by decide)
      obtain ⟨h2, r1, r2, r3, r4⟩ := ih n (f + 1) (znx u (zyf dn (zrp D 80 0) (F - f) f u).2) (zst h 76 f (zyf dn (zrp D 80 0) (F - f) f u).2) (by omega) (by omega) hnx (by rw [f1 16 (by decide)]; exact h1) (fun f' w1 w2 u' w3 => by rw [f1 72 (by decide), f1 74 (by decide)]; exact M f' w1 w2 u' w3) (fun h9 => by rw [f1 72 (by decide)]; exact m3 h9)
      refine ⟨h2, ?_, fun f' w1 w2 => ?_, fun i hi => ?_, f1.trans r4⟩
      · unfold sh_Planner_follow_L4
        rw [fields_s, h1, if_neg (c := (F : Int) ≤ (f : Int)) (by omega), ex, rget_in (by omega) (by omega), Int.toNat_natCast, m2, znx_z hu hD hq, ef, rput_in (by omega) (by omega), Int.toNat_natCast]
        exact r1
      · by_cases e : f' = f
        · subst e
          rw [r3 f' (by omega), zst_if, if_pos rfl, zup1_eq, Nat.sub_self]
          rfl
        · rw [r2 f' (by omega) w2, show f' - f = (f' - (f + 1)) + 1 by omega]
          rfl
      · rw [r3 i (by omega), zst_if, if_pos rfl, zup1_ne _ _ (by omega)]
theorem zplan_c {h : zHp} {a : zFn} {T : Nat → Nat → List Int} {N : Nat} (hN : 1300 ≤ N) {q D F : Nat} (hD : a 2 = D) (hF : a 1 = F) (hq : q < 100) (K : zKc h a T) :
    ∃ h1, sh_Planner_search N (q : Int) h = some h1 ∧ h1 68 6 = (zyf (zdF a T q) (zrp D 80 0) F 0 0).1 ∧ (∀ f, f < F → h1 76 f = zpp (zdF a T q) (zrp D 80 0) F f 0 0) ∧ zFr [33, 35, 37, 40, 68, 70, 72, 74, 76] h h1 := by
  have b1 := K.1.2.1.2.1
  have b2 := K.1.2.1.2.2.1
  obtain ⟨h1, p1, p2, p3, p4⟩ := zsea_c (T := T) hN hD hF hq F N 0 h K (by omega) (by omega) (fun f' i' j' _ _ w => by omega) (fun f' u' _ w => by omega)
  have e2 : h1 16 2 = D := by rw [p4 16 (by decide), ← hD]; exact K.1.1.1.2.2.1
  have e1 : h1 16 1 = F := by rw [p4 16 (by decide), ← hF]; exact K.1.1.1.2.1
  have C : zPc h1 (zdF a T q) D F := ⟨e2, by omega, e1, by omega, fun f hf i j hij hj => p2 f i j hij hj (Or.inl hf), zdF_b K.1.2⟩
  have M : zMI h1 (zdF a T q) (zrp D 80 0) F 0 := fun f _ hf u hu => Or.inl (p3 f u hu (Or.inl hf))
  obtain ⟨h2, q1, q2, q3, q4, q5, q6⟩ := zyl_c hN F 0 0 20 h1 (by omega) (by omega) (by decide) C M
  have f3 : zFr [68, 72, 74] h1 (zst h2 68 6 (zyf (zdF a T q) (zrp D 80 0) F 0 0).1) := (q6.mono (by simp)).st (by decide)
  obtain ⟨h3, r1, r2, r3, r4⟩ := zfol_c (D := D) (F := F) N (zdF_b K.1.2) (by omega) (by omega) F N 0 0 (zst h2 68 6 (zyf (zdF a T q) (zrp D 80 0) F 0 0).1) (by omega) (by omega) (by decide) (by rw [f3 16 (by decide)]; exact e1) (fun f' w1 w2 u' w3 => by rw [zst_if, if_neg (by decide), zst_if, if_neg (by decide)]; exact q2 f' w1 w2 u' w3) (fun h9 => by rw [zst_if, if_neg (by decide)]; exact q3 h9)
  refine ⟨h3, ?_, ?_, fun f hf => ?_, ((p4.mono (by simp)).trans (f3.mono (by simp))).trans (r4.mono (by simp))⟩
  · unfold sh_Planner_search
    refine (congrArg (fun o => zb1 o fun h28 => zb2 (sh_Planner_yieldFrom N 0 0 h28) fun r34 h35 => zb1 (sh_Planner_follow N (zst h35 68 6 r34)) fun h41 => some h41) p1).trans ?_
    simp only [zb1_some]
    unfold sh_Planner_yieldFrom
    refine (congrArg (fun o => zb2 o fun r34 h35 => zb1 (sh_Planner_follow N (zst h35 68 6 r34)) fun h41 => some h41) q1).trans ?_
    simp only [zb2_some]
    unfold sh_Planner_follow
    exact congrArg (fun o => zb1 (zb1 o fun h17 => some h17) fun h41 => some h41) r1
  · rw [r4 68 (by decide), zst_if, if_pos rfl, zup1_eq]
  · have := r2 f (by omega) hf
    rw [Nat.sub_zero] at this
    exact this
