/-! PURE: plan, the yields -/
def zbt2 (p : Nat) : Nat := 2 ^ (p / 10) ||| 2 ^ (p % 10)
theorem zbt_and : ∀ u : Nat, u < 256 → ∀ i : Nat, i < 8 → ∀ j : Nat, j < 8 → (decide (u &&& (2 ^ i ||| 2 ^ j) = 0) = (!(u.testBit i) && !(u.testBit j))) := by decide +kernel
theorem zbt_b {u i j : Nat} (hu : u < 256) (hi : i < 8) (hj : j < 8) : u ||| (2 ^ i ||| 2 ^ j) < 256 := by
  have h1 : 2 ^ i ≤ 2 ^ 7 := Nat.pow_le_pow_right (by decide) (by omega)
  have h2 : 2 ^ j ≤ 2 ^ 7 := Nat.pow_le_pow_right (by decide) (by omega)
  exact Nat.or_lt_two_pow (n := 8) hu (Nat.or_lt_two_pow (n := 8) (by omega) (by omega))
theorem zbt_c {i j : Nat} (hi : i < 8) (hj : j < 8) : zor (zshl 1 (i : Int)) (zshl 1 (j : Int)) = ((2 ^ i ||| 2 ^ j : Nat) : Int) := by
  have h1 : 2 ^ i ≤ 2 ^ 7 := Nat.pow_le_pow_right (by decide) (by omega)
  have h2 : 2 ^ j ≤ 2 ^ 7 := Nat.pow_le_pow_right (by decide) (by omega)
  rw [zbit_8 i hi, zbit_8 j hj, zor_8 _ (by omega) _ (by omega)]
theorem zbt_l {i j : Nat} (hi : i < 8) (hj : j < 8) : 2 ^ i ||| 2 ^ j < 256 := by
  have := zbt_b (u := 0) (by decide) hi hj
  rw [Nat.zero_or] at this
  exact this
/-- one pair tried -/
def zel (u p : Nat) : Bool := !(u.testBit (p / 10)) && !(u.testBit (p % 10))
def zyS (dn : Nat → Int) (Y : Nat → Int) (u : Nat) (s : Int × Int) (p : Nat) : Int × Int := if zel u p = true then (if dn p + Y (u ||| zbt2 p) ≤ s.1 then s else (dn p + Y (u ||| zbt2 p), (p : Int))) else s
def zyf (dn : Nat → Nat → Int) (L : List Nat) : Nat → Nat → Nat → Int × Int
  | 0, _, _ => (0, -1)
  | r + 1, f, u => L.foldl (zyS (dn f) (fun u' => (zyf dn L r (f + 1) u').1) u) ((zyf dn L r (f + 1) u).1, -1)
def zpL (D : Nat) (L : List Nat) : Prop := ∀ p ∈ L, p < 80 ∧ p / 10 < D ∧ p % 10 < D
theorem zrp_L {D : Nat} : ∀ n p, p + n ≤ 80 → zpL D (zrp D n p) := by
  intro n
  induction n with
  | zero => intro p _ q hq; cases hq
  | succ n ih =>
    intro p hp q hq
    rw [show zrp D (n + 1) p = if p / 10 < p % 10 ∧ p % 10 < D then p :: zrp D n (p + 1) else zrp D n (p + 1) from rfl] at hq
    split at hq
    · rename_i c
      rcases List.mem_cons.mp hq with rfl | hq
      · omega
      · exact ih (p + 1) (by omega) q hq
    · exact ih (p + 1) (by omega) q hq
theorem zyS_b {dn : Nat → Int} {Y : Nat → Int} {u D : Nat} {B : Int} (hdn : ∀ p, 0 ≤ dn p ∧ dn p ≤ 99) (hD : D ≤ 8) (hu : u < 256) (hY : ∀ u', u' < 256 → 0 ≤ Y u' ∧ Y u' ≤ B) : ∀ (L : List Nat) (s : Int × Int), zpL D L → 0 ≤ s.1 ∧ s.1 ≤ B + 99 → (s.2 = -1 ∨ ∃ p : Nat, s.2 = p ∧ p / 10 < D ∧ p % 10 < D ∧ p < 80) → (0 ≤ (L.foldl (zyS dn Y u) s).1 ∧ (L.foldl (zyS dn Y u) s).1 ≤ B + 99) ∧ ((L.foldl (zyS dn Y u) s).2 = -1 ∨ ∃ p : Nat, (L.foldl (zyS dn Y u) s).2 = p ∧ p / 10 < D ∧ p % 10 < D ∧ p < 80) := by
  intro L
  induction L with
  | nil => intro s _ h1 h2; exact ⟨h1, h2⟩
  | cons p L ih =>
    intro s hL h1 h2
    have hp := hL p List.mem_cons_self
    rw [List.foldl_cons]
    have hu' := hY (u ||| zbt2 p) (zbt_b hu (by omega) (by omega))
    have hd := hdn p
    refine ih _ (fun q hq => hL q (List.mem_cons_of_mem _ hq)) ?_ ?_
    · unfold zyS
      split
      · split
        · exact h1
        · constructor
          · show 0 ≤ dn p + _; omega
          · show dn p + _ ≤ _; omega
      · exact h1
    · unfold zyS
      split
      · split
        · exact h2
        · exact Or.inr ⟨p, rfl, hp.2.1, hp.2.2, hp.1⟩
      · exact h2
theorem zyf_b {dn : Nat → Nat → Int} {L : List Nat} {D : Nat} (hdn : ∀ f p, 0 ≤ dn f p ∧ dn f p ≤ 99) (hD : D ≤ 8) (hL : zpL D L) : ∀ (r f u : Nat), u < 256 → (0 ≤ (zyf dn L r f u).1 ∧ (zyf dn L r f u).1 ≤ 99 * r) ∧ ((zyf dn L r f u).2 = -1 ∨ ∃ p : Nat, (zyf dn L r f u).2 = p ∧ p / 10 < D ∧ p % 10 < D ∧ p < 80) := by
  intro r
  induction r with
  | zero => intro f u _; exact ⟨⟨Int.le_refl _, Int.le_refl _⟩, Or.inl rfl⟩
  | succ r ih =>
    intro f u hu
    have := zyS_b (dn := dn f) (Y := fun u' => (zyf dn L r (f + 1) u').1) (u := u) (B := 99 * r) (hdn f) hD hu (fun u' hu' => (ih (f + 1) u' hu').1) L ((zyf dn L r (f + 1) u).1, -1) hL (by have := (ih (f + 1) u hu).1; show 0 ≤ (zyf dn L r (f + 1) u).1 ∧ (zyf dn L r (f + 1) u).1 ≤ _; omega) (Or.inl rfl)
    unfold zyf
    refine ⟨⟨this.1.1, ?_⟩, this.2⟩
    have := this.1.2
    omega
def znx (u : Nat) (q : Int) : Nat := if q = -1 then u else u ||| zbt2 q.toNat
/-! the class's yields -/
/-- what the yields' cells hold, of the fields from f0 on -/
def zMI (h : zHp) (dn : Nat → Nat → Int) (L : List Nat) (F f0 : Nat) : Prop := ∀ f, f0 ≤ f → f < F → ∀ u, u < 256 → h 72 (256 * f + u) = -1 ∨
  (h 72 (256 * f + u) = (zyf dn L (F - f) f u).1 ∧ h 74 (256 * f + u) = (zyf dn L (F - f) f u).2 ∧ (f + 1 < F → h 72 (256 * (f + 1) + znx u (zyf dn L (F - f) f u).2) ≠ -1))
/-- what stays -/
def zPc (h : zHp) (dn : Nat → Nat → Int) (D F : Nat) : Prop := h 16 2 = D ∧ D ≤ 8 ∧ h 16 1 = F ∧ F ≤ 4 ∧ (∀ f, f < F → ∀ i j, i < j → j < D → h 70 (100 * f + (10 * i + j)) = dn f (10 * i + j)) ∧ (∀ f p, 0 ≤ dn f p ∧ dn f p ≤ 99)
theorem zPc_fr {h h1 : zHp} {dn : Nat → Nat → Int} {D F : Nat} (C : zPc h dn D F) (f : zFr [72, 74] h h1) : zPc h1 dn D F := by
  unfold zPc
  rw [f 16 (by decide), f 70 (by decide)]
  exact C
/-- the state while one cell is worked at; h0: what stood at the beginning -/
def zLI (h0 h : zHp) (dn : Nat → Nat → Int) (L : List Nat) (F f u : Nat) (s : Int × Int) : Prop := h 72 (256 * f + u) = s.1 ∧ h 74 (256 * f + u) = s.2 ∧ zMI h dn L F (f + 1) ∧ (f + 1 < F → h 72 (256 * (f + 1) + znx u s.2) ≠ -1) ∧
  (∀ i, i < 256 * (f + 1) → i ≠ 256 * f + u → h 72 i = h0 72 i ∧ h 74 i = h0 74 i) ∧ (∀ i, i < 1024 → h0 72 i ≠ -1 → h 72 i ≠ -1) ∧ zFr [72, 74] h0 h
theorem zyl_c {dn : Nat → Nat → Int} {D F N : Nat} (hN : 1300 ≤ N) : ∀ (r f u kk : Nat) (h : zHp), f + r = F → 2 * r + 1 ≤ kk → u < 256 → zPc h dn D F → zMI h dn (zrp D 80 0) F f →
    ∃ h1, sh_GP N kk 0 [(f : Int), (u : Int)] h = some ((zyf dn (zrp D 80 0) r f u).1, h1) ∧ zMI h1 dn (zrp D 80 0) F f ∧ (f < F → h1 72 (256 * f + u) ≠ -1) ∧ (∀ i, i < 256 * f → h1 72 i = h 72 i ∧ h1 74 i = h 74 i) ∧ (∀ i, i < 1024 → h 72 i ≠ -1 → h1 72 i ≠ -1) ∧ zFr [72, 74] h h1 := by
  intro r
  induction r with
  | zero =>
    intro f u kk h hf hkk hu C M
    obtain ⟨kk, rfl⟩ : ∃ m, kk = m + 1 := ⟨kk - 1, by omega⟩
    refine ⟨h, ?_, M, fun q => by omega, fun _ _ => ⟨rfl, rfl⟩, fun _ _ q => q, zFr.refl h⟩
    show sh_b_Planner_yieldFrom N (sh_GP N kk) (f : Int) (u : Int) h = _
    unfold sh_b_Planner_yieldFrom
    rw [fields_s, C.2.2.1, if_pos (by omega)]
    rfl
  | succ r ih =>
    intro f u kk h hf hkk hu C M
    obtain ⟨kk, rfl⟩ : ∃ m, kk = m + 2 := ⟨kk - 2, by omega⟩
    obtain ⟨C1, C2, C3, C4, C5, C6⟩ := C
    have C : zPc h dn D F := ⟨C1, C2, C3, C4, C5, C6⟩
    have hL : zpL D (zrp D 80 0) := zrp_L 80 0 (by omega)
    have ecell : w32 (w32 ((f : Int) * 256) + (u : Int)) = ((256 * f + u : Nat) : Int) := by rw [w32_s (a := (f : Int) * 256) (by omega) (by omega), w32_s (by omega) (by omega)]; omega
    have hgo : sh_GP N (kk + 2) 0 [(f : Int), (u : Int)] h = sh_b_Planner_yieldFrom N (sh_GP N (kk + 1)) (f : Int) (u : Int) h := rfl
    have hFf : F - f = r + 1 := by omega
    rw [hgo]
    unfold sh_b_Planner_yieldFrom
    rw [fields_s, C3, if_neg (c := (F : Int) ≤ (f : Int)) (by omega), if_pos (c := (f : Int) < 4) (by omega), ecell, rget_in (by omega) (by omega), Int.toNat_natCast]
    by_cases c0 : h 72 (256 * f + u) = -1
    case neg =>
      rw [if_neg c0]
      rcases M f (Nat.le_refl f) (by omega) u hu with q | ⟨q1, q2, q3⟩
      · exact absurd q c0
      · refine ⟨h, ?_, M, fun _ => c0, fun _ _ => ⟨rfl, rfl⟩, fun _ _ q => q, zFr.refl h⟩
        rw [q1, hFf]
    rw [if_pos c0]
    have ef1 : w32 ((f : Int) + 1) = ((f + 1 : Nat) : Int) := by rw [w32_s (by omega) (by omega)]; omega
    obtain ⟨h1, p1, p2, p3, p4, p5, p6⟩ := ih (f + 1) u (kk + 1) h (by omega) (by omega) hu C (fun f' q1 q2 => M f' (by omega) q2)
    rw [ef1, p1]
    simp only [zb2_some]
    rw [rput_in (by omega) (by omega), rput_in (by omega) (by omega), Int.toNat_natCast]
    -- one pair
    have hy1 := zyf_b (dn := dn) C6 C2 hL r (f + 1)
    have hpair : ∀ (i j : Nat) (s : Int × Int) (h2 : zHp), i < j → j < D → 0 ≤ s.1 ∧ znx u s.2 < 256 → zLI h h2 dn (zrp D 80 0) F f u s → ∃ h3, sh_GP N (kk + 1) 1 [(f : Int), (u : Int), (i : Int), (j : Int)] h2 = some (0, h3) ∧ zLI h h3 dn (zrp D 80 0) F f u (zyS (dn f) (fun u' => (zyf dn (zrp D 80 0) r (f + 1) u').1) u s (10 * i + j)) ∧ (0 ≤ (zyS (dn f) (fun u' => (zyf dn (zrp D 80 0) r (f + 1) u').1) u s (10 * i + j)).1 ∧ znx u (zyS (dn f) (fun u' => (zyf dn (zrp D 80 0) r (f + 1) u').1) u s (10 * i + j)).2 < 256) := by
      intro i j s h2 hij hj h0 I
      obtain ⟨I1, I2, I3, I4, I5, I6, I7⟩ := I
      have e10 : (10 * i + j) / 10 = i := by omega
      have e11 : (10 * i + j) % 10 = j := by omega
      have eb : zbt2 (10 * i + j) = 2 ^ i ||| 2 ^ j := by unfold zbt2; rw [e10, e11]
      have eel : zel u (10 * i + j) = (!(u.testBit i) && !(u.testBit j)) := by unfold zel; rw [e10, e11]
      have hba := zbt_and u hu i (by omega) j (by omega)
      show ∃ h3, sh_b_Planner_tryPair N (sh_GP N kk) (f : Int) (u : Int) (i : Int) (j : Int) h2 = _ ∧ _
      unfold sh_b_Planner_tryPair
      rw [zbt_c (by omega) (by omega), zand_8 u hu _ (zbt_l (by omega) (by omega)), zor_8 u hu _ (zbt_l (by omega) (by omega)), ef1, ecell]
      unfold zyS
      rw [eel, eb, ← hba]
      by_cases c : u &&& (2 ^ i ||| 2 ^ j) = 0
      case neg =>
        rw [if_neg (by omega), if_neg (by simp [c])]
        exact ⟨h2, rfl, ⟨I1, I2, I3, I4, I5, I6, I7⟩, h0⟩
      rw [if_pos (by omega), if_pos (decide_eq_true c)]
      have hub := zbt_b (u := u) (i := i) (j := j) hu (by omega) (by omega)
      obtain ⟨h3, q1, q2, q3, q4, q5, q6⟩ := ih (f + 1) (u ||| (2 ^ i ||| 2 ^ j)) kk h2 (by omega) (by omega) hub (zPc_fr C I7) I3
      have hyv := (hy1 (u ||| (2 ^ i ||| 2 ^ j)) hub).1
      have hdv := C6 f (10 * i + j)
      have e70 : rget h2 70 400 (w32 (w32 ((f : Int) * 100) + w32 (w32 ((i : Int) * 10) + (j : Int)))) = dn f (10 * i + j) := by
        have e : w32 (w32 ((f : Int) * 100) + w32 (w32 ((i : Int) * 10) + (j : Int))) = ((100 * f + (10 * i + j) : Nat) : Int) := by
          rw [w32_s (a := (f : Int) * 100) (by omega) (by omega), w32_s (a := (i : Int) * 10) (by omega) (by omega), w32_s (a := (i : Int) * 10 + (j : Int)) (by omega) (by omega), w32_s (by omega) (by omega)]; omega
        rw [e, rget_in (by omega) (by omega), Int.toNat_natCast, I7 70 (by decide)]
        exact C5 f (by omega) i j hij hj
      have e10j : w32 (w32 ((i : Int) * 10) + (j : Int)) = ((10 * i + j : Nat) : Int) := by rw [w32_s (a := (i : Int) * 10) (by omega) (by omega), w32_s (by omega) (by omega)]; omega
      rw [q1]
      simp only [zb2_some]
      rw [e70, w32_s (a := dn f (10 * i + j) + _) (by omega) (by omega), rget_in (by omega) (by omega), Int.toNat_natCast, (q4 (256 * f + u) (by omega)).1, I1]
      have I' : zLI h h3 dn (zrp D 80 0) F f u s := by
        refine ⟨?_, ?_, q2, fun h9 => ?_, fun k hk hk2 => ?_, fun k hk hk2 => q5 k hk (I6 k hk hk2), I7.trans q6⟩
        · rw [(q4 (256 * f + u) (by omega)).1]; exact I1
        · rw [(q4 (256 * f + u) (by omega)).2]; exact I2
        · exact q5 _ (by omega) (I4 h9)
        · rw [(q4 k hk).1, (q4 k hk).2]; exact I5 k hk hk2
      by_cases c2 : dn f (10 * i + j) + (zyf dn (zrp D 80 0) r (f + 1) (u ||| (2 ^ i ||| 2 ^ j))).1 ≤ s.1
      · rw [if_pos c2, if_pos c2]
        exact ⟨h3, rfl, I', h0⟩
      · rw [if_neg c2, if_neg c2, rput_in (by omega) (by omega), rput_in (by omega) (by omega), Int.toNat_natCast, e10j]
        obtain ⟨J1, J2, J3, J4, J5, J6, J7⟩ := I'
        refine ⟨_, rfl, ⟨?_, ?_, ?_, fun h9 => ?_, fun k hk hk2 => ?_, fun k hk hk2 => ?_, (J7.st (by decide)).st (by decide)⟩, ?_⟩
        · rw [zst_if, if_neg (by decide), zst_if, if_pos rfl, zup1_eq]
        · rw [zst_if, if_pos rfl, zup1_eq]
        · intro f' w1 w2 u' w3
          have := J3 f' w1 w2 u' w3
          rw [zst_if, if_neg (by decide), zst_if, if_pos rfl, zst_if, if_pos rfl, zst_if, if_neg (by decide), zup1_ne _ _ (by omega), zup1_ne _ _ (by omega), zup1_ne _ _ (by omega)]
          exact this
        · rw [zst_if, if_neg (by decide), zst_if, if_pos rfl, zup1_ne _ _ (by omega)]
          have := q3 h9
          unfold znx
          rw [if_neg (show ¬ ((10 * i + j : Nat) : Int) = -1 by omega), Int.toNat_natCast, eb]
          exact this
        · rw [zst_if, if_neg (by decide), zst_if, if_pos rfl, zst_if, if_pos rfl, zst_if, if_neg (by decide), zup1_ne _ _ hk2, zup1_ne _ _ hk2]
          exact J5 k hk hk2
        · rw [zst_if, if_neg (by decide), zst_if, if_pos rfl, zup1_if]
          split
          · omega
          · exact J6 k hk hk2
        · refine ⟨by show 0 ≤ dn f (10 * i + j) + _; omega, ?_⟩
          unfold znx
          rw [if_neg (show ¬ ((10 * i + j : Nat) : Int) = -1 by omega), Int.toNat_natCast, eb]
          exact hub
    have hL50 : ∀ (d n i j : Nat) (x3 : Int) (s : Int × Int) (h2 : zHp), j + d = D → d < n → i < j → 0 ≤ s.1 ∧ znx u s.2 < 256 → zLI h h2 dn (zrp D 80 0) F f u s → ∃ h3, sh_Planner_yieldFrom_L50 N (sh_GP N (kk + 1)) n (f : Int) (u : Int) x3 (i : Int) (j : Int) h2 = some ((f : Int), (u : Int), x3, (i : Int), h3) ∧ zLI h h3 dn (zrp D 80 0) F f u ((zin i d j).foldl (zyS (dn f) (fun u' => (zyf dn (zrp D 80 0) r (f + 1) u').1) u) s) ∧ (0 ≤ ((zin i d j).foldl (zyS (dn f) (fun u' => (zyf dn (zrp D 80 0) r (f + 1) u').1) u) s).1 ∧ znx u ((zin i d j).foldl (zyS (dn f) (fun u' => (zyf dn (zrp D 80 0) r (f + 1) u').1) u) s).2 < 256) := by
      intro d
      induction d with
      | zero =>
        intro n i j x3 s h2 hj hn hij h0 I
        obtain ⟨n, rfl⟩ : ∃ m, n = m + 1 := ⟨n - 1, by omega⟩
        refine ⟨h2, ?_, I, h0⟩
        unfold sh_Planner_yieldFrom_L50
        rw [oxen_s, I.2.2.2.2.2.2 16 (by decide), C1, if_pos (by omega)]
      | succ d ihd =>
        intro n i j x3 s h2 hj hn hij h0 I
        obtain ⟨n, rfl⟩ : ∃ m, n = m + 1 := ⟨n - 1, by omega⟩
        have e1 : w32 ((j : Int) + 1) = ((j + 1 : Nat) : Int) := by rw [w32_s (by omega) (by omega)]; omega
        obtain ⟨h3, q1, q2, q3⟩ := hpair i j s h2 hij (by omega) h0 I
        obtain ⟨h4, r1, r2, r3⟩ := ihd n i (j + 1) x3 _ h3 (by omega) (by omega) (by omega) q3 q2
        rw [show zin i (d + 1) j = (10 * i + j) :: zin i d (j + 1) from rfl, List.foldl_cons]
        refine ⟨h4, ?_, r2, r3⟩
        unfold sh_Planner_yieldFrom_L50
        rw [oxen_s, I.2.2.2.2.2.2 16 (by decide), C1, if_neg (c := (D : Int) ≤ (j : Int)) (by omega), q1]
        simp only [zb2_some]
        rw [e1]
        exact r1
    have hL40 : ∀ (d n i : Nat) (x3 : Int) (s : Int × Int) (h2 : zHp), i + d = D → d < n → 0 ≤ s.1 ∧ znx u s.2 < 256 → zLI h h2 dn (zrp D 80 0) F f u s → ∃ h3, sh_Planner_yieldFrom_L40 N (sh_GP N (kk + 1)) n (f : Int) (u : Int) x3 (i : Int) h2 = some (x3, h3) ∧ zLI h h3 dn (zrp D 80 0) F f u ((zou D d i).foldl (zyS (dn f) (fun u' => (zyf dn (zrp D 80 0) r (f + 1) u').1) u) s) ∧ (0 ≤ ((zou D d i).foldl (zyS (dn f) (fun u' => (zyf dn (zrp D 80 0) r (f + 1) u').1) u) s).1 ∧ znx u ((zou D d i).foldl (zyS (dn f) (fun u' => (zyf dn (zrp D 80 0) r (f + 1) u').1) u) s).2 < 256) := by
      intro d
      induction d with
      | zero =>
        intro n i x3 s h2 hi hn h0 I
        obtain ⟨n, rfl⟩ : ∃ m, n = m + 1 := ⟨n - 1, by omega⟩
        refine ⟨h2, ?_, I, h0⟩
        unfold sh_Planner_yieldFrom_L40
        rw [oxen_s, I.2.2.2.2.2.2 16 (by decide), C1, if_pos (by omega)]
      | succ d ihd =>
        intro n i x3 s h2 hi hn h0 I
        obtain ⟨n, rfl⟩ : ∃ m, n = m + 1 := ⟨n - 1, by omega⟩
        have e1 : w32 ((i : Int) + 1) = ((i + 1 : Nat) : Int) := by rw [w32_s (by omega) (by omega)]; omega
        obtain ⟨h3, q1, q2, q3⟩ := hL50 (D - (i + 1)) N i (i + 1) x3 s h2 (by omega) (by omega) (by omega) h0 I
        obtain ⟨h4, r1, r2, r3⟩ := ihd n (i + 1) x3 _ h3 (by omega) (by omega) q3 q2
        rw [show zou D (d + 1) i = zin i (D - (i + 1)) (i + 1) ++ zou D d (i + 1) from rfl, List.foldl_append]
        refine ⟨h4, ?_, r2, r3⟩
        unfold sh_Planner_yieldFrom_L40
        rw [oxen_s, I.2.2.2.2.2.2 16 (by decide), C1, if_neg (c := (D : Int) ≤ (i : Int)) (by omega), e1, q1]
        simp only [zb5_some]
        rw [e1]
        exact r1
    have hv0 := (hy1 u hu).1
    have I0 : zLI h (zst (zst h1 72 (256 * f + u) (zyf dn (zrp D 80 0) r (f + 1) u).1) 74 (256 * f + u) (-1)) dn (zrp D 80 0) F f u ((zyf dn (zrp D 80 0) r (f + 1) u).1, -1) := by
      refine ⟨?_, ?_, ?_, fun h9 => ?_, fun k hk hk2 => ?_, fun k hk hk2 => ?_, (p6.st (by decide)).st (by decide)⟩
      · rw [zst_if, if_neg (by decide), zst_if, if_pos rfl, zup1_eq]
      · rw [zst_if, if_pos rfl, zup1_eq]
      · intro f' w1 w2 u' w3
        have := p2 f' w1 w2 u' w3
        rw [zst_if, if_neg (by decide), zst_if, if_pos rfl, zst_if, if_pos rfl, zst_if, if_neg (by decide), zup1_ne _ _ (by omega), zup1_ne _ _ (by omega), zup1_ne _ _ (by omega)]
        exact this
      · rw [zst_if, if_neg (by decide), zst_if, if_pos rfl, zup1_ne _ _ (by omega)]
        exact p3 h9
      · rw [zst_if, if_neg (by decide), zst_if, if_pos rfl, zst_if, if_pos rfl, zst_if, if_neg (by decide), zup1_ne _ _ hk2, zup1_ne _ _ hk2]
        exact p4 k hk
      · rw [zst_if, if_neg (by decide), zst_if, if_pos rfl, zup1_if]
        split
        · omega
        · exact p5 k hk hk2
    obtain ⟨h4, q1, q2, q3⟩ := hL40 D N 0 ((256 * f + u : Nat) : Int) ((zyf dn (zrp D 80 0) r (f + 1) u).1, -1) _ (by omega) (by omega) ⟨hv0.1, (show znx u (-1) < 256 by unfold znx; rw [if_pos rfl]; exact hu)⟩ I0
    rw [zpr_eq D (by omega)] at q2 q3
    have hz : zyf dn (zrp D 80 0) (r + 1) f u = (zrp D 80 0).foldl (zyS (dn f) (fun u' => (zyf dn (zrp D 80 0) r (f + 1) u').1) u) ((zyf dn (zrp D 80 0) r (f + 1) u).1, -1) := rfl
    rw [← hz] at q2 q3
    obtain ⟨J1, J2, J3, J4, J5, J6, J7⟩ := q2
    refine ⟨h4, ?_, ?_, fun _ => by rw [J1]; omega, fun i hi => J5 i (by omega) (by omega), J6, J7⟩
    · refine (congrArg (fun o => zb2 o fun y56 h57 => some (rget h57 72 1024 y56, h57)) q1).trans ?_
      simp only [zb2_some]
      rw [rget_in (by omega) (by omega), Int.toNat_natCast, J1]
    · intro f' w1 w2 u' w3
      by_cases e : f' = f
      · subst e
        by_cases e2 : u' = u
        · subst e2
          refine Or.inr ?_
          rw [hFf]
          exact ⟨J1, J2, J4⟩
        · have j5 := J5 (256 * f' + u') (by omega) (by omega)
          rw [j5.1, j5.2]
          rcases M f' w1 w2 u' w3 with m | ⟨m1, m2, m3⟩
          · exact Or.inl m
          · refine Or.inr ⟨m1, m2, fun h9 => ?_⟩
            have hq := (zyf_b (dn := dn) C6 C2 hL (F - f') f' u' w3).2
            have hnx : znx u' (zyf dn (zrp D 80 0) (F - f') f' u').2 < 256 := by
              unfold znx
              rcases hq with hq | ⟨p, hq, hp1, hp2, hp3⟩
              · rw [if_pos hq]; exact w3
              · rw [hq, if_neg (by omega), Int.toNat_natCast]
                exact zbt_b w3 (by omega) (by omega)
            exact J6 _ (by omega) (m3 h9)
      · exact J3 f' (by omega) w2 u' w3
