/-! PURE: apart, the reference's search -/
def zAr (g : zHp) (F : Nat → Nat → Bool) (P : zFn) (A : Nat) : Prop := A ≤ 5 ∧ (∀ i, i < 10 * A → g 97 i = if F (i / 10) (i % 10) = true then 1 else 0) ∧ (∀ i, i < 5 → g 86 (12 + 3 * i) = P i)
theorem zAr_fr {g g1 : zHp} {F : Nat → Nat → Bool} {P : zFn} {A : Nat} (C : zAr g F P A) (f : zFr [98, 99] g g1) : zAr g1 F P A := by
  unfold zAr
  rw [f 97 (by decide), f 86 (by decide)]
  exact C
def zSg (g : zHp) (A f : Nat) (pk : zFn) (s : Int × zFn) : Prop := (∀ i, i < f → g 98 i = pk i) ∧ (0 ≤ s.1 → ∀ i, i < A → g 99 i = s.2 i)
theorem zfr_r {g : zHp} {dd : Int} {pk : zFn} {f p : Nat} (N : Nat) (hf : f < 5) (hp : p < 10) (hd : zdg pk f) (hk : ∀ i, i < f → g 98 i = pk i) (hp2 : g 98 f = p) : ∀ (d n i : Nat), i + d = f → d < n → sh_Mo_isApart_L2 N g n (f : Int) dd (i : Int) = some (if zfr dd pk p d i = true then .inr 0 else .inl 0) := by
  intro d
  induction d with
  | zero =>
    intro n i hi hn
    obtain ⟨n, rfl⟩ : ∃ m, n = m + 1 := ⟨n - 1, by omega⟩
    unfold sh_Mo_isApart_L2
    rw [if_pos (by omega)]
    rfl
  | succ d ih =>
    intro n i hi hn
    obtain ⟨n, rfl⟩ : ∃ m, n = m + 1 := ⟨n - 1, by omega⟩
    have e1 : w32 ((i : Int) + 1) = ((i + 1 : Nat) : Int) := by rw [w32_s (by omega) (by omega)]; omega
    have hx := hd i (by omega)
    unfold sh_Mo_isApart_L2
    rw [if_neg (c := (f : Int) ≤ (i : Int)) (by omega), zgrd (by omega) (by omega), zgrd (by omega) (by omega), Int.toNat_natCast, Int.toNat_natCast, hk i (by omega), hp2, zgap_s (by omega) (by omega), zgp_c, e1]
    rw [show zfr dd pk p (d + 1) i = if dd ≤ zgp p (pk i) then zfr dd pk p d (i + 1) else false from rfl]
    by_cases c : dd ≤ zgp p (pk i)
    · rw [if_pos c, if_pos c]; exact ih n (i + 1) (by omega) (by omega)
    · rw [if_neg c, if_neg c]; rfl
theorem zfrA_r {g : zHp} {dd : Int} {pk : zFn} {f p : Nat} {N : Nat} (hN : 1300 ≤ N) (hf : f < 5) (hp : p < 10) (hd : zdg pk f) (hk : ∀ i, i < f → g 98 i = pk i) (hp2 : g 98 f = p) : sh_Mo_isApart N (f : Int) dd g = some (if zfr dd pk p f 0 = true then 1 else 0) := by
  unfold sh_Mo_isApart
  refine (congrArg (fun o => zb1 o fun w8 => zsum2 w8 (zcu1 fun y9 => some (0 : Int)) (zcu1 fun y10 => some (1 : Int))) (zfr_r N hf hp hd hk hp2 f N 0 (by omega) (by omega))).trans ?_
  cases zfr dd pk p f 0 <;> rfl
theorem zchg_r {g : zHp} {P pk : zFn} {A : Nat} (N : Nat) (hA : A ≤ 5) (hP : zdg P 5) (hd : zdg pk A) (hk : ∀ i, i < A → g 98 i = pk i) (h86 : ∀ i, i < 5 → g 86 (12 + 3 * i) = P i) : ∀ (d n i : Nat), i + d = A → d < n → sh_Mo_changed_L4 N g n (A : Int) (zch P pk i) (i : Int) = some (zch P pk A) := by
  intro d
  induction d with
  | zero =>
    intro n i hi hn
    obtain ⟨n, rfl⟩ : ∃ m, n = m + 1 := ⟨n - 1, by omega⟩
    obtain rfl : i = A := by omega
    unfold sh_Mo_changed_L4
    rw [if_pos (by omega)]
  | succ d ih =>
    intro n i hi hn
    obtain ⟨n, rfl⟩ : ∃ m, n = m + 1 := ⟨n - 1, by omega⟩
    have e1 : w32 ((i : Int) + 1) = ((i + 1 : Nat) : Int) := by rw [w32_s (by omega) (by omega)]; omega
    have hx := hd i (by omega)
    have hp := hP i (by omega)
    have ep : sh_Mo_pitchOf N (i : Int) g = some (P i) := by
      unfold sh_Mo_pitchOf
      have ex : (10 + 3 * (i : Int) + 2).toNat = 12 + 3 * i := by omega
      simp (disch := omega) only [zst_if, zup1_ne, zup1_eq, w32_s, rget_in, rput_in, zgrd, Nat.reduceEqDiff, Nat.reduceAdd, ↓reduceIte, Int.reduceToNat, zb1_some, zb2_some, zb3_some, zb4_some, zb5_some, Int.toNat_natCast, true_and, and_true, ex]
      rw [h86 i (by omega)]
    have hb := zch_b (P := P) (pk := pk) (f := i) (fun j hj => ⟨hd j (by omega), hP j (by omega)⟩)
    have hg := zgp_b (x := pk i) (y := P i) (by omega) (by omega)
    unfold sh_Mo_changed_L4
    rw [if_neg (c := (A : Int) ≤ (i : Int)) (by omega), zgrd (by omega) (by omega), ep, Int.toNat_natCast, hk i (by omega)]
    simp only [zb1_some]
    rw [zgap_s (by omega) (by omega), w32_s (a := zch P pk i + _) (by omega) (by omega), e1]
    exact ih n (i + 1) (by omega) (by omega)
theorem zcpy_r {pk : zFn} {A : Nat} {x1 x4 : Int} {x5 : Int} (N : Nat) (hA : A ≤ 5) : ∀ (d n i : Nat) (g : zHp), i + d = A → d < n → (∀ j, j < A → g 98 j = pk j) → (∀ j, j < i → g 99 j = pk j) → ∃ g1, sh_Mo_set_L59 N n x1 (A : Int) x4 x5 (i : Int) g = some (x1, (A : Int), x4, x5, g1) ∧ (∀ j, j < A → g1 99 j = pk j) ∧ zFr [99] g g1 := by
  intro d
  induction d with
  | zero =>
    intro n i g hi hn hk hb
    obtain ⟨n, rfl⟩ : ∃ m, n = m + 1 := ⟨n - 1, by omega⟩
    refine ⟨g, ?_, fun j hj => hb j (by omega), zFr.refl g⟩
    unfold sh_Mo_set_L59
    rw [if_pos (by omega)]
  | succ d ih =>
    intro n i g hi hn hk hb
    obtain ⟨n, rfl⟩ : ∃ m, n = m + 1 := ⟨n - 1, by omega⟩
    have e1 : w32 ((i : Int) + 1) = ((i + 1 : Nat) : Int) := by rw [w32_s (by omega) (by omega)]; omega
    have f1 : zFr [99] g (zst g 99 i (pk i)) := (zFr.refl g).st (by decide)
    obtain ⟨g1, p1, p2, p3⟩ := ih n (i + 1) (zst g 99 i (pk i)) (by omega) (by omega) (fun j hj => by rw [f1 98 (by decide)]; exact hk j hj) (fun j hj => by
      rw [zst_if, if_pos rfl, zup1_if]
      split
      · rename_i e; rw [e]
      · exact hb j (by omega))
    refine ⟨g1, ?_, p2, f1.trans p3⟩
    unfold sh_Mo_set_L59
    rw [if_neg (c := (A : Int) ≤ (i : Int)) (by omega), zgrd (by omega) (by omega), zgrd (by omega) (by omega), e1, Int.toNat_natCast, hk i (by omega)]
    exact p1
def zRst (N n : Nat) (y43 y44 y45 y46 : Int) (h47 : zHp) : Option (Int × zHp) := if 0 ≤ y46 ∧ y46 < 5 then if h47 98 y46.toNat ≤ 9 then (if y44 ≤ w32 (y46 + 1) then sh_Mo_set_L41 N n y43 y44 y45 (w32 (y46 + 1)) h47 else if 0 ≤ w32 (y46 + 1) ∧ w32 (y46 + 1) < 5 then sh_Mo_set_L41 N n y43 y44 y45 (w32 (y46 + 1)) (zst h47 98 (w32 (y46 + 1)).toNat (-1)) else none) else sh_Mo_set_L41 N n y43 y44 y45 (w32 (y46 + (-1))) h47 else none
theorem zL41_s {N n A f : Nat} {dd s1 : Int} {g : zHp} (hf : f < A) (hA : A ≤ 5) : sh_Mo_set_L41 N (n + 1) dd (A : Int) s1 (f : Int) g = zb5 (sh_Mo_set_L82 N N dd (A : Int) s1 (f : Int) (zst g 98 f (w32 (g 98 f + 1)))) (zRst N n) := by
  conv => enter [1]; unfold sh_Mo_set_L41
  rw [if_neg (by omega), if_neg (by omega), zgrd (by omega) (by omega), zgrd (by omega) (by omega), Int.toNat_natCast]
  rfl
def zCo : Nat → Nat
  | 0 => 1
  | d + 1 => 10 * (1 + zCo d) + 1
theorem zse_r {F : Nat → Nat → Bool} {dd : Int} {P : zFn} {A N : Nat} (hN : 1300 ≤ N) (hP : zdg P 5) : ∀ (d f : Nat) (pk : zFn) (s : Int × zFn) (g : zHp), f + d = A → zAr g F P A → zdg pk f → zSg g A f pk s → zsS s → (0 < d → g 98 f = -1) →
    ∃ c g1, c ≤ zCo d ∧ (∀ n, sh_Mo_set_L41 N (n + c) dd (A : Int) s.1 (f : Int) g = sh_Mo_set_L41 N n dd (A : Int) (zSr F dd P d f pk s).1 ((f : Int) - 1) g1) ∧ zSg g1 A f pk (zSr F dd P d f pk s) ∧ zFr [98, 99] g g1 := by
  intro d
  induction d with
  | zero =>
    intro f pk s g hf C hd S hS _
    obtain rfl : f = A := by omega
    have hA := C.1
    have ef : w32 ((f : Int) + (-1)) = (f : Int) - 1 := by rw [w32_s (by omega) (by omega)]; omega
    have hb := zch_b (P := P) (pk := pk) (f := f) (fun i hi => ⟨hd i hi, hP i (by omega)⟩)
    have ech : sh_Mo_changed N (f : Int) g = some (zch P pk f) := by
      unfold sh_Mo_changed
      exact congrArg (fun o => zb1 o fun y14 => some y14) (zchg_r N hA hP hd S.1 C.2.2 f N 0 (by omega) (by omega))
    unfold zSr
    by_cases c : s.1 < 0 ∨ zch P pk f < s.1
    · rw [if_pos c]
      obtain ⟨g1, p1, p2, p3⟩ := zcpy_r (pk := pk) (x1 := dd) (x4 := zch P pk f) (x5 := (f : Int)) N hA f N 0 g (by omega) (by omega) S.1 (fun j hj => by omega)
      refine ⟨1, g1, Nat.le_refl _, fun n => ?_, ⟨fun i hi => by rw [p3 98 (by decide)]; exact S.1 i hi, fun _ i hi => p2 i hi⟩, p3.mono (by simp)⟩
      conv => enter [1]; unfold sh_Mo_set_L41
      rw [if_neg (by omega), if_pos rfl, ech]
      simp only [zb1_some]
      by_cases c1 : s.1 < 0
      · rw [if_pos c1]
        refine (congrArg (fun o => zb5 o fun y64 y65 y66 y67 h68 => sh_Mo_set_L41 N n y64 y65 y66 (w32 (y67 + (-1))) h68) p1).trans ?_
        simp only [zb5_some]
        rw [ef]
      · rw [if_neg c1, if_neg (by omega)]
        refine (congrArg (fun o => zb5 o fun y64 y65 y66 y67 h68 => sh_Mo_set_L41 N n y64 y65 y66 (w32 (y67 + (-1))) h68) p1).trans ?_
        simp only [zb5_some]
        rw [ef]
    · rw [if_neg c]
      refine ⟨1, g, Nat.le_refl _, fun n => ?_, S, zFr.refl g⟩
      conv => enter [1]; unfold sh_Mo_set_L41
      rw [if_neg (by omega), if_pos rfl, ech]
      simp only [zb1_some]
      rw [if_neg (by omega), if_pos (by omega), ef]
  | succ d ih =>
    intro f pk s g hf C hd S hS hm
    have hA := C.1
    have ef : w32 ((f : Int) + (-1)) = (f : Int) - 1 := by rw [w32_s (by omega) (by omega)]; omega
    have ef1 : w32 ((f : Int) + 1) = ((f + 1 : Nat) : Int) := by rw [w32_s (by omega) (by omega)]; omega
    have hl : ∀ (r n8 p : Nat) (s : Int × zFn) (g2 : zHp), p + r = 10 → r < n8 → g2 98 f = p → zAr g2 F P A → zSg g2 A f pk s → zsS s →
        ∃ c g1, c ≤ r * (1 + zCo d) ∧ (∀ n, zb5 (sh_Mo_set_L82 N n8 dd (A : Int) s.1 (f : Int) g2) (zRst N (n + c)) = sh_Mo_set_L41 N n dd (A : Int) (zsp (zok F dd pk f) (fun p s => zSr F dd P d (f + 1) (zup1 pk f p) s) r p s).1 ((f : Int) - 1) g1) ∧ zSg g1 A f pk (zsp (zok F dd pk f) (fun p s => zSr F dd P d (f + 1) (zup1 pk f p) s) r p s) ∧ zFr [98, 99] g2 g1 := by
      intro r
      induction r with
      | zero =>
        intro n8 p s g2 hp hn8 hpf C2 S2 hS2
        obtain ⟨n8, rfl⟩ : ∃ m, n8 = m + 1 := ⟨n8 - 1, by omega⟩
        refine ⟨0, g2, Nat.zero_le _, fun n => ?_, S2, zFr.refl g2⟩
        conv => enter [1, 1]; unfold sh_Mo_set_L82
        rw [zgrd (by omega) (by omega), Int.toNat_natCast, hpf, if_pos (by omega)]
        simp only [zb5_some]
        unfold zRst
        rw [zgrd (by omega) (by omega), Int.toNat_natCast, hpf, if_neg (by omega), ef]
        rfl
      | succ r ihr =>
        intro n8 p s g2 hp hn8 hpf C2 S2 hS2
        obtain ⟨n8, rfl⟩ : ∃ m, n8 = m + 1 := ⟨n8 - 1, by omega⟩
        have e2 : w32 (w32 (10 * (f : Int)) + (p : Int)) = ((10 * f + p : Nat) : Int) := by rw [w32_s (a := 10 * (f : Int)) (by omega) (by omega), w32_s (by omega) (by omega)]; omega
        have e3 : w32 ((p : Int) + 1) = ((p + 1 : Nat) : Int) := by rw [w32_s (by omega) (by omega)]; omega
        have v97 : g2 97 (10 * f + p) = if F f p = true then 1 else 0 := by
          rw [C2.2.1 (10 * f + p) (by omega), show (10 * f + p) / 10 = f by omega, show (10 * f + p) % 10 = p by omega]
        have hok : zok F dd pk f p = (F f p && zfr dd pk p f 0) := rfl
        have hmul : (r + 1) * (1 + zCo d) = r * (1 + zCo d) + (1 + zCo d) := Nat.succ_mul r (1 + zCo d)
        rw [show zsp (zok F dd pk f) (fun p s => zSr F dd P d (f + 1) (zup1 pk f p) s) (r + 1) p s = zsp (zok F dd pk f) (fun p s => zSr F dd P d (f + 1) (zup1 pk f p) s) r (p + 1) (if zok F dd pk f p = true then zSr F dd P d (f + 1) (zup1 pk f p) s else s) from rfl, hok]
        -- the next pitch without this one
        have hskip : ∀ b : Bool, b = false → (sh_Mo_set_L82 N (n8 + 1) dd (A : Int) s.1 (f : Int) g2 = sh_Mo_set_L82 N n8 dd (A : Int) s.1 (f : Int) (zst g2 98 f ((p + 1 : Nat) : Int))) → ∃ c g1, c ≤ (r + 1) * (1 + zCo d) ∧ (∀ n, zb5 (sh_Mo_set_L82 N (n8 + 1) dd (A : Int) s.1 (f : Int) g2) (zRst N (n + c)) = sh_Mo_set_L41 N n dd (A : Int) (zsp (zok F dd pk f) (fun p s => zSr F dd P d (f + 1) (zup1 pk f p) s) r (p + 1) (if b = true then zSr F dd P d (f + 1) (zup1 pk f p) s else s)).1 ((f : Int) - 1) g1) ∧ zSg g1 A f pk (zsp (zok F dd pk f) (fun p s => zSr F dd P d (f + 1) (zup1 pk f p) s) r (p + 1) (if b = true then zSr F dd P d (f + 1) (zup1 pk f p) s else s)) ∧ zFr [98, 99] g2 g1 := by
          intro b hb hh
          have f1 : zFr [98, 99] g2 (zst g2 98 f ((p + 1 : Nat) : Int)) := (zFr.refl g2).st (by decide)
          obtain ⟨c, g1, q1, q2, q3, q4⟩ := ihr n8 (p + 1) s (zst g2 98 f ((p + 1 : Nat) : Int)) (by omega) (by omega) (by rw [zst_if, if_pos rfl, zup1_eq]) (zAr_fr C2 f1) ⟨fun i hi => by rw [zst_if, if_pos rfl, zup1_ne _ _ (by omega)]; exact S2.1 i hi, fun h0 i hi => by rw [zst_if, if_neg (by decide)]; exact S2.2 h0 i hi⟩ hS2
          subst hb
          refine ⟨c, g1, by omega, fun n => ?_, q3, f1.trans q4⟩
          rw [hh]
          exact q2 n
        by_cases c1 : F f p = true
        · by_cases c2 : zfr dd pk p f 0 = true
          · rw [c1, Bool.true_and, if_pos c2]
            have hL : sh_Mo_set_L82 N (n8 + 1) dd (A : Int) s.1 (f : Int) g2 = some (dd, (A : Int), s.1, (f : Int), g2) := by
              conv => enter [1]; unfold sh_Mo_set_L82
              rw [zgrd (by omega) (by omega), Int.toNat_natCast, hpf, if_neg (by omega), zgrd (by omega) (by omega), e2, zgrd (by omega) (by omega), Int.toNat_natCast, v97, if_pos c1, if_neg (by decide), zfrA_r hN (by omega) (by omega) hd S2.1 hpf, if_pos c2]
              simp only [zb1_some]
              rw [if_neg (by decide)]
            rw [hL]
            simp only [zb5_some]
            -- the deeper search
            have hdeep : ∃ g3, (∀ m, zRst N m dd (A : Int) s.1 (f : Int) g2 = sh_Mo_set_L41 N m dd (A : Int) s.1 ((f + 1 : Nat) : Int) g3) ∧ (0 < d → g3 98 (f + 1) = -1) ∧ (∀ i, i < f + 1 → g3 98 i = g2 98 i) ∧ zFr [98] g2 g3 := by
              by_cases c3 : A ≤ f + 1
              · refine ⟨g2, fun m => ?_, fun h0 => by omega, fun _ _ => rfl, zFr.refl g2⟩
                unfold zRst
                rw [zgrd (by omega) (by omega), Int.toNat_natCast, hpf, if_pos (by omega), ef1, if_pos (by omega)]
              · refine ⟨zst g2 98 (f + 1) (-1), fun m => ?_, fun h0 => by rw [zst_if, if_pos rfl, zup1_eq], fun i hi => by rw [zst_if, if_pos rfl, zup1_ne _ _ (by omega)], (zFr.refl g2).st (by decide)⟩
                unfold zRst
                rw [zgrd (by omega) (by omega), Int.toNat_natCast, hpf, if_pos (by omega), ef1, if_neg (by omega), zgrd (by omega) (by omega), Int.toNat_natCast]
            obtain ⟨g3, d1, d2, d3, d4⟩ := hdeep
            have f3 : zFr [98, 99] g2 g3 := d4.mono (by simp)
            obtain ⟨cc, g4, q1, q2, q3, q4⟩ := ih (f + 1) (zup1 pk f p) s g3 (by omega) (zAr_fr C2 f3) (zdg_up hd (by omega)) ⟨fun i hi => by
              rw [d3 i hi, zup1_if]
              by_cases e : i = f
              · rw [if_pos e, e, hpf]
              · rw [if_neg e]; exact S2.1 i (by omega), fun h0 i hi => by rw [d4 99 (by decide)]; exact S2.2 h0 i hi⟩ hS2 d2
            have f4 : zFr [98, 99] g2 g4 := f3.trans q4
            have e4 : g4 98 f = p := by rw [q3.1 f (by omega), zup1_eq]
            have f5 : zFr [98, 99] g4 (zst g4 98 f ((p + 1 : Nat) : Int)) := (zFr.refl g4).st (by decide)
            obtain ⟨c, g1, r1, r2, r3, r4⟩ := ihr N (p + 1) (zSr F dd P d (f + 1) (zup1 pk f p) s) (zst g4 98 f ((p + 1 : Nat) : Int)) (by omega) (by omega) (by rw [zst_if, if_pos rfl, zup1_eq]) (zAr_fr C2 (f4.trans f5)) ⟨fun i hi => by
              rw [zst_if, if_pos rfl, zup1_ne _ _ (by omega), q3.1 i (by omega), zup1_ne _ _ (by omega)], fun h0 i hi => by rw [zst_if, if_neg (by decide)]; exact q3.2 h0 i hi⟩ (zSr_S hP d (f + 1) _ s (by omega) (zdg_up hd (by omega)) hS2)
            refine ⟨c + 1 + cc, g1, by omega, fun n => ?_, r3, (f4.trans f5).trans r4⟩
            rw [d1, show n + (c + 1 + cc) = n + c + 1 + cc by omega, q2, show ((f + 1 : Nat) : Int) - 1 = (f : Int) by omega, zL41_s (by omega) hA, e4, e3]
            exact r2 n
          · rw [c1, Bool.true_and]
            refine hskip _ (by simpa using c2) ?_
            conv => enter [1]; unfold sh_Mo_set_L82
            rw [zgrd (by omega) (by omega), Int.toNat_natCast, hpf, if_neg (by omega), zgrd (by omega) (by omega), e2, zgrd (by omega) (by omega), Int.toNat_natCast, v97, if_pos c1, if_neg (by decide), zfrA_r hN (by omega) (by omega) hd S2.1 hpf, if_neg c2]
            simp only [zb1_some]
            rw [if_pos trivial, zgrd (by omega) (by omega), zgrd (by omega) (by omega), e3]
        · have c1' : F f p = false := by simpa using c1
          rw [c1', Bool.false_and]
          refine hskip _ rfl ?_
          conv => enter [1]; unfold sh_Mo_set_L82
          rw [zgrd (by omega) (by omega), Int.toNat_natCast, hpf, if_neg (by omega), zgrd (by omega) (by omega), e2, zgrd (by omega) (by omega), Int.toNat_natCast, v97, if_neg c1, if_pos rfl, zgrd (by omega) (by omega), zgrd (by omega) (by omega), e3]
    have f0 : zFr [98, 99] g (zst g 98 f 0) := (zFr.refl g).st (by decide)
    obtain ⟨c, g1, q1, q2, q3, q4⟩ := hl 10 N 0 s (zst g 98 f 0) (by omega) (by omega) (by rw [zst_if, if_pos rfl, zup1_eq]; rfl) (zAr_fr C f0) ⟨fun i hi => by rw [zst_if, if_pos rfl, zup1_ne _ _ (by omega)]; exact S.1 i hi, fun h0 i hi => by rw [zst_if, if_neg (by decide)]; exact S.2 h0 i hi⟩ hS
    refine ⟨c + 1, g1, ?_, fun n => ?_, q3, f0.trans q4⟩
    · show c + 1 ≤ 10 * (1 + zCo d) + 1
      omega
    · rw [show n + (c + 1) = n + c + 1 by omega, zL41_s (by omega) hA, hm (by omega), show w32 ((-1 : Int) + 1) = 0 by rw [w32_s (by decide) (by decide)]; rfl]
      exact q2 n
theorem zCo_5 : ∀ d, d < 6 → zCo d ≤ 222221 := by decide
theorem isFN_z {x : Int} {h : zHp} (hb : 0 ≤ h 1 0 ∧ h 1 0 ≤ 5) : (sh_Ox_isFarmOrNone x h = 0) = ¬ (x = -1 ∨ (0 ≤ x ∧ x < h 1 0)) := by
  apply propext
  unfold sh_Ox_isFarmOrNone
  by_cases c : x = -1
  · rw [if_pos c]
    exact ⟨fun q => absurd q (by decide), fun q => absurd (Or.inl c) q⟩
  · rw [if_neg c]
    by_cases c2 : 0 ≤ x ∧ x < h 1 0
    · have := isFarm_z (x := x) hb
      have n : ¬ sh_Ox_isFarm x h = 0 := by rw [this]; exact fun q => q c2
      first
        | (rw [if_neg n]; exact ⟨fun q => absurd q (by decide), fun q => absurd (Or.inr c2) q⟩)
        | exact ⟨fun q => absurd q n, fun q => absurd (Or.inr c2) q⟩
    · have := isFarm_z (x := x) hb
      have n : sh_Ox_isFarm x h = 0 := by rw [this]; exact c2
      first
        | (rw [if_pos n]; exact ⟨fun _ q => q.elim c c2, fun _ => rfl⟩)
        | exact ⟨fun _ q => q.elim c c2, fun _ => n⟩
theorem zc_apart {h : zHp} (x1 x2 x3 : Int) (hI : zInv h) {N : Nat} (hN : 300000 ≤ N) : ∃ h2, zcas (sh_Ox_apart N x1 x2 x3) (sh_Mo_apart N x1 x2 x3) h = some (1, h2) ∧ zInv h2 := by
  have hI' := hI
  obtain ⟨⟨hy, hk⟩, -⟩ := hI'
  have e1 : h 16 1 = h 86 1 := hy.1.2.1
  have e9 : h 1 0 = h 86 0 := hy.1.1
  have k0 := hk.1
  by_cases c1 : 0 ≤ x1 ∧ x1 ≤ 9
  case neg =>
    refine ⟨h, zcas_of (r := -1) (h1 := h) ?_ ?_, hI⟩
    · unfold sh_Ox_apart
      simp only [isDigit_z]
      rw [if_pos c1]
    · unfold sh_Mo_apart
      simp only [isIn_z]
      rw [if_pos c1]
  by_cases c2 : 0 ≤ x2 ∧ x2 < h 86 1
  case neg =>
    refine ⟨h, zcas_of (r := -1) (h1 := h) ?_ ?_, hI⟩
    · unfold sh_Ox_apart
      simp only [isDigit_z, isField_z (h := h) (x := x2) (by omega), e1]
      rw [if_neg (fun q => q c1), if_pos c2]
    · unfold sh_Mo_apart
      simp only [isIn_z, isFieldR_z (h := h) (x := x2) (by omega)]
      rw [if_neg (fun q => q c1), if_pos c2]
  by_cases c3 : x3 = -1 ∨ (0 ≤ x3 ∧ x3 < h 86 0)
  case neg =>
    refine ⟨h, zcas_of (r := -1) (h1 := h) ?_ ?_, hI⟩
    · unfold sh_Ox_apart
      simp only [isDigit_z, isField_z (h := h) (x := x2) (by omega), isFN_z (h := h) (x := x3) (by omega), e1, e9]
      rw [if_neg (fun q => q c1), if_neg (fun q => q c2), if_pos c3]
    · unfold sh_Mo_apart
      simp only [isIn_z, isFieldR_z (h := h) (x := x2) (by omega), isFarmR_z (h := h) (x := x3) (by omega)]
      rw [if_neg (fun q => q c1), if_neg (fun q => q c2), if_neg (fun q => c3 (Or.inl q)), if_pos (fun q => c3 (Or.inr q))]
  obtain ⟨T, K, R⟩ := zK_of hI
  obtain ⟨l, rfl⟩ : ∃ n : Nat, x2 = n := ⟨x2.toNat, by omega⟩
  obtain ⟨D, hD⟩ : ∃ D : Nat, h 86 2 = D := ⟨(h 86 2).toNat, by omega⟩
  obtain ⟨A, hA⟩ : ∃ A : Nat, h 86 0 = A := ⟨(h 86 0).toNat, by omega⟩
  have hP : zdg (fun i => h 86 (12 + 3 * i)) 5 := fun i hi => (hk.2.1 i hi).2.2
  -- the class
  have f0 : zFr [33, 35, 37, 78, 80, 82, 84] h (zst (zst h 78 5 x1) 78 6 (-1)) := ((zFr.refl h).st (by decide)).st (by decide)
  obtain ⟨h1, p1, p2, p3⟩ := zst_c2 (T := T) (N := N) (by omega) (l := l) hD hA (by omega) A N 0 (zst (zst h 78 5 x1) 78 6 (-1)) (zKc_fr K f0 (by decide)) (by omega) (by omega) (fun i hi => by omega)
  have f1 : zFr [33, 35, 37, 78, 80, 82, 84] h h1 := f0.trans (p3.mono (by simp))
  have C1 : zAc h1 (zFi (h 86) T D l) x1 (fun i => h 86 (12 + 3 * i)) A := by
    refine ⟨?_, by omega, p2, fun i hi => ?_, ?_⟩
    · rw [f1 1 (by decide), e9]; exact hA
    · rw [f1 7 (by decide)]
      exact (hy.2.1 i hi).2.2
    · rw [p3 78 (by decide), zst_if, if_pos rfl, zup1_ne _ _ (by decide), zst_if, if_pos rfl, zup1_eq]
  have S1 : zSc h1 A 0 (fun _ => 0) (-1, fun _ => 0) := by
    refine ⟨?_, fun i hi => by omega, fun h0 => absurd h0 (by decide)⟩
    rw [p3 78 (by decide), zst_if, if_pos rfl, zup1_eq]
  have hs0 : zsS (-1, fun _ => 0) := Or.inl rfl
  obtain ⟨h2, q1, q2, q3, q4⟩ := zse_c (N := N) (by omega) hP A 0 20 (fun _ => 0) (-1, fun _ => 0) h1 (by omega) (by omega) C1 (fun i hi => by omega) S1 hs0 (Or.inl rfl)
  have f2 : zFr [33, 35, 37, 78, 80, 82, 84] h h2 := f1.trans (q3.mono (by simp))
  have f86 := f2 86 (by decide)
  have p1' : sh_Pitches_search N x1 (l : Int) h = some h2 := by
    unfold sh_Pitches_search
    refine (congrArg (fun o => zb1 o fun h21 => zb2 (sh_Pitches_choose N 0 0 h21) fun r27 h28 => some h28) p1).trans ?_
    simp only [zb1_some]
    unfold sh_Pitches_choose
    exact congrArg (fun o => zb2 o fun r27 h28 => some h28) q1
  -- the reference
  obtain ⟨g1, r1, r2, r3⟩ := zst_r2 (T := T) (x1 := x1) (N := N) (by omega) (l := l) hD hA (by omega) A N 0 h2 (zKr_eq R f86 (f2 88 (by decide))) f86 (by omega) (by omega) (fun i hi => by omega)
  have f3 : zFr [91, 92, 93, 97, 98, 99] h2 (zst g1 98 0 (-1)) := (r3.mono (by simp)).st (by decide)
  have C2 : zAr (zst g1 98 0 (-1)) (zFi (h 86) T D l) (fun i => h 86 (12 + 3 * i)) A := by
    refine ⟨by omega, fun i hi => ?_, fun i hi => ?_⟩
    · rw [zst_if, if_neg (by decide)]; exact r2 i hi
    · rw [f3 86 (by decide), f86]
  obtain ⟨c, g2, s1, s2, s3, s4⟩ := zse_r (N := N) (dd := x1) (by omega) hP A 0 (fun _ => 0) (-1, fun _ => 0) (zst g1 98 0 (-1)) (by omega) C2 (fun i hi => by omega) ⟨fun i hi => by omega, fun h0 => absurd h0 (by decide)⟩ hs0 (fun _ => by rw [zst_if, if_pos rfl, zup1_eq])
  have hc := zCo_5 A (by omega)
  have s2' := s2 (N - c)
  rw [show N - c + c = N by omega] at s2'
  have hend : sh_Mo_set_L41 N (N - c) x1 (A : Int) (zSr (zFi (h 86) T D l) x1 (fun i => h 86 (12 + 3 * i)) A 0 (fun _ => 0) (-1, fun _ => 0)).1 (((0 : Nat) : Int) - 1) g2 = some ((zSr (zFi (h 86) T D l) x1 (fun i => h 86 (12 + 3 * i)) A 0 (fun _ => 0) (-1, fun _ => 0)).1, g2) := by
    obtain ⟨m, hm⟩ : ∃ m, N - c = m + 1 := ⟨N - c - 1, by omega⟩
    rw [hm]
    unfold sh_Mo_set_L41
    rw [if_pos (by decide)]
  rw [hend] at s2'
  have hset : sh_Mo_set N x1 (l : Int) h2 = some ((zSr (zFi (h 86) T D l) x1 (fun i => h 86 (12 + 3 * i)) A 0 (fun _ => 0) (-1, fun _ => 0)).1, g2) := by
    unfold sh_Mo_set
    rw [f86, hA]
    refine (congrArg (fun o => zb3 o fun y18 y19 h20 => zb2 (sh_Mo_set_L41 N N y18 y19 (-1) 0 (zst h20 98 0 (-1))) fun y78 h79 => some (y78, h79)) r1).trans ?_
    simp only [zb3_some]
    exact congrArg (fun o => zb2 o fun y78 h79 => some (y78, h79)) s2'
  have f4 : zFr [91, 92, 93, 97, 98, 99] h2 g2 := f3.trans (s4.mono (by simp))
  have hQ : zQ h g2 := (zQ_fr f2 (by decide)).trans (zQ_fr f4 (by decide))
  have hS := zSr_S (F := zFi (h 86) T D l) (dd := x1) hP A 0 (fun _ => 0) (-1, fun _ => 0) (by omega) (fun i hi => by omega) hs0
  generalize zSr (zFi (h 86) T D l) x1 (fun i => h 86 (12 + 3 * i)) A 0 (fun _ => 0) (-1, fun _ => 0) = s at *
  have eO : sh_Ox_apart N x1 (l : Int) x3 h = some (if s.1 = -1 then s.1 else if x3 = -1 then s.1 else s.2 x3.toNat, h2) := by
    unfold sh_Ox_apart
    simp only [isDigit_z, isField_z (h := h) (x := (l : Int)) (by omega), isFN_z (h := h) (x := x3) (by omega), e1, e9]
    rw [if_neg (fun q => q c1), if_neg (fun q => q c2), if_neg (fun q => q c3), p1']
    simp only [zb1_some]
    rw [q2.1]
    by_cases c : s.1 = -1
    · rw [if_pos c, if_pos c]
    · rw [if_neg c, if_neg c]
      by_cases c4 : x3 = -1
      · rw [if_pos c4, if_pos c4]
      · rw [if_neg c4, if_neg c4, rget_in (by omega) (by omega), q2.2.2 (hS.resolve_left c) x3.toNat (by omega)]
  have eM : sh_Mo_apart N x1 (l : Int) x3 h2 = some (if s.1 = -1 then s.1 else if x3 = -1 then s.1 else s.2 x3.toNat, g2) := by
    unfold sh_Mo_apart
    simp only [isIn_z, isFieldR_z (h := h2) (x := (l : Int)) (by rw [f86]; omega), isFarmR_z (h := h2) (x := x3) (by rw [f86]; omega), f86]
    rw [if_neg (fun q => q c1), if_neg (fun q => q c2)]
    by_cases c4 : x3 = -1
    · rw [if_pos c4, hset]
      simp only [zb2_some]
      rw [if_pos c4, ite_self]
      by_cases c : s.1 < 0
      · rw [if_pos c]
      · rw [if_neg c, if_neg (by omega)]
    · rw [if_neg c4, if_neg (fun q => q (c3.resolve_left c4)), hset]
      simp only [zb2_some]
      rw [if_neg (c := x3 = -1) c4]
      by_cases c : s.1 = -1
      · rw [if_pos (by omega), if_pos c]
      · have h0 := hS.resolve_left c
        rw [if_neg (by omega), if_neg c, if_pos (by omega), zgrd (by omega) (by omega), s3.2 h0 x3.toNat (by omega)]
  exact ⟨g2, zcas_of eO eM, zqry hI hQ⟩
