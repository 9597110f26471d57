/-! PURE: apart, the search -/
def zch (P pk : zFn) : Nat → Int
  | 0 => 0
  | f + 1 => zch P pk f + zgp (pk f) (P f)
theorem zch_e {P pk pk' : zFn} : ∀ {f : Nat}, (∀ i, i < f → pk i = pk' i) → zch P pk f = zch P pk' f := by
  intro f
  induction f with
  | zero => intro _; rfl
  | succ f ih => intro h; unfold zch; rw [ih (fun i hi => h i (by omega)), h f (by omega)]
theorem zch_b {P pk : zFn} : ∀ {f : Nat}, (∀ i, i < f → (0 ≤ pk i ∧ pk i ≤ 9) ∧ (0 ≤ P i ∧ P i ≤ 9)) → 0 ≤ zch P pk f ∧ zch P pk f ≤ 19 * f := by
  intro f
  induction f with
  | zero => intro _; unfold zch; omega
  | succ f ih =>
    intro h
    have h1 := ih (fun i hi => h i (by omega))
    have h2 := h f (by omega)
    have h3 := zgp_b (x := pk f) (y := P f) (by omega) (by omega)
    unfold zch
    omega
theorem zgp_c (x y : Int) : zgp x y = zgp y x := by
  unfold zgp
  split <;> split <;> omega
def zfr (dd : Int) (pk : zFn) (p : Int) : Nat → Nat → Bool
  | 0, _ => true
  | n + 1, i => if dd ≤ zgp p (pk i) then zfr dd pk p n (i + 1) else false
theorem zfr_e {dd : Int} {pk pk' : zFn} {p : Int} : ∀ {n i : Nat}, (∀ j, j < i + n → pk j = pk' j) → zfr dd pk p n i = zfr dd pk' p n i := by
  intro n
  induction n with
  | zero => intro i _; rfl
  | succ n ih => intro i h; unfold zfr; rw [h i (by omega), ih (fun j hj => h j (by omega))]
def zok (F : Nat → Nat → Bool) (dd : Int) (pk : zFn) (f p : Nat) : Bool := F f p && zfr dd pk p f 0
def zsp (ok : Nat → Bool) (G : Nat → Int × zFn → Int × zFn) : Nat → Nat → Int × zFn → Int × zFn
  | 0, _, s => s
  | r + 1, p, s => zsp ok G r (p + 1) (if ok p = true then G p s else s)
def zSr (F : Nat → Nat → Bool) (dd : Int) (P : zFn) : Nat → Nat → zFn → Int × zFn → Int × zFn
  | 0, f, pk, s => if s.1 < 0 ∨ zch P pk f < s.1 then (zch P pk f, pk) else s
  | d + 1, f, pk, s => zsp (zok F dd pk f) (fun p s => zSr F dd P d (f + 1) (zup1 pk f p) s) 10 0 s
/-- digits -/
def zdg (pk : zFn) (n : Nat) : Prop := ∀ i, i < n → 0 ≤ pk i ∧ pk i ≤ 9
theorem zdg_up {pk : zFn} {f p : Nat} (h : zdg pk f) (hp : p < 10) : zdg (zup1 pk f p) (f + 1) := by
  intro i hi
  rw [zup1_if]
  split
  · omega
  · exact h i (by omega)
theorem zch_up {P pk : zFn} {f p : Nat} : zch P (zup1 pk f p) (f + 1) = zch P pk f + zgp p (P f) := by
  show zch P (zup1 pk f p) f + zgp (zup1 pk f p f) (P f) = _
  rw [zup1_eq, zch_e (pk' := pk) (fun i hi => zup1_ne _ _ (by omega))]
theorem zsp_id {ok : Nat → Bool} {G : Nat → Int × zFn → Int × zFn} {s : Int × zFn} : ∀ r p, p + r ≤ 10 → (∀ q, q < 10 → G q s = s) → zsp ok G r p s = s := by
  intro r
  induction r with
  | zero => intro p _ _; rfl
  | succ r ih =>
    intro p hp h
    unfold zsp
    rw [h p (by omega), ite_self]
    exact ih (p + 1) (by omega) h
theorem zSr_id {F : Nat → Nat → Bool} {dd : Int} {P : zFn} (hP : zdg P 5) : ∀ (d f : Nat) (pk : zFn) (s : Int × zFn), f + d ≤ 5 → zdg pk f → 0 ≤ s.1 → s.1 ≤ zch P pk f → zSr F dd P d f pk s = s := by
  intro d
  induction d with
  | zero =>
    intro f pk s _ _ h0 h1
    unfold zSr
    rw [if_neg (by omega)]
  | succ d ih =>
    intro f pk s hf hd h0 h1
    unfold zSr
    refine zsp_id 10 0 (by omega) (fun q hq => ?_)
    refine ih (f + 1) _ s (by omega) (zdg_up hd hq) h0 ?_
    have := zgp_b (x := (q : Int)) (y := P f) (by omega) (by have := hP f (by omega); omega)
    rw [zch_up]
    omega
def zsS (s : Int × zFn) : Prop := s.1 = -1 ∨ 0 ≤ s.1
theorem zsp_S {ok : Nat → Bool} {G : Nat → Int × zFn → Int × zFn} : ∀ r p s, p + r ≤ 10 → zsS s → (∀ q s, q < 10 → zsS s → zsS (G q s)) → zsS (zsp ok G r p s) := by
  intro r
  induction r with
  | zero => intro p s _ h _; exact h
  | succ r ih =>
    intro p s hp h hG
    unfold zsp
    refine ih (p + 1) _ (by omega) ?_ hG
    split
    · exact hG p s (by omega) h
    · exact h
theorem zSr_S {F : Nat → Nat → Bool} {dd : Int} {P : zFn} (hP : zdg P 5) : ∀ (d f : Nat) (pk : zFn) (s : Int × zFn), f + d ≤ 5 → zdg pk f → zsS s → zsS (zSr F dd P d f pk s) := by
  intro d
  induction d with
  | zero =>
    intro f pk s hf hd h
    unfold zSr
    split
    · refine Or.inr ?_
      exact (zch_b (fun i hi => ⟨hd i hi, hP i (by omega)⟩)).1
    · exact h
  | succ d ih =>
    intro f pk s hf hd h
    unfold zSr
    exact zsp_S 10 0 s (by omega) h (fun q s hq hs => ih (f + 1) _ s (by omega) (zdg_up hd hq) hs)
/-! the class -/
/-- what stays while the class searches -/
def zAc (h : zHp) (F : Nat → Nat → Bool) (dd : Int) (P : zFn) (A : Nat) : Prop := h 1 0 = A ∧ A ≤ 5 ∧ (∀ i, i < 10 * A → h 80 i = if F (i / 10) (i % 10) = true then 1 else 0) ∧ (∀ i, i < 5 → h 7 i = P i) ∧ h 78 5 = dd
theorem zAc_fr {h h1 : zHp} {F : Nat → Nat → Bool} {dd : Int} {P : zFn} {A : Nat} (C : zAc h F dd P A) (f : zFr [78, 82, 84] h h1) (e : h1 78 5 = h 78 5) : zAc h1 F dd P A := by
  unfold zAc
  rw [f 1 (by decide), f 80 (by decide), f 7 (by decide), e]
  exact C
theorem zfr_c {h : zHp} {F : Nat → Nat → Bool} {dd : Int} {P pk : zFn} {A f p : Nat} (N : Nat) (C : zAc h F dd P A) (hf : f < 5) (hp : p < 10) (hd : zdg pk f) (hk : ∀ i, i < f → h 82 i = pk i) : ∀ (d n i : Nat), i + d = f → d < n → sh_Pitches_isFree_L2 N h n (f : Int) (p : Int) (i : Int) = some (if zfr dd pk p d i = true then .inr 0 else .inl 0) := by
  intro d
  induction d with
  | zero =>
    intro n i hi hn
    obtain ⟨n, rfl⟩ : ∃ m, n = m + 1 := ⟨n - 1, by omega⟩
    unfold sh_Pitches_isFree_L2
    rw [if_pos (by omega)]
    rfl
  | succ d ih =>
    intro n i hi hn
    obtain ⟨n, rfl⟩ : ∃ m, n = m + 1 := ⟨n - 1, by omega⟩
    have e1 : w32 ((i : Int) + 1) = ((i + 1 : Nat) : Int) := by rw [w32_s (by omega) (by omega)]; omega
    have hx := hd i (by omega)
    have ez : zabs (w32 ((p : Int) - pk i)) = zgp p (pk i) := zabs_s (by omega) (by omega)
    unfold sh_Pitches_isFree_L2
    rw [if_neg (c := (f : Int) ≤ (i : Int)) (by omega), rget_in (by omega) (by omega), Int.toNat_natCast, hk i (by omega), C.2.2.2.2, ez, e1]
    rw [show zfr dd pk p (d + 1) i = if dd ≤ zgp p (pk i) then zfr dd pk p d (i + 1) else false from rfl]
    by_cases c : dd ≤ zgp p (pk i)
    · rw [if_pos c, if_pos c]; exact ih n (i + 1) (by omega) (by omega)
    · rw [if_neg c, if_neg c]; rfl
theorem zfrA_c {h : zHp} {F : Nat → Nat → Bool} {dd : Int} {P pk : zFn} {A f p : Nat} {N : Nat} (hN : 1300 ≤ N) (C : zAc h F dd P A) (hf : f < 5) (hp : p < 10) (hd : zdg pk f) (hk : ∀ i, i < f → h 82 i = pk i) : sh_Pitches_isFree N (f : Int) (p : Int) h = some (if zfr dd pk p f 0 = true then 1 else 0) := by
  unfold sh_Pitches_isFree
  refine (congrArg (fun o => zb1 o fun w8 => zsum2 w8 (zcu1 fun y9 => some (0 : Int)) (zcu1 fun y10 => some (1 : Int))) (zfr_c N C hf hp hd hk f N 0 (by omega) (by omega))).trans ?_
  cases zfr dd pk p f 0 <;> rfl
/-- the state of the class's search -/
def zSc (h : zHp) (A f : Nat) (pk : zFn) (s : Int × zFn) : Prop := h 78 6 = s.1 ∧ (∀ i, i < f → h 82 i = pk i) ∧ (0 ≤ s.1 → ∀ i, i < A → h 84 i = s.2 i)
theorem zse_c {F : Nat → Nat → Bool} {dd : Int} {P : zFn} {A N : Nat} (hN : 1300 ≤ N) (hP : zdg P 5) : ∀ (d f kk : Nat) (pk : zFn) (s : Int × zFn) (h : zHp), f + d = A → 2 * d + 1 ≤ kk → zAc h F dd P A → zdg pk f → zSc h A f pk s → zsS s → (s.1 = -1 ∨ zch P pk f < s.1) →
    ∃ h1, sh_GC N kk 0 [(f : Int), zch P pk f] h = some (0, h1) ∧ zSc h1 A f pk (zSr F dd P d f pk s) ∧ zFr [78, 82, 84] h h1 ∧ h1 78 5 = h 78 5 := by
  intro d
  induction d with
  | zero =>
    intro f kk pk s h hf hkk C hd S hS hlt
    obtain ⟨kk, rfl⟩ : ∃ m, kk = m + 1 := ⟨kk - 1, by omega⟩
    refine ⟨rcopy (zst h 78 6 (zch P pk f)) 84 5 82 5, ?_, ?_, ?_, ?_⟩
    · show sh_b_Pitches_choose N (sh_GC N kk) (f : Int) (zch P pk f) h = _
      unfold sh_b_Pitches_choose
      rw [C.1, if_pos (by omega)]
    · have hz : zSr F dd P 0 f pk s = (zch P pk f, pk) := by
        unfold zSr
        rw [if_pos (by omega)]
      have hb : f ≤ 5 := by have := C.2.1; omega
      rw [hz]
      refine ⟨?_, fun i hi => ?_, fun _ i hi => ?_⟩
      · rw [rcopy_if, if_neg (by decide), zst_if, if_pos rfl, zup1_eq]
      · rw [rcopy_if, if_neg (by decide), zst_if, if_neg (by decide)]; exact S.2.1 i hi
      · rw [rcopy_if, if_pos rfl]
        show (if i < 5 ∧ i < 5 then _ else _) = _
        rw [if_pos (by omega), zst_if, if_neg (by decide)]
        exact S.2.1 i (by omega)
    · intro id hid
      have i1 : id ≠ 84 := fun e => hid (by simp [e])
      have i2 : id ≠ 78 := fun e => hid (by simp [e])
      rw [rcopy_if, if_neg i1, zst_if, if_neg i2]
    · rw [rcopy_if, if_neg (by decide), zst_if, if_pos rfl, zup1_ne _ _ (by decide)]
  | succ d ih =>
    intro f kk pk s h hf hkk C hd S hS hlt
    obtain ⟨kk, rfl⟩ : ∃ m, kk = m + 2 := ⟨kk - 2, by omega⟩
    have hA := C.2.1
    have hch := zch_b (P := P) (pk := pk) (f := f) (fun i hi => ⟨hd i hi, hP i (by omega)⟩)
    -- the pitches, one after the other
    have hl : ∀ (r n p : Nat) (s : Int × zFn) (h2 : zHp), p + r = 10 → r < n → zAc h2 F dd P A → zSc h2 A f pk s → zsS s → ∃ h1, sh_Pitches_choose_L19 N (sh_GC N (kk + 1)) n (f : Int) (zch P pk f) (p : Int) h2 = some h1 ∧ zSc h1 A f pk (zsp (zok F dd pk f) (fun p s => zSr F dd P d (f + 1) (zup1 pk f p) s) r p s) ∧ zFr [78, 82, 84] h2 h1 ∧ h1 78 5 = h2 78 5 := by
      intro r
      induction r with
      | zero =>
        intro n p s h2 hp hn C2 S2 hS2
        obtain ⟨n, rfl⟩ : ∃ m, n = m + 1 := ⟨n - 1, by omega⟩
        refine ⟨h2, ?_, S2, zFr.refl h2, rfl⟩
        unfold sh_Pitches_choose_L19
        rw [if_pos (by omega)]
      | succ r ihr =>
        intro n p s h2 hp hn C2 S2 hS2
        obtain ⟨n, rfl⟩ : ∃ m, n = m + 1 := ⟨n - 1, by omega⟩
        have e1 : w32 ((p : Int) + 1) = ((p + 1 : Nat) : Int) := by rw [w32_s (by omega) (by omega)]; omega
        have e2 : w32 (w32 ((f : Int) * 10) + (p : Int)) = ((10 * f + p : Nat) : Int) := by rw [w32_s (a := (f : Int) * 10) (by omega) (by omega), w32_s (by omega) (by omega)]; omega
        have v80 : h2 80 (10 * f + p) = if F f p = true then 1 else 0 := by
          rw [C2.2.2.1 (10 * f + p) (by omega), show (10 * f + p) / 10 = f by omega, show (10 * f + p) % 10 = p by omega]
        have hPf := hP f (by omega)
        have hg := zgp_b (x := (p : Int)) (y := P f) (by omega) (by omega)
        have ec : w32 (zch P pk f + zabs (w32 ((p : Int) - rget h2 7 5 (f : Int)))) = zch P (zup1 pk f p) (f + 1) := by
          rw [rget_in (by omega) (by omega), Int.toNat_natCast, C2.2.2.2.1 f (by omega), zabs_s (by omega) (by omega), zch_up, w32_s (by omega) (by omega)]
        have hok : zok F dd pk f p = (F f p && zfr dd pk p f 0) := rfl
        unfold sh_Pitches_choose_L19
        rw [if_neg (c := 10 ≤ (p : Int)) (by omega), e1, e2, rget_in (by omega) (by omega), Int.toNat_natCast, v80]
        rw [show zsp (zok F dd pk f) (fun p s => zSr F dd P d (f + 1) (zup1 pk f p) s) (r + 1) p s = zsp (zok F dd pk f) (fun p s => zSr F dd P d (f + 1) (zup1 pk f p) s) r (p + 1) (if zok F dd pk f p = true then zSr F dd P d (f + 1) (zup1 pk f p) s else s) from rfl, hok]
        by_cases c1 : F f p = true
        · rw [if_pos c1, if_neg (by decide), zfrA_c hN C2 (by omega) (by omega) hd S2.2.1, c1, Bool.true_and]
          simp only [zb1_some]
          by_cases c2 : zfr dd pk p f 0 = true
          · rw [if_pos c2, if_neg (by decide), if_pos c2, ec]
            -- pick
            suffices hpick : ∃ h3, sh_GC N (kk + 1) 1 [(f : Int), (p : Int), zch P (zup1 pk f p) (f + 1)] h2 = some (0, h3) ∧ zSc h3 A f pk (zSr F dd P d (f + 1) (zup1 pk f p) s) ∧ zFr [78, 82, 84] h2 h3 ∧ h3 78 5 = h2 78 5 by
              obtain ⟨h3, q1, q2, q3, q4⟩ := hpick
              obtain ⟨h4, r1, r2, r3, r4⟩ := ihr n (p + 1) (zSr F dd P d (f + 1) (zup1 pk f p) s) h3 (by omega) (by omega) (zAc_fr C2 q3 q4) q2 (zSr_S hP d (f + 1) _ s (by omega) (zdg_up hd (by omega)) hS2)
              refine ⟨h4, ?_, r2, q3.trans r3, r4.trans q4⟩
              rw [q1]
              simp only [zb2_some]
              exact r1
            have hgo : (s.1 = -1 ∨ zch P (zup1 pk f p) (f + 1) < s.1) → ∃ h3, sh_GC N kk 0 [w32 ((f : Int) + 1), zch P (zup1 pk f p) (f + 1)] (rput h2 82 5 (f : Int) (p : Int)) = some (0, h3) ∧ zSc h3 A f pk (zSr F dd P d (f + 1) (zup1 pk f p) s) ∧ zFr [78, 82, 84] h2 h3 ∧ h3 78 5 = h2 78 5 := by
              intro hlt2
              have ef : w32 ((f : Int) + 1) = ((f + 1 : Nat) : Int) := by rw [w32_s (by omega) (by omega)]; omega
              rw [ef, rput_in (by omega) (by omega), Int.toNat_natCast]
              have f3 : zFr [78, 82, 84] h2 (zst h2 82 f p) := (zFr.refl h2).st (by decide)
              have e5 : zst h2 82 f p 78 5 = h2 78 5 := by rw [zst_if, if_neg (by decide)]
              have S3 : zSc (zst h2 82 f p) A (f + 1) (zup1 pk f p) s := by
                refine ⟨?_, fun i hi => ?_, fun h0 i hi => ?_⟩
                · rw [zst_if, if_neg (by decide)]; exact S2.1
                · rw [zst_if, if_pos rfl, zup1_if, zup1_if]
                  split
                  · rfl
                  · exact S2.2.1 i (by omega)
                · rw [zst_if, if_neg (by decide)]; exact S2.2.2 h0 i hi
              obtain ⟨h3, q1, q2, q3, q4⟩ := ih (f + 1) kk (zup1 pk f p) s (zst h2 82 f p) (by omega) (by omega) (zAc_fr C2 f3 e5) (zdg_up hd (by omega)) S3 hS2 hlt2
              refine ⟨h3, q1, ⟨q2.1, fun i hi => ?_, q2.2.2⟩, f3.trans q3, q4.trans e5⟩
              rw [q2.2.1 i (by omega), zup1_ne _ _ (by omega)]
            show ∃ h3, sh_b_Pitches_pick N (sh_GC N kk) (f : Int) (p : Int) (zch P (zup1 pk f p) (f + 1)) h2 = some (0, h3) ∧ _
            unfold sh_b_Pitches_pick
            rw [S2.1]
            by_cases c3 : s.1 = -1
            · rw [if_pos c3]
              obtain ⟨h3, q1, q2⟩ := hgo (Or.inl c3)
              refine ⟨h3, ?_, q2⟩
              rw [q1]
              rfl
            · rw [if_neg c3]
              by_cases c4 : s.1 ≤ zch P (zup1 pk f p) (f + 1)
              · rw [if_pos c4]
                refine ⟨h2, rfl, ?_, zFr.refl h2, rfl⟩
                rw [zSr_id hP d (f + 1) _ s (by omega) (zdg_up hd (by omega)) (hS2.resolve_left c3) c4]
                exact S2
              · rw [if_neg c4]
                obtain ⟨h3, q1, q2⟩ := hgo (Or.inr (by omega))
                refine ⟨h3, ?_, q2⟩
                rw [q1]
                rfl
          · rw [if_neg c2, if_pos rfl, if_neg c2]
            exact ihr n (p + 1) s h2 (by omega) (by omega) C2 S2 hS2
        · rw [if_neg c1, if_pos rfl, if_neg (by simp [c1])]
          exact ihr n (p + 1) s h2 (by omega) (by omega) C2 S2 hS2
    obtain ⟨h1, q1, q2, q3, q4⟩ := hl 10 N 0 s h (by omega) (by omega) C S hS
    refine ⟨h1, ?_, q2, q3, q4⟩
    show sh_b_Pitches_choose N (sh_GC N (kk + 1)) (f : Int) (zch P pk f) h = _
    unfold sh_b_Pitches_choose
    rw [C.1, if_neg (c := (A : Int) ≤ (f : Int)) (by omega), if_pos (by omega)]
    exact congrArg (fun o => zb1 o fun h38 => some ((0 : Int), h38)) q1
