/-! PURE: text, the reference's tokens -/
theorem zlor_n {x y : Nat} (hx : x < 2 ^ 62) (hy : y < 2 ^ 62) : zlor (x : Int) (y : Int) = ((x ||| y : Nat) : Int) := by
  have hxy : x ||| y < 2 ^ 62 := Nat.or_lt_two_pow hx hy
  have e : Int64.ofInt (x : Int) ||| Int64.ofInt (y : Int) = Int64.ofInt ((x ||| y : Nat) : Int) := by
    apply Int64.toBitVec_inj.mp
    rw [Int64.toBitVec_or]
    show BitVec.ofInt 64 (x : Int) ||| BitVec.ofInt 64 (y : Int) = BitVec.ofInt 64 ((x ||| y : Nat) : Int)
    rw [BitVec.ofInt_natCast, BitVec.ofInt_natCast, BitVec.ofInt_natCast]
    apply BitVec.eq_of_toNat_eq
    rw [BitVec.toNat_or, BitVec.toNat_ofNat, BitVec.toNat_ofNat, BitVec.toNat_ofNat, Nat.mod_eq_of_lt (by omega), Nat.mod_eq_of_lt (by omega), Nat.mod_eq_of_lt (by omega)]
  unfold zlor
  rw [e]
  exact w64_t ⟨by omega, by omega⟩
theorem zlshl_n {x : Nat} (hx : x < 2 ^ 54) : zlshl (x : Int) 8 = ((x * 256 : Nat) : Int) := by
  have e : Int64.ofInt (x : Int) <<< ((Int32.ofInt 8).toInt64 &&& 63) = Int64.ofInt ((x * 256 : Nat) : Int) := by
    apply Int64.toBitVec_inj.mp
    rw [Int64.toBitVec_shiftLeft]
    have e8 : (((Int32.ofInt 8).toInt64 &&& 63).toBitVec.smod 64).toNat = 8 := by decide +kernel
    show (BitVec.ofInt 64 (x : Int)) <<< (((Int32.ofInt 8).toInt64 &&& 63).toBitVec.smod 64).toNat = BitVec.ofInt 64 ((x * 256 : Nat) : Int)
    rw [e8, BitVec.ofInt_natCast, BitVec.ofInt_natCast]
    apply BitVec.eq_of_toNat_eq
    rw [BitVec.toNat_shiftLeft, BitVec.toNat_ofNat, BitVec.toNat_ofNat, Nat.shiftLeft_eq, Nat.mod_eq_of_lt (a := x) (by omega)]
  unfold zlshl
  rw [e]
  exact w64_t ⟨by omega, by omega⟩
theorem zpk_n {x c : Nat} (hx : x < 2 ^ 54) (hc : c < 256) : zlor (zlshl (x : Int) 8) (c : Int) = ((x * 256 + c : Nat) : Int) := by
  rw [zlshl_n hx, zlor_n (by omega) (by omega)]
  congr 1
  have := Nat.shiftLeft_add_eq_or_of_lt (a := x) (b := c) (i := 8) (by omega)
  rw [Nat.shiftLeft_eq] at this
  exact this.symm
/-- letters packed -/
def zpk : List Int → Nat → Nat
  | [], a => a
  | c :: L, a => zpk L (a * 256 + c.toNat)
def zlet (L : List Int) : Prop := ∀ c ∈ L, 1 ≤ c ∧ c ≤ 255
theorem zpk_i : ∀ (L L' : List Int) (a a' : Nat), L.length = L'.length → zlet L → zlet L' → zpk L a = zpk L' a' → a = a' ∧ L = L' := by
  intro L
  induction L with
  | nil =>
    intro L' a a' hl _ _ h
    cases L' with
    | nil => exact ⟨h, rfl⟩
    | cons c L' => simp at hl
  | cons c L ih =>
    intro L' a a' hl h1 h2 h
    cases L' with
    | nil => simp at hl
    | cons c' L' =>
      have b1 := h1 c List.mem_cons_self
      have b2 := h2 c' List.mem_cons_self
      obtain ⟨e1, e2⟩ := ih L' (a * 256 + c.toNat) (a' * 256 + c'.toNat) (by simpa using hl) (fun x hx => h1 x (List.mem_cons_of_mem _ hx)) (fun x hx => h2 x (List.mem_cons_of_mem _ hx)) h
      have : c = c' := by omega
      exact ⟨by omega, by rw [this, e2]⟩
theorem zpk_b : ∀ (L : List Int) (a : Nat), zlet L → a * 256 ^ L.length ≤ zpk L a ∧ zpk L a < (a + 1) * 256 ^ L.length := by
  intro L
  induction L with
  | nil => intro a _; simp [zpk]
  | cons c L ih =>
    intro a h
    have b1 := h c List.mem_cons_self
    obtain ⟨h1, h2⟩ := ih (a * 256 + c.toNat) (fun x hx => h x (List.mem_cons_of_mem _ hx))
    have hp : 256 ^ (L.length + 1) = 256 ^ L.length * 256 := Nat.pow_succ 256 L.length
    rw [List.length_cons, hp]
    have e1 : a * (256 ^ L.length * 256) = (a * 256) * 256 ^ L.length := by rw [Nat.mul_comm (256 ^ L.length) 256, Nat.mul_assoc]
    have e2 : (a + 1) * (256 ^ L.length * 256) = ((a + 1) * 256) * 256 ^ L.length := by rw [Nat.mul_comm (256 ^ L.length) 256, Nat.mul_assoc]
    have m1 : (a * 256) * 256 ^ L.length ≤ (a * 256 + c.toNat) * 256 ^ L.length := Nat.mul_le_mul_right _ (by omega)
    have m2 : (a * 256 + c.toNat + 1) * 256 ^ L.length ≤ ((a + 1) * 256) * 256 ^ L.length := Nat.mul_le_mul_right _ (by omega)
    rw [e1, e2]
    show _ ≤ zpk L (a * 256 + c.toNat) ∧ zpk L (a * 256 + c.toNat) < _
    omega
theorem zpk_c {L w : List Int} (hL : zlet L) (hw : zlet w) (hn : w ≠ []) : zpk L 0 = zpk w 0 ↔ L = w := by
  constructor
  · intro h
    have hb : ∀ L : List Int, zlet L → L ≠ [] → 256 ^ (L.length - 1) ≤ zpk L 0 ∧ zpk L 0 < 256 ^ L.length := by
      intro L hL hne
      cases L with
      | nil => exact absurd rfl hne
      | cons c L =>
        have b1 := hL c List.mem_cons_self
        have h1 := zpk_b L (0 * 256 + c.toNat) (fun x hx => hL x (List.mem_cons_of_mem _ hx))
        have h2 := zpk_b (c :: L) 0 hL
        rw [Nat.zero_add, Nat.one_mul] at h2
        refine ⟨?_, h2.2⟩
        have : 1 * 256 ^ L.length ≤ (0 * 256 + c.toNat) * 256 ^ L.length := Nat.mul_le_mul_right _ (by omega)
        rw [Nat.one_mul] at this
        show 256 ^ L.length ≤ zpk L (0 * 256 + c.toNat)
        omega
    have hbw := hb w hw hn
    by_cases e : L.length = w.length
    · exact (zpk_i L w 0 0 e hL hw h).2
    · exfalso
      by_cases z : L = []
      · rw [z] at h
        have : 0 < 256 ^ (w.length - 1) := Nat.pow_pos (by decide)
        have h0 : zpk [] 0 = 0 := rfl
        omega
      · have hbL := hb L hL z
        have l1 : 0 < L.length := List.length_pos_iff.mpr z
        have l2 : 0 < w.length := List.length_pos_iff.mpr hn
        rcases Nat.lt_or_gt_of_ne e with q | q
        · have : 256 ^ L.length ≤ 256 ^ (w.length - 1) := Nat.pow_le_pow_right (by decide) (by omega)
          omega
        · have : 256 ^ w.length ≤ 256 ^ (L.length - 1) := Nat.pow_le_pow_right (by decide) (by omega)
          omega
  · intro h; rw [h]
/-- the reference's cells of a tape -/
def zTp (g : zHp) (b : zFn) (len : Nat) : Prop := g 85 4 = len ∧ len ≤ 300 ∧ (∀ i, i < 300 → g 89 i = b i) ∧ ∀ i, i < 300 → 0 ≤ b i ∧ b i ≤ 255
def zF85 (S : List Nat) (h h1 : zHp) : Prop := (∀ id, id ≠ 85 → h1 id = h id) ∧ ∀ j, j ∉ S → h1 85 j = h 85 j
theorem zF85.refl {S : List Nat} (h : zHp) : zF85 S h h := ⟨fun _ _ => rfl, fun _ _ => rfl⟩
theorem zF85.trans {S : List Nat} {h h1 h2 : zHp} (a : zF85 S h h1) (b : zF85 S h1 h2) : zF85 S h h2 := ⟨fun id q => (b.1 id q).trans (a.1 id q), fun j q => (b.2 j q).trans (a.2 j q)⟩
theorem zF85.mono {S S' : List Nat} {h h1 : zHp} (a : zF85 S h h1) (b : ∀ x, x ∈ S → x ∈ S') : zF85 S' h h1 := ⟨a.1, fun j q => a.2 j (fun r => q (b j r))⟩
theorem zF85.st {S : List Nat} {h h1 : zHp} {i : Nat} {v : Int} (a : zF85 S h h1) (hi : i ∈ S) : zF85 S h (zst h1 85 i v) := by
  refine ⟨fun id q => by rw [zst_if, if_neg q]; exact a.1 id q, fun j q => ?_⟩
  have : j ≠ i := fun e => q (by rw [e]; exact hi)
  rw [zst_if, if_pos rfl, zup1_ne _ _ this]
  exact a.2 j q
theorem zTp_f {S : List Nat} {g g1 : zHp} {b : zFn} {len : Nat} (T : zTp g b len) (f : zF85 S g g1) (h4 : 4 ∉ S) : zTp g1 b len := by
  unfold zTp
  rw [f.2 4 h4, f.1 89 (by decide)]
  exact T
def zbA (b : zFn) (len p : Nat) : Int := if len ≤ p then -1 else b p
theorem zba_r {g : zHp} {b : zFn} {len p : Nat} {N : Nat} (T : zTp g b len) : sh_Mo_byteAt N (p : Int) g = some (zbA b len p) := by
  obtain ⟨t1, t2, t3, t4⟩ := T
  unfold sh_Mo_byteAt zbA
  rw [t1]
  by_cases c : len ≤ p
  · rw [if_pos (by omega), if_pos c]
  · rw [if_neg (by omega), if_neg c, zgrd (by omega) (by omega), Int.toNat_natCast, t3 p (by omega)]
theorem zbkL_r {b : zFn} {len : Nat} (N : Nat) : ∀ (d n p : Nat) (g : zHp), d = len - p → zTp g b len → g 85 7 = p → p ≤ len → d < n → ∃ g1, sh_Mo_nextToken_L0 N n g = some g1 ∧ g1 85 7 = (zru zbk b len p : Int) ∧ zF85 [7] g g1 := by
  intro d
  induction d with
  | zero =>
    intro n p g hd T e7 hp hn
    obtain ⟨n, rfl⟩ : ∃ m, n = m + 1 := ⟨n - 1, by omega⟩
    refine ⟨g, ?_, by rw [zru_e (by omega)]; exact e7, zF85.refl g⟩
    unfold sh_Mo_nextToken_L0
    rw [e7, zba_r T]
    simp only [zb1_some]
    unfold zbA
    rw [if_pos (c := len ≤ p) (by omega), if_neg (by decide), if_neg (by decide)]
  | succ d ih =>
    intro n p g hd T e7 hp hn
    obtain ⟨n, rfl⟩ : ∃ m, n = m + 1 := ⟨n - 1, by omega⟩
    have hl := T.2.1
    have hz : zbA b len p = b p := if_neg (by omega)
    unfold sh_Mo_nextToken_L0
    rw [e7, zba_r T]
    simp only [zb1_some]
    rw [hz, w32_s (a := (p : Int) + 1) (by omega) (by omega)]
    obtain ⟨g1, r1, r2, r3⟩ := ih n (p + 1) (zst g 85 7 ((p + 1 : Nat) : Int)) (by omega) (zTp_f T ((zF85.refl g).st (S := [7]) (by decide)) (by decide)) (by rw [zst_if, if_pos rfl, zup1_eq]) (by omega) (by omega)
    by_cases c1 : b p = 32
    · rw [if_pos c1, zru_s (by omega) (decide_eq_true (Or.inl c1))]
      exact ⟨g1, r1, r2, ((zF85.refl g).st (by decide)).trans r3⟩
    · rw [if_neg c1]
      by_cases c2 : b p = 10
      · rw [if_pos c2, zru_s (by omega) (decide_eq_true (Or.inr c2))]
        exact ⟨g1, r1, r2, ((zF85.refl g).st (by decide)).trans r3⟩
      · rw [if_neg c2, zru_e (fun q => (of_decide_eq_true q.2).elim c1 c2)]
        exact ⟨g, rfl, e7, zF85.refl g⟩
theorem isdR_z {c : Int} : (sh_Mo_isDigit c = 0) = ¬ (zdt c = true) := by
  unfold sh_Mo_isDigit
  rw [isIn_z]
  unfold zdt
  rw [decide_eq_true_iff]
theorem islR_z {c : Int} : (sh_Mo_isLetter c = 0) = ¬ (zlt c = true) := by
  apply propext
  unfold sh_Mo_isLetter zlt
  simp only [isIn_z]
  rw [decide_eq_true_iff]
  by_cases h : 97 ≤ c ∧ c ≤ 122
  · rw [if_neg (fun q => q h)]; exact ⟨fun q => absurd q (by decide), fun q => absurd (Or.inl h) q⟩
  · rw [if_pos h]
    by_cases g : 65 ≤ c ∧ c ≤ 90
    · rw [if_neg (fun q => q g)]; exact ⟨fun q => absurd q (by decide), fun q => absurd (Or.inr g) q⟩
    · rw [if_pos g]; exact ⟨fun _ q => q.elim h g, fun _ => rfl⟩
/-- numbers of both sides -/
def znR (x y : Int) : Prop := (x = y ∧ 0 ≤ x ∧ x ≤ 9999) ∨ (x = 10000 ∧ 10000 ≤ y ∧ y ≤ 1000000)
theorem zdgL_r {b : zFn} {len : Nat} (N : Nat) : ∀ (d n p : Nat) (x y : Int) (g : zHp), d = len - p → zTp g b len → g 85 7 = p → g 85 10 = y → znR x y → p ≤ len → d < n → ∃ g1, sh_Mo_nextToken_L43 N n g = some g1 ∧ g1 85 7 = (zru zdt b len p : Int) ∧ znR (zCn b (zru zdt b len p - p) p x) (g1 85 10) ∧ zF85 [7, 10] g g1 := by
  intro d
  induction d with
  | zero =>
    intro n p x y g hd T e7 e10 hxy hp hn
    obtain ⟨n, rfl⟩ : ∃ m, n = m + 1 := ⟨n - 1, by omega⟩
    refine ⟨g, ?_, by rw [zru_e (by omega)]; exact e7, by rw [zru_e (by omega), Nat.sub_self, e10]; exact hxy, zF85.refl g⟩
    unfold sh_Mo_nextToken_L43
    rw [e7, zba_r T]
    simp only [zb1_some, isdR_z]
    unfold zbA
    rw [if_pos (c := len ≤ p) (by omega), if_pos (by decide)]
  | succ d ih =>
    intro n p x y g hd T e7 e10 hxy hp hn
    obtain ⟨n, rfl⟩ : ∃ m, n = m + 1 := ⟨n - 1, by omega⟩
    have hl := T.2.1
    have hz : zbA b len p = b p := if_neg (by omega)
    unfold sh_Mo_nextToken_L43
    rw [e7, zba_r T]
    simp only [zb1_some, isdR_z]
    rw [hz, e10, w32_s (a := (p : Int) + 1) (by omega) (by omega)]
    by_cases c : zdt (b p) = true
    · have hc := of_decide_eq_true c
      have hzr := zru_b (P := zdt) (b := b) (len := len) (p := p + 1)
      rw [if_neg (fun q => q c), zru_s (by omega) c]
      have hcn : zCn b (zru zdt b len (p + 1) - p) p x = zCn b (zru zdt b len (p + 1) - (p + 1)) (p + 1) (zmin (x * 10 + b p - 48) 10000) := by
        rw [show zru zdt b len (p + 1) - p = (zru zdt b len (p + 1) - (p + 1)) + 1 by omega]; rfl
      rw [hcn]
      by_cases c2 : 100000 ≤ y
      · rw [if_pos c2]
        obtain ⟨g1, r1, r2, r3, r4⟩ := ih n (p + 1) (zmin (x * 10 + b p - 48) 10000) y (zst g 85 7 ((p + 1 : Nat) : Int)) (by omega) (zTp_f T ((zF85.refl g).st (S := [7]) (by decide)) (by decide)) (by rw [zst_if, if_pos rfl, zup1_eq]) (by rw [zst_if, if_pos rfl, zup1_ne _ _ (by decide)]; exact e10) (by
          unfold znR at hxy ⊢
          unfold zmin
          split <;> omega) (by omega) (by omega)
        exact ⟨g1, r1, r2, r3, ((zF85.refl g).st (by decide)).trans r4⟩
      · rw [if_neg c2]
        have hy : 0 ≤ y := by unfold znR at hxy; omega
        have ev : zst g 85 10 (w32 (w32 (w32 (10 * y) + b p) - 48)) 85 7 = (p : Int) := by rw [zst_if, if_pos rfl, zup1_ne _ _ (by decide)]; exact e7
        rw [ev, w32_s (a := (p : Int) + 1) (by omega) (by omega), w32_s (a := 10 * y) (by omega) (by omega), w32_s (a := 10 * y + b p) (by omega) (by omega), w32_s (a := 10 * y + b p - 48) (by omega) (by omega)]
        obtain ⟨g1, r1, r2, r3, r4⟩ := ih n (p + 1) (zmin (x * 10 + b p - 48) 10000) (10 * y + b p - 48) (zst (zst g 85 10 (10 * y + b p - 48)) 85 7 ((p + 1 : Nat) : Int)) (by omega) (zTp_f T (((zF85.refl g).st (S := [7, 10]) (by decide)).st (by decide)) (by decide)) (by rw [zst_if, if_pos rfl, zup1_eq]) (by rw [zst_if, if_pos rfl, zup1_ne _ _ (by decide), zst_if, if_pos rfl, zup1_eq]) (by
          unfold znR at hxy ⊢
          unfold zmin
          split <;> omega) (by omega) (by omega)
        exact ⟨g1, r1, r2, r3, (((zF85.refl g).st (by decide)).st (by decide)).trans r4⟩
    · rw [if_pos c, zru_e (fun q => c q.2), Nat.sub_self]
      exact ⟨g, rfl, e7, by rw [e10]; exact hxy, zF85.refl g⟩
theorem zpk_7 {L : List Int} (h : zlet L) (hl : L.length ≤ 6) : zpk L 0 < 2 ^ 54 := by
  have := (zpk_b L 0 h).2
  rw [Nat.zero_add, Nat.one_mul] at this
  have h2 : 256 ^ L.length ≤ 256 ^ 6 := Nat.pow_le_pow_right (by decide) hl
  have h3 : (256 : Nat) ^ 6 = 281474976710656 := by decide
  omega
theorem zpk_a : ∀ (L : List Int) (a : Nat) (c : Int), zpk (L ++ [c]) a = zpk L a * 256 + c.toNat := by
  intro L
  induction L with
  | nil => intro a c; rfl
  | cons x L ih => intro a c; exact ih _ c
theorem zBy_a (b : zFn) : ∀ n s, zBy b (n + 1) s = zBy b n s ++ [b (s + n)] := by
  intro n
  induction n with
  | zero => intro s; rfl
  | succ n ih =>
    intro s
    show b s :: zBy b (n + 1) (s + 1) = b s :: (zBy b n (s + 1) ++ [b (s + (n + 1))])
    rw [ih (s + 1), show s + 1 + n = s + (n + 1) by omega]
theorem zBy_m (b : zFn) : ∀ n s c, c ∈ zBy b n s → ∃ i, s ≤ i ∧ i < s + n ∧ c = b i := by
  intro n
  induction n with
  | zero => intro s c h; cases h
  | succ n ih =>
    intro s c h
    rcases List.mem_cons.mp h with rfl | h
    · exact ⟨s, Nat.le_refl s, by omega, rfl⟩
    · obtain ⟨i, h1, h2, h3⟩ := ih (s + 1) c h
      exact ⟨i, by omega, by omega, h3⟩
theorem zlet_B {b : zFn} {len s n : Nat} (h : ∀ i, s ≤ i → i < s + n → zlt (b i) = true) : zlet (zBy b n s) := by
  intro c hc
  obtain ⟨i, h1, h2, rfl⟩ := zBy_m b n s c hc
  have := of_decide_eq_true (h i h1 h2)
  omega
theorem zleL_r {b : zFn} {len s : Nat} (N : Nat) : ∀ (d n p : Nat) (g : zHp), d = len - p → zTp g b len → g 85 7 = p → g 85 8 = s → s ≤ p → (∀ i, s ≤ i → i < p → zlt (b i) = true) → g 85 11 = (zpk (zBy b (if p - s ≤ 7 then p - s else 7) s) 0 : Int) → p ≤ len → d < n →
    ∃ g1, sh_Mo_nextToken_L82 N n g = some g1 ∧ g1 85 7 = (zru zlt b len p : Int) ∧ g1 85 11 = (zpk (zBy b (if zru zlt b len p - s ≤ 7 then zru zlt b len p - s else 7) s) 0 : Int) ∧ zF85 [7, 11] g g1 := by
  intro d
  induction d with
  | zero =>
    intro n p g hd T e7 e8 hs hin e11 hp hn
    obtain ⟨n, rfl⟩ : ∃ m, n = m + 1 := ⟨n - 1, by omega⟩
    refine ⟨g, ?_, by rw [zru_e (by omega)]; exact e7, by rw [zru_e (by omega)]; exact e11, zF85.refl g⟩
    unfold sh_Mo_nextToken_L82
    rw [e7, zba_r T]
    simp only [zb1_some, islR_z]
    unfold zbA
    rw [if_pos (c := len ≤ p) (by omega), if_pos (by decide)]
  | succ d ih =>
    intro n p g hd T e7 e8 hs hin e11 hp hn
    obtain ⟨n, rfl⟩ : ∃ m, n = m + 1 := ⟨n - 1, by omega⟩
    have hz : zbA b len p = b p := if_neg (by omega)
    have hl := T.2.1
    unfold sh_Mo_nextToken_L82
    rw [e7, zba_r T]
    simp only [zb1_some, islR_z]
    rw [hz, e8, w32_s (a := (p : Int) + 1) (by omega) (by omega), w32_s (a := (p : Int) - (s : Int)) (by omega) (by omega)]
    by_cases c : zlt (b p) = true
    · have hc := of_decide_eq_true c
      rw [if_neg (fun q => q c), zru_s (by omega) c]
      have hin' : ∀ i, s ≤ i → i < p + 1 → zlt (b i) = true := fun i h1 h2 => by
        by_cases e : i = p
        · rw [e]; exact c
        · exact hin i h1 (by omega)
      by_cases c2 : 7 ≤ (p : Int) - (s : Int)
      · rw [if_pos c2]
        obtain ⟨g1, r1, r2, r3, r4⟩ := ih n (p + 1) (zst g 85 7 ((p + 1 : Nat) : Int)) (by omega) (zTp_f T ((zF85.refl g).st (S := [7]) (by decide)) (by decide)) (by rw [zst_if, if_pos rfl, zup1_eq]) (by rw [zst_if, if_pos rfl, zup1_ne _ _ (by decide)]; exact e8) (by omega) hin' (by
          rw [zst_if, if_pos rfl, zup1_ne _ _ (by decide), e11]
          have h1 : (if p - s ≤ 7 then p - s else 7) = 7 := by split <;> omega
          have h2 : (if p + 1 - s ≤ 7 then p + 1 - s else 7) = 7 := by split <;> omega
          rw [h1, h2]) (by omega) (by omega)
        exact ⟨g1, r1, r2, r3, ((zF85.refl g).st (by decide)).trans r4⟩
      · rw [if_neg c2, e11]
        have h1 : (if p - s ≤ 7 then p - s else 7) = p - s := if_pos (by omega)
        have h2 : (if p + 1 - s ≤ 7 then p + 1 - s else 7) = (p - s) + 1 := by rw [if_pos (by omega)]; omega
        have hw : zlor (zlshl (zpk (zBy b (if p - s ≤ 7 then p - s else 7) s) 0 : Int) 8) (b p) = (zpk (zBy b (if p + 1 - s ≤ 7 then p + 1 - s else 7) s) 0 : Int) := by
          rw [h1, h2, zBy_a, zpk_a, show s + (p - s) = p by omega]
          have hle : zlet (zBy b (p - s) s) := zlet_B (len := len) (fun i h1 h2 => hin i h1 (by omega))
          obtain ⟨bn, hbn⟩ : ∃ n : Nat, b p = n := ⟨(b p).toNat, by omega⟩
          rw [hbn, Int.toNat_natCast]
          exact zpk_n (zpk_7 hle (by rw [zBy_l]; omega)) (by omega)
        rw [hw]
        have ev : zst g 85 11 (zpk (zBy b (if p + 1 - s ≤ 7 then p + 1 - s else 7) s) 0 : Int) 85 7 = (p : Int) := by rw [zst_if, if_pos rfl, zup1_ne _ _ (by decide)]; exact e7
        rw [ev, w32_s (a := (p : Int) + 1) (by omega) (by omega)]
        obtain ⟨g1, r1, r2, r3, r4⟩ := ih n (p + 1) (zst (zst g 85 11 (zpk (zBy b (if p + 1 - s ≤ 7 then p + 1 - s else 7) s) 0 : Int)) 85 7 ((p + 1 : Nat) : Int)) (by omega) (zTp_f T (((zF85.refl g).st (S := [7, 11]) (by decide)).st (by decide)) (by decide)) (by rw [zst_if, if_pos rfl, zup1_eq]) (by rw [zst_if, if_pos rfl, zup1_ne _ _ (by decide), zst_if, if_pos rfl, zup1_ne _ _ (by decide)]; exact e8) (by omega) hin' (by rw [zst_if, if_pos rfl, zup1_ne _ _ (by decide), zst_if, if_pos rfl, zup1_eq]) (by omega) (by omega)
        exact ⟨g1, r1, r2, r3, (((zF85.refl g).st (by decide)).st (by decide)).trans r4⟩
    · rw [if_pos c, zru_e (fun q => c q.2)]
      exact ⟨g, rfl, e7, e11, zF85.refl g⟩
/-- the reference's token against the code -/
def zSgn : List (Int × Int) := [(20, 60), (21, 62), (22, 61), (23, 35), (24, 43), (25, 45), (26, 42), (27, 47), (28, 40), (29, 41), (30, 59), (31, 4), (32, 5), (36, 3)]
def zTK (g : zHp) (b : zFn) (len p : Nat) : Prop := (g 85 7 = (zne b len p : Int) ∧ g 85 8 = (zPl2 b len p : Int)) ∧
  ((zco b len p = 35 ∧ g 85 9 = 0) ∨ (zco b len p = 34 ∧ g 85 9 = 1 ∧ znR (znu b len p) (g 85 10)) ∨
   (g 85 9 = 2 ∧ (∃ L, L = zBy b (zne b len p - zPl2 b len p) (zPl2 b len p) ∧ zlet L ∧ zco b len p = zwx zWds 0 L ∧ g 85 11 = (if L.length ≤ 7 then (zpk L 0 : Int) else 0))) ∨
   ((zco b len p, g 85 9) ∈ zSgn))
def zsT (c : Int) : Int := if (if c = 60 then 1 else (if c = 62 then 1 else (if c = 61 then 1 else (if c = 35 then 1 else (if c = 43 then 1 else (if c = 45 then 1 else (if c = 42 then 1 else (if c = 47 then 1 else (if c = 40 then 1 else (if c = 41 then 1 else (if c = 59 then 1 else 0 : Int) : Int) : Int) : Int) : Int) : Int) : Int) : Int) : Int) : Int) : Int) = 0 then 3 else c
theorem zsT_m (c : Int) : (zsg c, zsT c) ∈ zSgn := by
  by_cases h1 : c = 60
  · subst h1; decide
  by_cases h2 : c = 62
  · subst h2; decide
  by_cases h3 : c = 61
  · subst h3; decide
  by_cases h4 : c = 35
  · subst h4; decide
  by_cases h5 : c = 43
  · subst h5; decide
  by_cases h6 : c = 45
  · subst h6; decide
  by_cases h7 : c = 42
  · subst h7; decide
  by_cases h8 : c = 47
  · subst h8; decide
  by_cases h9 : c = 40
  · subst h9; decide
  by_cases h10 : c = 41
  · subst h10; decide
  by_cases h11 : c = 59
  · subst h11; decide
  unfold zsg zsT
  simp only [if_neg h1, if_neg h2, if_neg h3, if_neg h4, if_neg h5, if_neg h6, if_neg h7, if_neg h8, if_neg h9, if_neg h10, if_neg h11, if_true]
  decide
theorem znxt_r {g : zHp} {b : zFn} {len p : Nat} {N : Nat} (hN : 1300 ≤ N) (T : zTp g b len) (hp : p ≤ len) (e7 : g 85 7 = p) : ∃ g1, sh_Mo_nextToken N g = some g1 ∧ zTK g1 b len p ∧ zF85 [7, 8, 9, 10, 11] g g1 := by
  have hl := T.2.1
  obtain ⟨g0, p1, p2, p3⟩ := zbkL_r (b := b) (len := len) N (len - p) N p g rfl T e7 hp (by omega)
  have hs : zru zbk b len p = zPl2 b len p := rfl
  have hsb := (zne_b (b := b) (len := len) hp)
  rw [hs] at p2
  obtain ⟨g2, e2⟩ : ∃ g2, zst g0 85 8 (g0 85 7) = g2 := ⟨_, rfl⟩
  have f2 : zF85 [7, 8, 9, 10, 11] g g2 := by rw [← e2]; exact (p3.mono (by simp)).st (by decide)
  have v8 : g2 85 8 = (zPl2 b len p : Int) := by rw [← e2, zst_if, if_pos rfl, zup1_eq]; exact p2
  have v7 : g2 85 7 = (zPl2 b len p : Int) := by rw [← e2, zst_if, if_pos rfl, zup1_ne _ _ (by decide)]; exact p2
  have T2 : zTp g2 b len := zTp_f T f2 (by decide)
  unfold zTK zco zCo1 znu zne zNx1
  generalize zPl2 b len p = s at *
  unfold sh_Mo_nextToken
  have hgo : ∀ K : zHp → Option zHp, (zb1 (sh_Mo_nextToken_L0 N N g) K) = K g0 := fun K => (congrArg (fun o => zb1 o K) p1).trans rfl
  rw [hgo]
  rw [e2, v7, zba_r T2]
  simp only [zb1_some]
  by_cases c0 : len ≤ s
  · have hz : zbA b len s = -1 := if_pos c0
    rw [hz, if_neg (by decide), if_pos c0, if_pos c0]
    refine ⟨_, rfl, ⟨⟨?_, ?_⟩, Or.inl ⟨rfl, ?_⟩⟩, f2.st (by decide)⟩
    · rw [zst_if, if_pos rfl, zup1_ne _ _ (by decide)]; exact v7
    · rw [zst_if, if_pos rfl, zup1_ne _ _ (by decide)]; exact v8
    · rw [zst_if, if_pos rfl, zup1_eq]
  have hz : zbA b len s = b s := if_neg c0
  have hbs := T.2.2.2 s (by omega)
  rw [hz, if_pos hbs.1, if_neg c0, if_neg c0]
  simp only [isdR_z, islR_z]
  by_cases c2 : zdt (b s) = true
  · have cd := of_decide_eq_true c2
    have c1 : ¬ zlt (b s) = true := fun q => by have := of_decide_eq_true q; omega
    rw [if_neg (fun q => q c2), if_neg c1, if_pos c2, if_neg c1, if_pos c2]
    obtain ⟨g3, q1, q2, q3, q4⟩ := zdgL_r (b := b) (len := len) N (len - s) N s 0 0 (zst (zst g2 85 9 1) 85 10 0) rfl (zTp_f T2 (((zF85.refl g2).st (S := [9, 10]) (by decide)).st (by decide)) (by decide)) (by rw [zst_if, if_pos rfl, zup1_ne _ _ (by decide), zst_if, if_pos rfl, zup1_ne _ _ (by decide)]; exact v7) (by rw [zst_if, if_pos rfl, zup1_eq]) (Or.inl ⟨rfl, by decide, by decide⟩) (by omega) (by omega)
    refine ⟨g3, ?_, ⟨⟨q2, ?_⟩, Or.inr (Or.inl ⟨rfl, ?_, q3⟩)⟩, ((f2.st (by decide)).st (by decide)).trans (q4.mono (by simp))⟩
    · exact congrArg (fun o => zb1 o fun h134 => some h134) q1
    · rw [q4.2 8 (by decide), zst_if, if_pos rfl, zup1_ne _ _ (by decide), zst_if, if_pos rfl, zup1_ne _ _ (by decide)]; exact v8
    · rw [q4.2 9 (by decide), zst_if, if_pos rfl, zup1_ne _ _ (by decide), zst_if, if_pos rfl, zup1_eq]
  rw [if_pos c2]
  by_cases c1 : zlt (b s) = true
  · rw [if_neg (fun q => q c1), if_pos c1, if_pos c1]
    have hzb := zru_f (P := zlt) (b := b) (len := len) (len - s) s rfl
    obtain ⟨g3, q1, q2, q3, q4⟩ := zleL_r (b := b) (len := len) (s := s) N (len - s) N s (zst (zst g2 85 9 2) 85 11 0) rfl (zTp_f T2 (((zF85.refl g2).st (S := [9, 11]) (by decide)).st (by decide)) (by decide)) (by rw [zst_if, if_pos rfl, zup1_ne _ _ (by decide), zst_if, if_pos rfl, zup1_ne _ _ (by decide)]; exact v7) (by rw [zst_if, if_pos rfl, zup1_ne _ _ (by decide), zst_if, if_pos rfl, zup1_ne _ _ (by decide)]; exact v8) (Nat.le_refl s) (fun i h1 h2 => by omega) (by rw [zst_if, if_pos rfl, zup1_eq, Nat.sub_self]; rfl) (by omega) (by omega)
    have hle : zlet (zBy b (zru zlt b len s - s) s) := zlet_B (len := len) (fun i h1 h2 => hzb.2.2 i h1 (by omega))
    have q8 : g3 85 8 = s := by rw [q4.2 8 (by decide), zst_if, if_pos rfl, zup1_ne _ _ (by decide), zst_if, if_pos rfl, zup1_ne _ _ (by decide)]; exact v8
    have q9 : g3 85 9 = 2 := by rw [q4.2 9 (by decide), zst_if, if_pos rfl, zup1_ne _ _ (by decide), zst_if, if_pos rfl, zup1_eq]
    have f3 : zF85 [7, 8, 9, 10, 11] g g3 := ((f2.st (by decide)).st (by decide)).trans (q4.mono (by simp))
    have hgo2 : ∀ K : zHp → Option zHp, (zb1 (sh_Mo_nextToken_L82 N N (zst (zst g2 85 9 2) 85 11 0)) K) = K g3 := fun K => (congrArg (fun o => zb1 o K) q1).trans rfl
    rw [hgo2]
    have hb1 := hzb.1
    rw [q2, q8, w32_s (by omega) (by omega)]
    by_cases c7 : zru zlt b len s - s ≤ 7
    · rw [if_pos (by omega)]
      refine ⟨g3, rfl, ⟨⟨q2, q8⟩, Or.inr (Or.inr (Or.inl ⟨q9, _, rfl, hle, rfl, ?_⟩))⟩, f3⟩
      rw [zBy_l, if_pos c7, q3, if_pos c7]
    · rw [if_neg (by omega)]
      refine ⟨_, rfl, ⟨⟨?_, ?_⟩, Or.inr (Or.inr (Or.inl ⟨?_, _, rfl, hle, rfl, ?_⟩))⟩, f3.st (by decide)⟩
      · rw [zst_if, if_pos rfl, zup1_ne _ _ (by decide)]; exact q2
      · rw [zst_if, if_pos rfl, zup1_ne _ _ (by decide)]; exact q8
      · rw [zst_if, if_pos rfl, zup1_ne _ _ (by decide)]; exact q9
      · rw [zBy_l, if_neg c7, zst_if, if_pos rfl, zup1_eq]
  rw [if_pos c1, if_neg c1, if_neg c2, if_neg c1, if_neg c2]
  rw [show (if (if b s = 60 then 1 else (if b s = 62 then 1 else (if b s = 61 then 1 else (if b s = 35 then 1 else (if b s = 43 then 1 else (if b s = 45 then 1 else (if b s = 42 then 1 else (if b s = 47 then 1 else (if b s = 40 then 1 else (if b s = 41 then 1 else (if b s = 59 then 1 else 0 : Int) : Int) : Int) : Int) : Int) : Int) : Int) : Int) : Int) : Int) : Int) = 0 then 3 else b s : Int) = zsT (b s) from rfl]
  have e9 : w32 ((s : Int) + 1) = ((s + 1 : Nat) : Int) := by rw [w32_s (by omega) (by omega)]; omega
  rw [e9]
  obtain ⟨X, hX⟩ : ∃ X, zst (zst g2 85 7 ((s + 1 : Nat) : Int)) 85 9 (zsT (b s)) = X := ⟨_, rfl⟩
  have fX : zF85 [7, 8, 9, 10, 11] g X := by rw [← hX]; exact (f2.st (by decide)).st (by decide)
  have X7 : X 85 7 = ((s + 1 : Nat) : Int) := by rw [← hX, zst_if, if_pos rfl, zup1_ne _ _ (by decide), zst_if, if_pos rfl, zup1_eq]
  have X8 : X 85 8 = s := by rw [← hX, zst_if, if_pos rfl, zup1_ne _ _ (by decide), zst_if, if_pos rfl, zup1_ne _ _ (by decide)]; exact v8
  have X9 : X 85 9 = zsT (b s) := by rw [← hX, zst_if, if_pos rfl, zup1_eq]
  have TX : zTp X b len := zTp_f T fX (by decide)
  rw [hX, X7, zba_r TX]
  simp only [zb1_some]
  have e92 : w32 (((s + 1 : Nat) : Int) + 1) = ((s + 2 : Nat) : Int) := by rw [w32_s (by omega) (by omega)]; omega
  rw [e92]
  have hres : (if b s = 60 then (if zbA b len (s + 1) = 61 then some (zst (zst X 85 7 ((s + 2 : Nat) : Int)) 85 9 (if b s = 60 then 4 else 5)) else some X) else if b s = 62 then (if zbA b len (s + 1) = 61 then some (zst (zst X 85 7 ((s + 2 : Nat) : Int)) 85 9 (if b s = 60 then 4 else 5)) else some X) else some X) = if zeq b len s = true then some (zst (zst X 85 7 ((s + 2 : Nat) : Int)) 85 9 (if b s = 60 then 4 else 5)) else some X := by
    by_cases c3 : zeq b len s = true
    · have h3 := of_decide_eq_true c3
      have hz3 : zbA b len (s + 1) = 61 := by
        unfold zbA
        rw [if_neg (by omega)]; exact h3.2.2
      rw [if_pos c3, hz3, if_pos rfl]
      by_cases d3 : b s = 60
      · rw [if_pos d3]
      · rw [if_neg d3, if_pos (h3.1.resolve_left d3)]
    · rw [if_neg c3]
      by_cases c4 : zbA b len (s + 1) = 61
      · have hlt : s + 1 < len := by
          refine Nat.lt_of_not_le (fun q => ?_)
          unfold zbA at c4
          rw [if_pos q] at c4
          exact absurd c4 (by decide)
        have hb : b (s + 1) = 61 := by
          unfold zbA at c4
          rw [if_neg (by omega)] at c4
          exact c4
        rw [if_neg (fun q => c3 (decide_eq_true ⟨Or.inl q, hlt, hb⟩)), if_neg (fun q => c3 (decide_eq_true ⟨Or.inr q, hlt, hb⟩))]
      · rw [if_neg c4]
        repeat' split
        all_goals rfl
  rw [hres]
  by_cases c3 : zeq b len s = true
  · have h3 := of_decide_eq_true c3
    rw [if_pos c3, if_pos c3, if_pos c3]
    refine ⟨_, rfl, ⟨⟨?_, ?_⟩, Or.inr (Or.inr (Or.inr ?_))⟩, (fX.st (by decide)).st (by decide)⟩
    · rw [zst_if, if_pos rfl, zup1_ne _ _ (by decide), zst_if, if_pos rfl, zup1_eq]
    · rw [zst_if, if_pos rfl, zup1_ne _ _ (by decide), zst_if, if_pos rfl, zup1_ne _ _ (by decide)]; exact X8
    · rw [zst_if, if_pos rfl, zup1_eq]
      by_cases d3 : b s = 60
      · rw [if_pos d3, if_pos d3]; decide
      · rw [if_neg d3, if_neg d3]; decide
  · rw [if_neg c3, if_neg c3, if_neg c3]
    refine ⟨X, rfl, ⟨⟨X7, X8⟩, Or.inr (Or.inr (Or.inr ?_))⟩, fX⟩
    rw [X9]
    exact zsT_m (b s)
/-! what the reference asks of a token -/
theorem zTK_s {g : zHp} {b : zFn} {len p : Nat} (T : zTK g b len p) : (g 85 9 = 0 ↔ zco b len p = 35) ∧ (g 85 9 = 1 ↔ zco b len p = 34) ∧ (g 85 9 = 40 ↔ zco b len p = 28) ∧ (g 85 9 = 41 ↔ zco b len p = 29) ∧ (g 85 9 = 59 ↔ zco b len p = 30) ∧ (g 85 9 = 43 ↔ zco b len p = 24) ∧ (g 85 9 = 45 ↔ zco b len p = 25) ∧ (g 85 9 = 42 ↔ zco b len p = 26) ∧ (g 85 9 = 47 ↔ zco b len p = 27) ∧
    (g 85 9 = 60 ↔ zco b len p = 20) ∧ (g 85 9 = 62 ↔ zco b len p = 21) ∧ (g 85 9 = 61 ↔ zco b len p = 22) ∧ (g 85 9 = 35 ↔ zco b len p = 23) ∧ (g 85 9 = 4 ↔ zco b len p = 31) ∧ (g 85 9 = 5 ↔ zco b len p = 32) ∧ (g 85 9 = 2 → (0 ≤ zco b len p ∧ zco b len p ≤ 18) ∨ zco b len p = 36) ∧ (0 ≤ zco b len p ∧ zco b len p ≤ 18 → g 85 9 = 2) := by
  obtain ⟨-, ⟨k, t⟩ | ⟨k, t, -⟩ | ⟨t, L, -, -, k, -⟩ | hm⟩ := T
  · rw [k, t]; decide
  · rw [k, t]; decide
  · have := zwx_r zWds 0 L
    have h19 : (zWds.length : Int) = 19 := rfl
    rw [← k] at this
    rw [t]
    generalize zco b len p = k at *
    refine ⟨?_, ?_, ?_, ?_, ?_, ?_, ?_, ?_, ?_, ?_, ?_, ?_, ?_, ?_, ?_, fun _ => by omega, fun _ => rfl⟩
    all_goals constructor <;> intro q <;> omega
  · generalize zco b len p = k at *
    generalize g 85 9 = t at *
    simp only [zSgn, List.mem_cons, Prod.mk.injEq, List.not_mem_nil, or_false] at hm
    rcases hm with ⟨rfl, rfl⟩ | ⟨rfl, rfl⟩ | ⟨rfl, rfl⟩ | ⟨rfl, rfl⟩ | ⟨rfl, rfl⟩ | ⟨rfl, rfl⟩ | ⟨rfl, rfl⟩ | ⟨rfl, rfl⟩ | ⟨rfl, rfl⟩ | ⟨rfl, rfl⟩ | ⟨rfl, rfl⟩ | ⟨rfl, rfl⟩ | ⟨rfl, rfl⟩ | ⟨rfl, rfl⟩ <;> decide
theorem zwx_g : ∀ (ws : List (List Int)) (k : Int) (L : List Int) (i : Nat), ws.Nodup → k + ws.length ≤ 36 → i < ws.length → (zwx ws k L = k + i ↔ ws[i]? = some L) := by
  intro ws
  induction ws with
  | nil => intro k L i _ _ hi; exact absurd hi (Nat.not_lt_zero i)
  | cons w ws ih =>
    intro k L i hn hk hi
    simp only [List.length_cons] at hk hi
    have hn2 := List.nodup_cons.mp hn
    unfold zwx
    cases i with
    | zero =>
      by_cases c : L = w
      · rw [if_pos c, c]; simp
      · rw [if_neg c]
        have := zwx_r ws (k + 1) L
        constructor
        · intro q; exfalso; omega
        · intro q; exact absurd (Option.some.inj q).symm c
    | succ i =>
      rw [List.getElem?_cons_succ]
      by_cases c : L = w
      · rw [if_pos c]
        constructor
        · intro q; exfalso; omega
        · intro q
          exfalso
          apply hn2.1
          rw [← c]
          exact List.mem_of_getElem? q
      · rw [if_neg c, ← ih (k + 1) L i hn2.2 (by omega) (by omega)]
        constructor <;> intro q <;> omega
theorem zWd_n : zWds.Nodup := by decide
/-- a word of at most seven letters -/
theorem zTK_w {g : zHp} {b : zFn} {len p : Nat} (T : zTK g b len p) (i : Nat) (w : List Int) (hi : zWds[i]? = some w) (hl : w.length ≤ 7) (hne : w ≠ []) (hw : zlet w) : (g 85 9 = 2 ∧ g 85 11 = (zpk w 0 : Int)) ↔ zco b len p = i := by
  have hi19 : i < zWds.length := (List.getElem?_eq_some_iff.mp hi).1
  have hS := zTK_s T
  obtain ⟨-, ⟨k, t⟩ | ⟨k, t, -⟩ | ⟨t, L, -, hL, k, hv⟩ | hm⟩ := T
  · have : zWds.length = 19 := rfl
    constructor
    · intro q; omega
    · intro q; omega
  · have : zWds.length = 19 := rfl
    constructor
    · intro q; omega
    · intro q; omega
  · have hg := zwx_g zWds 0 L i zWd_n (by decide) hi19
    rw [Int.zero_add] at hg
    rw [k, hg, hi]
    constructor
    · intro q
      by_cases c : L.length ≤ 7
      · rw [if_pos c] at hv
        rw [hv] at q
        rw [(zpk_c hL hw hne).mp (by have := q.2; omega)]
      · rw [if_neg c] at hv
        have := q.2
        rw [hv] at this
        have hz : 0 < zpk w 0 := by
          cases w with
          | nil => exact absurd rfl hne
          | cons c0 w =>
            have b1 := hw c0 List.mem_cons_self
            have h1 := zpk_b w (0 * 256 + c0.toNat) (fun x hx => hw x (List.mem_cons_of_mem _ hx))
            have h2 : 0 < 256 ^ w.length := Nat.pow_pos (by decide)
            have h3 : 1 * 256 ^ w.length ≤ (0 * 256 + c0.toNat) * 256 ^ w.length := Nat.mul_le_mul_right _ (by omega)
            show 0 < zpk w (0 * 256 + c0.toNat)
            omega
        omega
    · intro q
      obtain rfl := Option.some.inj q
      exact ⟨t, by rw [hv, if_pos hl]⟩
  · have h19 : zWds.length = 19 := rfl
    have hn : g 85 9 ≠ 2 := by
      generalize g 85 9 = t at *
      simp only [zSgn, List.mem_cons, Prod.mk.injEq, List.not_mem_nil, or_false] at hm
      omega
    constructor
    · intro q; exact absurd q.1 hn
    · intro q; exact absurd (hS.2.2.2.2.2.2.2.2.2.2.2.2.2.2.2.2 (by omega)) hn
theorem zisW {g : zHp} {b : zFn} {len p : Nat} (T : zTK g b len p) (i : Nat) (w : List Int) (c : Int) (hi : zWds[i]? = some w) (hl : w.length ≤ 7) (hne : w ≠ []) (hw : zlet w) (hc : c = (zpk w 0 : Int)) : sh_Mo_isWord c g = if zco b len p = i then 1 else 0 := by
  have := zTK_w T i w hi hl hne hw
  unfold sh_Mo_isWord
  rw [hc]
  simp only [zcmp_eq]
  by_cases q : zco b len p = i
  · have h := this.mpr q
    rw [if_pos q, if_pos h.1, if_pos h.2]
  · rw [if_neg q]
    by_cases c1 : g 85 9 = 2
    · rw [if_pos c1, if_neg (fun h => q (this.mp ⟨c1, h⟩))]
    · rw [if_neg c1]
