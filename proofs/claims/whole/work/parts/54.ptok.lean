/-! PURE: text, what a token is; the class's tokens -/
def zrn (P : Int → Bool) (b : zFn) (len : Nat) : Nat → Nat → Nat
  | 0, p => p
  | n + 1, p => if p < len ∧ P (b p) = true then zrn P b len n (p + 1) else p
def zru (P : Int → Bool) (b : zFn) (len p : Nat) : Nat := zrn P b len (len - p) p
theorem zru_s {P : Int → Bool} {b : zFn} {len p : Nat} (h1 : p < len) (h2 : P (b p) = true) : zru P b len p = zru P b len (p + 1) := by
  unfold zru
  rw [show len - p = (len - (p + 1)) + 1 by omega]
  show (if _ then _ else _) = _
  rw [if_pos ⟨h1, h2⟩]
theorem zru_e {P : Int → Bool} {b : zFn} {len p : Nat} (h : ¬ (p < len ∧ P (b p) = true)) : zru P b len p = p := by
  unfold zru
  by_cases c : p < len
  · rw [show len - p = (len - (p + 1)) + 1 by omega]
    show (if _ then _ else _) = _
    rw [if_neg h]
  · rw [show len - p = 0 by omega]; rfl
theorem zru_f {P : Int → Bool} {b : zFn} {len : Nat} : ∀ d p, d = len - p → (p ≤ zru P b len p ∧ (p ≤ len → zru P b len p ≤ len)) ∧ (zru P b len p < len → P (b (zru P b len p)) = false) ∧ (∀ i, p ≤ i → i < zru P b len p → P (b i) = true) := by
  intro d
  induction d with
  | zero =>
    intro p hd
    rw [zru_e (by omega)]
    exact ⟨⟨Nat.le_refl _, fun h => h⟩, fun h => by omega, fun i h1 h2 => by omega⟩
  | succ d ih =>
    intro p hd
    by_cases c : P (b p) = true
    · rw [zru_s (by omega) c]
      obtain ⟨⟨h1, h2⟩, h3, h4⟩ := ih (p + 1) (by omega)
      refine ⟨⟨by omega, fun _ => h2 (by omega)⟩, h3, fun i w1 w2 => ?_⟩
      by_cases e : i = p
      · rw [e]; exact c
      · exact h4 i (by omega) w2
    · rw [zru_e (fun q => c q.2)]
      exact ⟨⟨Nat.le_refl _, fun h => h⟩, fun _ => by simpa using c, fun i h1 h2 => by omega⟩
theorem zru_b {P : Int → Bool} {b : zFn} {len p : Nat} : p ≤ zru P b len p ∧ (p ≤ len → zru P b len p ≤ len) := (zru_f (len - p) p rfl).1
def zbk (c : Int) : Bool := decide (c = 32 ∨ c = 10)
def zlt (c : Int) : Bool := decide ((97 ≤ c ∧ c ≤ 122) ∨ (65 ≤ c ∧ c ≤ 90))
def zdt (c : Int) : Bool := decide (48 ≤ c ∧ c ≤ 57)
def zBy (b : zFn) : Nat → Nat → List Int
  | 0, _ => []
  | n + 1, s => b s :: zBy b n (s + 1)
def zWds : List (List Int) := [[104,111,117,114],[112,105,116,99,104],[102,97,114,109],[101,97,114],[111,119,110],[102,97,114],[121,111,107,101,100],[111,120],[115,116,114,101,110,103,116,104],[119,101,97,107,101,114],[115,111,105,108],[104,101,101,100,115],[115,101,99,111,110,100],[115,108,105,112],[99,97,108,108,115],[119,111,114,107],[111,114],[97,110,100],[110,111,116]]
def zwx : List (List Int) → Int → List Int → Int
  | [], _, _ => 36
  | w :: ws, k, L => if L = w then k else zwx ws (k + 1) L
def zCn (b : zFn) : Nat → Nat → Int → Int
  | 0, _, a => a
  | n + 1, p, a => zCn b n (p + 1) (zmin (a * 10 + b p - 48) 10000)
def zsg (c : Int) : Int := if c = 60 then 20 else if c = 62 then 21 else if c = 61 then 22 else if c = 35 then 23 else if c = 43 then 24 else if c = 45 then 25 else if c = 42 then 26 else if c = 47 then 27 else if c = 40 then 28 else if c = 41 then 29 else if c = 59 then 30 else 36
def zeq (b : zFn) (len s : Nat) : Bool := decide ((b s = 60 ∨ b s = 62) ∧ s + 1 < len ∧ b (s + 1) = 61)
/-- a token's place, the next place, its code, its number -/
def zPl2 (b : zFn) (len p : Nat) : Nat := zru zbk b len p
def zNx1 (b : zFn) (len s : Nat) : Nat := if len ≤ s then s else if zlt (b s) = true then zru zlt b len s else if zdt (b s) = true then zru zdt b len s else if zeq b len s = true then s + 2 else s + 1
def zCo1 (b : zFn) (len s : Nat) : Int := if len ≤ s then 35 else if zlt (b s) = true then zwx zWds 0 (zBy b (zru zlt b len s - s) s) else if zdt (b s) = true then 34 else if zeq b len s = true then (if b s = 60 then 31 else 32) else zsg (b s)
def zne (b : zFn) (len p : Nat) : Nat := zNx1 b len (zPl2 b len p)
def zco (b : zFn) (len p : Nat) : Int := zCo1 b len (zPl2 b len p)
def znu (b : zFn) (len p : Nat) : Int := zCn b (zru zdt b len (zPl2 b len p) - zPl2 b len p) (zPl2 b len p) 0
theorem zne_b {b : zFn} {len p : Nat} (hp : p ≤ len) : p ≤ zne b len p ∧ zne b len p ≤ len ∧ zPl2 b len p ≤ len ∧ p ≤ zPl2 b len p ∧ zPl2 b len p ≤ zne b len p := by
  have h1 := zru_b (P := zbk) (b := b) (len := len) (p := p)
  have h2 := zru_b (P := zlt) (b := b) (len := len) (p := zPl2 b len p)
  have h3 := zru_b (P := zdt) (b := b) (len := len) (p := zPl2 b len p)
  have h4 : zPl2 b len p = zru zbk b len p := rfl
  unfold zne zNx1
  split
  · omega
  split
  · omega
  split
  · omega
  split
  · rename_i h
    have := of_decide_eq_true h
    omega
  · omega
theorem zne_lt {b : zFn} {len p : Nat} (hp : p ≤ len) (hc : zPl2 b len p < len) : zPl2 b len p < zne b len p := by
  have h2 := zru_b (P := zlt) (b := b) (len := len) (p := zPl2 b len p + 1)
  have h3 := zru_b (P := zdt) (b := b) (len := len) (p := zPl2 b len p + 1)
  unfold zne zNx1
  rw [if_neg (by omega)]
  split
  · rename_i h
    rw [zru_s hc h]; omega
  split
  · rename_i _ h
    rw [zru_s hc h]; omega
  split <;> omega
theorem zwx_r : ∀ (ws : List (List Int)) (k : Int) (L : List Int), zwx ws k L = 36 ∨ (k ≤ zwx ws k L ∧ zwx ws k L < k + ws.length) := by
  intro ws
  induction ws with
  | nil => intro k L; exact Or.inl rfl
  | cons w ws ih =>
    intro k L
    unfold zwx
    rw [List.length_cons]
    split
    · exact Or.inr (by omega)
    · rcases ih (k + 1) L with h | h
      · exact Or.inl h
      · exact Or.inr (by omega)
theorem zsg_r (c : Int) : zsg c = 36 ∨ (20 ≤ zsg c ∧ zsg c ≤ 30) := by
  unfold zsg
  repeat' split
  all_goals omega
/-- codes: words 0 .. 18, signs 20 .. 32, 34 a number, 35 the end, 36 none -/
theorem zco_r {b : zFn} {len p : Nat} : (0 ≤ zco b len p ∧ zco b len p ≤ 18) ∨ (20 ≤ zco b len p ∧ zco b len p ≤ 32) ∨ zco b len p = 34 ∨ (zco b len p = 35 ∧ len ≤ zPl2 b len p) ∨ zco b len p = 36 := by
  unfold zco zCo1
  split
  · rename_i h
    exact Or.inr (Or.inr (Or.inr (Or.inl ⟨rfl, h⟩)))
  split
  · rcases zwx_r zWds 0 (zBy b (zru zlt b len (zPl2 b len p) - zPl2 b len p) (zPl2 b len p)) with h | h
    · exact Or.inr (Or.inr (Or.inr (Or.inr h)))
    · have : (zWds.length : Int) = 19 := rfl
      exact Or.inl (by omega)
  split
  · exact Or.inr (Or.inr (Or.inl rfl))
  split
  · split
    · exact Or.inr (Or.inl (by omega))
    · exact Or.inr (Or.inl (by omega))
  · rcases zsg_r (b (zPl2 b len p)) with h | h
    · exact Or.inr (Or.inr (Or.inr (Or.inr h)))
    · exact Or.inr (Or.inl (by omega))
theorem zco_e {b : zFn} {len p : Nat} (h : len ≤ zPl2 b len p) : zco b len p = 35 := by
  unfold zco zCo1
  rw [if_pos h]
theorem zco_ne {b : zFn} {len p : Nat} (hp : p ≤ len) (h : zco b len p ≠ 35) : zPl2 b len p < len ∧ zPl2 b len p < zne b len p := by
  have : zPl2 b len p < len := by
    refine Nat.lt_of_not_le (fun q => h (zco_e q))
  exact ⟨this, zne_lt hp this⟩
/-! the class's tokens -/
theorem isbk_z {c : Int} : (sh_Reader_isBlank c = 0) = ¬ (zbk c = true) := by
  apply propext
  unfold sh_Reader_isBlank zbk
  rw [decide_eq_true_iff]
  by_cases h : c = 32
  · rw [if_pos h]; exact ⟨fun q => absurd q (by decide), fun q => absurd (Or.inl h) q⟩
  · rw [if_neg h]
    by_cases g : c = 10
    · rw [if_pos g]; exact ⟨fun q => absurd q (by decide), fun q => absurd (Or.inr g) q⟩
    · rw [if_neg g]; exact ⟨fun _ q => q.elim h g, fun _ => rfl⟩
theorem islt_z {c : Int} : (sh_Reader_isLetter c = 0) = ¬ (zlt c = true) := by
  apply propext
  unfold sh_Reader_isLetter zlt
  rw [decide_eq_true_iff]
  repeat' split
  all_goals constructor <;> intro q <;> omega
theorem isdt_z {c : Int} : (sh_Reader_isFigure c = 0) = ¬ (zdt c = true) := by
  apply propext
  unfold sh_Reader_isFigure zdt
  rw [decide_eq_true_iff]
  repeat' split
  all_goals constructor <;> intro q <;> omega
/-- 67 changes but in some cells -/
def zF67 (S : List Nat) (h h1 : zHp) : Prop := (∀ id, id ≠ 67 → h1 id = h id) ∧ ∀ j, j ∉ S → h1 67 j = h 67 j
theorem zF67.refl {S : List Nat} (h : zHp) : zF67 S h h := ⟨fun _ _ => rfl, fun _ _ => rfl⟩
theorem zF67.trans {S : List Nat} {h h1 h2 : zHp} (a : zF67 S h h1) (b : zF67 S h1 h2) : zF67 S h h2 := ⟨fun id q => (b.1 id q).trans (a.1 id q), fun j q => (b.2 j q).trans (a.2 j q)⟩
theorem zF67.mono {S S' : List Nat} {h h1 : zHp} (a : zF67 S h h1) (b : ∀ x, x ∈ S → x ∈ S') : zF67 S' h h1 := ⟨a.1, fun j q => a.2 j (fun r => q (b j r))⟩
theorem zF67.st {S : List Nat} {h h1 : zHp} {i : Nat} {v : Int} (a : zF67 S h h1) (hi : i ∈ S) : zF67 S h (zst h1 67 i v) := by
  refine ⟨fun id q => by rw [zst_if, if_neg q]; exact a.1 id q, fun j q => ?_⟩
  have : j ≠ i := fun e => q (by rw [e]; exact hi)
  rw [zst_if, if_pos rfl, zup1_ne _ _ this]
  exact a.2 j q
theorem zstL_c {b : zFn} {len : Nat} (N : Nat) (hl : len ≤ 300) : ∀ (d n i p : Nat) (h : zHp), d = len - p → h 25 = b → h 67 4 = len → h 67 9 = p → i ≤ p → p ≤ len → d < n → ∃ h1, sh_Reader_step_L2 N n (i : Int) h = some h1 ∧ h1 67 9 = (zru zbk b len p : Int) ∧ zF67 [9] h h1 := by
  intro d
  induction d with
  | zero =>
    intro n i p h hd e25 e4 e9 hi hp hn
    obtain ⟨n, rfl⟩ : ∃ m, n = m + 1 := ⟨n - 1, by omega⟩
    refine ⟨h, ?_, by rw [zru_e (by omega)]; exact e9, zF67.refl h⟩
    unfold sh_Reader_step_L2
    rw [e4, e9]
    by_cases c : (len : Int) ≤ i
    · rw [if_pos c]
    · rw [if_neg c, if_pos (by omega)]
  | succ d ih =>
    intro n i p h hd e25 e4 e9 hi hp hn
    obtain ⟨n, rfl⟩ : ∃ m, n = m + 1 := ⟨n - 1, by omega⟩
    unfold sh_Reader_step_L2
    rw [e4, e9, if_neg (c := (len : Int) ≤ (i : Int)) (by omega), if_neg (c := (len : Int) ≤ (p : Int)) (by omega), rget_in (by omega) (by omega), e25, Int.toNat_natCast]
    simp only [isbk_z]
    by_cases c : zbk (b p) = true
    · rw [if_neg (fun q => q c), zru_s (by omega) c, w32_s (by omega) (by omega), w32_s (by omega) (by omega)]
      obtain ⟨h1, r1, r2, r3⟩ := ih n (i + 1) (p + 1) (zst h 67 9 ((p + 1 : Nat) : Int)) (by omega) (by rw [zst_if, if_neg (by decide)]; exact e25) (by rw [zst_if, if_pos rfl, zup1_ne _ _ (by decide)]; exact e4) (by rw [zst_if, if_pos rfl, zup1_eq]) (by omega) (by omega) (by omega)
      exact ⟨h1, r1, r2, ((zF67.refl h).st (by decide)).trans r3⟩
    · rw [if_pos c, zru_e (fun q => c q.2)]
      exact ⟨h, rfl, e9, zF67.refl h⟩
theorem zleL_c {b : zFn} {len : Nat} (N : Nat) (hl : len ≤ 300) : ∀ (d n i p : Nat) (h : zHp), d = len - p → h 25 = b → h 67 4 = len → h 67 9 = p → i ≤ p → p ≤ len → d < n → ∃ h1, sh_Reader_passLetters_L2 N n (i : Int) h = some h1 ∧ h1 67 9 = (zru zlt b len p : Int) ∧ zF67 [9] h h1 := by
  intro d
  induction d with
  | zero =>
    intro n i p h hd e25 e4 e9 hi hp hn
    obtain ⟨n, rfl⟩ : ∃ m, n = m + 1 := ⟨n - 1, by omega⟩
    refine ⟨h, ?_, by rw [zru_e (by omega)]; exact e9, zF67.refl h⟩
    unfold sh_Reader_passLetters_L2
    rw [e4, e9]
    by_cases c : (len : Int) ≤ i
    · rw [if_pos c]
    · rw [if_neg c, if_pos (by omega)]
  | succ d ih =>
    intro n i p h hd e25 e4 e9 hi hp hn
    obtain ⟨n, rfl⟩ : ∃ m, n = m + 1 := ⟨n - 1, by omega⟩
    unfold sh_Reader_passLetters_L2
    rw [e4, e9, if_neg (c := (len : Int) ≤ (i : Int)) (by omega), if_neg (c := (len : Int) ≤ (p : Int)) (by omega), rget_in (by omega) (by omega), e25, Int.toNat_natCast]
    simp only [islt_z]
    by_cases c : zlt (b p) = true
    · rw [if_neg (fun q => q c), zru_s (by omega) c, w32_s (by omega) (by omega), w32_s (by omega) (by omega)]
      obtain ⟨h1, r1, r2, r3⟩ := ih n (i + 1) (p + 1) (zst h 67 9 ((p + 1 : Nat) : Int)) (by omega) (by rw [zst_if, if_neg (by decide)]; exact e25) (by rw [zst_if, if_pos rfl, zup1_ne _ _ (by decide)]; exact e4) (by rw [zst_if, if_pos rfl, zup1_eq]) (by omega) (by omega) (by omega)
      exact ⟨h1, r1, r2, ((zF67.refl h).st (by decide)).trans r3⟩
    · rw [if_pos c, zru_e (fun q => c q.2)]
      exact ⟨h, rfl, e9, zF67.refl h⟩
theorem zdgL_c {b : zFn} {len : Nat} (N : Nat) (hl : len ≤ 300) : ∀ (d n i p : Nat) (v : Int) (h : zHp), d = len - p → h 25 = b → h 67 4 = len → h 67 9 = p → h 67 11 = v → 0 ≤ v ∧ v ≤ 10000 → i ≤ p → p ≤ len → d < n → ∃ h1, sh_Reader_takeNumber_L8 N n (i : Int) h = some h1 ∧ h1 67 9 = (zru zdt b len p : Int) ∧ h1 67 11 = zCn b (zru zdt b len p - p) p v ∧ zF67 [9, 11] h h1 := by
  intro d
  induction d with
  | zero =>
    intro n i p v h hd e25 e4 e9 e11 hv hi hp hn
    obtain ⟨n, rfl⟩ : ∃ m, n = m + 1 := ⟨n - 1, by omega⟩
    refine ⟨h, ?_, by rw [zru_e (by omega)]; exact e9, by rw [zru_e (by omega), Nat.sub_self]; exact e11, zF67.refl h⟩
    unfold sh_Reader_takeNumber_L8
    rw [e4, e9]
    by_cases c : (len : Int) ≤ i
    · rw [if_pos c]
    · rw [if_neg c, if_pos (by omega)]
  | succ d ih =>
    intro n i p v h hd e25 e4 e9 e11 hv hi hp hn
    obtain ⟨n, rfl⟩ : ∃ m, n = m + 1 := ⟨n - 1, by omega⟩
    unfold sh_Reader_takeNumber_L8
    rw [e4, e9, if_neg (c := (len : Int) ≤ (i : Int)) (by omega), if_neg (c := (len : Int) ≤ (p : Int)) (by omega), rget_in (by omega) (by omega), e25, Int.toNat_natCast, e11]
    simp only [isdt_z]
    by_cases c : zdt (b p) = true
    · have hc := of_decide_eq_true c
      have hz := zru_b (P := zdt) (b := b) (len := len) (p := p + 1)
      have ev : zst h 67 11 (zmin (w32 (w32 (w32 (v * 10) + b p) - 48)) 10000) 67 9 = (p : Int) := by rw [zst_if, if_pos rfl, zup1_ne _ _ (by decide)]; exact e9
      rw [if_neg (fun q => q c), zru_s (by omega) c, ev, w32_s (a := (p : Int) + 1) (by omega) (by omega), w32_s (a := (i : Int) + 1) (by omega) (by omega), w32_s (a := v * 10) (by omega) (by omega), w32_s (a := v * 10 + b p) (by omega) (by omega), w32_s (a := v * 10 + b p - 48) (by omega) (by omega)]
      have hm : 0 ≤ zmin (v * 10 + b p - 48) 10000 ∧ zmin (v * 10 + b p - 48) 10000 ≤ 10000 := by unfold zmin; split <;> omega
      obtain ⟨h1, r1, r2, r3, r4⟩ := ih n (i + 1) (p + 1) (zmin (v * 10 + b p - 48) 10000) (zst (zst h 67 11 (zmin (v * 10 + b p - 48) 10000)) 67 9 ((p + 1 : Nat) : Int)) (by omega) (by rw [zst_if, if_neg (by decide), zst_if, if_neg (by decide)]; exact e25) (by rw [zst_if, if_pos rfl, zup1_ne _ _ (by decide), zst_if, if_pos rfl, zup1_ne _ _ (by decide)]; exact e4) (by rw [zst_if, if_pos rfl, zup1_eq]) (by rw [zst_if, if_pos rfl, zup1_ne _ _ (by decide), zst_if, if_pos rfl, zup1_eq]) hm (by omega) (by omega) (by omega)
      refine ⟨h1, r1, r2, ?_, (((zF67.refl h).st (by decide)).st (by decide)).trans r4⟩
      rw [r3, show zru zdt b len (p + 1) - p = (zru zdt b len (p + 1) - (p + 1)) + 1 by omega]
      rfl
    · rw [if_pos c, zru_e (fun q => c q.2), Nat.sub_self]
      exact ⟨h, rfl, e9, e11, zF67.refl h⟩
/-! words -/
theorem zwa_1 {b : zFn} {h : zHp} (N : Nat) (h25 : h 25 = b) (s e : Nat) (he : e ≤ 300) (k : Int) : ∀ (w : List Int) (c at0 n : Nat) (v : Int), (∀ i, i < w.length → zchr 0 ((c + i : Nat) : Int) = (w[i]?).getD 0 ∧ zchr 0 ((c + i : Nat) : Int) ≠ 32) → c + w.length ≤ 98 → at0 + w.length ≤ 400 → (v = 0 ∨ v = 1) → (v ≠ 0 → at0 ≤ e) →
    sh_Reader_wordAt_L8 N h (n + w.length) (s : Int) (e : Int) k (at0 : Int) v (c : Int) = sh_Reader_wordAt_L8 N h n (s : Int) (e : Int) k ((at0 + w.length : Nat) : Int) (if v ≠ 0 ∧ at0 + w.length ≤ e ∧ zBy b w.length at0 = w then 1 else 0) ((c + w.length : Nat) : Int) := by
  intro w
  induction w with
  | nil =>
    intro c at0 n v _ _ _ hv hve
    have : (if v ≠ 0 ∧ at0 + ([] : List Int).length ≤ e ∧ zBy b ([] : List Int).length at0 = [] then (1 : Int) else 0) = v := by
      rcases hv with rfl | rfl
      · rw [if_neg (fun q => q.1 rfl)]
      · rw [if_pos ⟨by decide, by simpa using hve (by decide), rfl⟩]
    rw [this]
    rfl
  | cons x w ih =>
    intro c at0 n v hw hc ha hv hve
    simp only [List.length_cons] at hw hc ha
    have h0 := hw 0 (by omega)
    rw [Nat.add_zero] at h0
    have hx : zchr 0 (c : Int) = x := h0.1
    have eN : n + (x :: w).length = (n + w.length) + 1 := by simp only [List.length_cons]; omega
    rw [eN]
    conv => enter [1]; unfold sh_Reader_wordAt_L8
    rw [if_neg (by omega), if_pos (by omega), if_neg h0.2, hx, w32_s (by omega) (by omega), w32_s (by omega) (by omega)]
    have hv' : ∃ v', (if v = 0 then 0 else (if (e : Int) ≤ (at0 : Int) then 0 else (if rget h 25 300 (at0 : Int) = x then 1 else 0 : Int) : Int) : Int) = v' ∧ (v' = 0 ∨ v' = 1) ∧ (v' ≠ 0 ↔ (v ≠ 0 ∧ at0 < e ∧ b at0 = x)) := by
      refine ⟨_, rfl, ?_, ?_⟩
      · repeat' split
        all_goals first
          | exact Or.inl rfl
          | exact Or.inr rfl
      · by_cases c1 : v = 0
        · rw [if_pos c1]; exact ⟨fun q => absurd rfl q, fun q => absurd c1 q.1⟩
        · rw [if_neg c1]
          by_cases c2 : (e : Int) ≤ (at0 : Int)
          · rw [if_pos c2]; exact ⟨fun q => absurd rfl q, fun q => by omega⟩
          · rw [if_neg c2, rget_in (by omega) (by omega), h25, Int.toNat_natCast]
            by_cases c3 : b at0 = x
            · rw [if_pos c3]; exact ⟨fun _ => ⟨c1, by omega, c3⟩, fun _ => by decide⟩
            · rw [if_neg c3]; exact ⟨fun q => absurd rfl q, fun q => absurd q.2.2 c3⟩
    obtain ⟨v', ev, hv1, hv2⟩ := hv'
    rw [ev]
    have := ih (c + 1) (at0 + 1) n v' (fun i hi => by
      have := hw (i + 1) (by omega)
      rw [show c + 1 + i = c + (i + 1) by omega]
      exact this) (by omega) (by omega) hv1 (fun q => by have := (hv2.mp q).2.1; omega)
    rw [show ((at0 : Int) + 1) = ((at0 + 1 : Nat) : Int) by omega, show ((c : Int) + 1) = ((c + 1 : Nat) : Int) by omega, this]
    rw [show at0 + 1 + w.length = at0 + (x :: w).length by simp only [List.length_cons]; omega, show c + 1 + w.length = c + (x :: w).length by simp only [List.length_cons]; omega]
    congr 1
    have hz : zBy b (x :: w).length at0 = b at0 :: zBy b w.length (at0 + 1) := rfl
    rw [hz]
    by_cases c4 : v' ≠ 0 ∧ at0 + (x :: w).length ≤ e ∧ zBy b w.length (at0 + 1) = w
    · have h5 := hv2.mp c4.1
      rw [if_pos c4, if_pos ⟨h5.1, c4.2.1, by rw [h5.2.2, c4.2.2]⟩]
    · rw [if_neg c4, if_neg (fun q => c4 ⟨hv2.mpr ⟨q.1, by have := q.2.1; simp only [List.length_cons] at this; omega, (List.cons.inj q.2.2).1⟩, q.2.1, (List.cons.inj q.2.2).2⟩)]
theorem zBy_l (b : zFn) : ∀ n s, (zBy b n s).length = n := by
  intro n
  induction n with
  | zero => intro s; rfl
  | succ n ih => intro s; unfold zBy; rw [List.length_cons, ih]
theorem zwa_2 {b : zFn} {h : zHp} (N : Nat) (h25 : h 25 = b) {s e : Nat} (hs : s ≤ e) (he : e ≤ 300) (k : Int) (hk : 0 ≤ k ∧ k < 100) (w : List Int) (c n : Nat) (hw : ∀ i, i < w.length → zchr 0 ((c + i : Nat) : Int) = (w[i]?).getD 0 ∧ zchr 0 ((c + i : Nat) : Int) ≠ 32) (hb : zchr 0 ((c + w.length : Nat) : Int) = 32) (hc : c + w.length < 98) (hne : w ≠ []) :
    sh_Reader_wordAt_L8 N h (n + w.length + 1) (s : Int) (e : Int) k (s : Int) 1 (c : Int) = if zBy b (e - s) s = w then some (.inl k) else sh_Reader_wordAt_L8 N h n (s : Int) (e : Int) (k + 1) (s : Int) 1 ((c + w.length + 1 : Nat) : Int) := by
  have h1 := zwa_1 N h25 s e he k w c s (n + 1) 1 hw (by omega) (by omega) (Or.inr rfl) (fun _ => hs)
  rw [show n + w.length + 1 = n + 1 + w.length by omega, h1]
  conv => enter [1]; unfold sh_Reader_wordAt_L8
  rw [if_neg (by omega), if_pos (by omega), if_pos hb, w32_s (a := k + 1) (by omega) (by omega), w32_s (by omega) (by omega)]
  have e3 : ((c + w.length : Nat) : Int) + 1 = ((c + w.length + 1 : Nat) : Int) := by omega
  rw [e3]
  have hy : ∀ c2 : s + w.length ≤ e ∧ zBy b w.length s = w, (if (1 : Int) ≠ 0 ∧ s + w.length ≤ e ∧ zBy b w.length s = w then (1 : Int) else 0) = 1 := fun c2 => if_pos ⟨by decide, c2⟩
  have hn : ∀ c2 : ¬ (s + w.length ≤ e ∧ zBy b w.length s = w), (if (1 : Int) ≠ 0 ∧ s + w.length ≤ e ∧ zBy b w.length s = w then (1 : Int) else 0) = 0 := fun c2 => if_neg (fun q => c2 q.2)
  by_cases c1 : zBy b (e - s) s = w
  · have hl : e - s = w.length := by rw [← c1, zBy_l]
    rw [if_pos c1, hy ⟨by omega, by rw [← hl]; exact c1⟩, if_neg (by decide), if_pos (by omega)]
  · rw [if_neg c1]
    by_cases c2 : s + w.length ≤ e ∧ zBy b w.length s = w
    · rw [hy c2, if_neg (by decide), if_neg (fun q => by
        apply c1
        rw [show e - s = w.length by omega]
        exact c2.2)]
    · rw [hn c2, if_pos rfl]
