/-! PURE: the steps kept -/
def zcp (c : zFn) (t k : Nat) (d : zFn) (f : Nat) : zFn := fun j => if t ≤ j ∧ j < t + k then d (f + (j - t)) else c j
theorem rpartN_s {h : zHp} {a n b m : Nat} {t f : Nat} (hab : b ≠ a) (hn : n < 100000) (hm : m < 100000) : ∀ k, t + k ≤ n → f + k ≤ m → rpartN h a n b m t f k = fun o => if o = a then zcp (h a) t k (h b) f else h o := by
  intro k
  induction k with
  | zero =>
    intro _ _
    funext o j
    show h o j = _
    by_cases q : o = a
    · subst q
      rw [if_pos rfl]
      unfold zcp
      rw [if_neg (by omega)]
    · rw [if_neg q]
  | succ k ih =>
    intro h1 h2
    show rput (rpartN h a n b m t f k) a n (w32 ((t : Int) + (k : Nat))) (rget (rpartN h a n b m t f k) b m (w32 ((f : Int) + (k : Nat)))) = _
    rw [ih (by omega) (by omega), w32_s (by omega) (by omega), w32_s (by omega) (by omega), rput_in (by omega) (by omega), rget_in (by omega) (by omega)]
    funext o j
    rw [zst_if]
    by_cases q : o = a
    · subst q
      rw [if_pos rfl, if_pos rfl, if_pos rfl, if_neg hab]
      unfold zup1 zcp
      by_cases q2 : j = ((t : Int) + (k : Nat)).toNat
      · rw [if_pos q2, if_pos (by omega)]
        congr 1; omega
      · rw [if_neg q2]
        by_cases q3 : t ≤ j ∧ j < t + k
        · rw [if_pos q3, if_pos (by omega)]
        · rw [if_neg q3, if_neg (by omega)]
    · rw [if_neg q, if_neg q, if_neg q]
theorem rpart_s {h : zHp} {a n b m : Nat} {t f k : Nat} (hab : b ≠ a) (hn : n < 100000) (hm : m < 100000) (h1 : t + k ≤ n) (h2 : f + k ≤ m) : rpart h a n b m t f k = fun o => if o = a then zcp (h a) t k (h b) f else h o := by
  unfold rpart
  rw [Int.toNat_natCast]
  exact rpartN_s hab hn hm k h1 h2
theorem zSp_mv {c c1 a a1 : zFn} {s s1 x x1 : Nat} (h : zSp c a s x) (hc : ∀ j, j < 71 → c1 (s1 + j) = c (s + j)) (ha : ∀ j, j < 47 → a1 (x1 + j) = a (x + j)) (hw : ∀ o : Nat, (o : Int) < a (x + 2) → ∀ w : Nat, 1 ≤ w → w < 4 → a1 (41 + 8 * o + w) = a (41 + 8 * o + w)) (h8 : a (x + 2) ≤ 8) : zSp c1 a1 s1 x1 := by
  obtain ⟨⟨h1, h2, h3⟩, h4, h5, h6⟩ := h
  have hc0 := hc 0 (by omega)
  have ha0 := ha 0 (by omega)
  refine ⟨⟨?_, ?_, ?_⟩, fun f hf => ?_, fun o ho => ⟨?_, fun e he => ?_⟩, fun o ho w w1 w2 => ?_⟩
  · exact hc0.trans (h1.trans ha0.symm)
  · rw [hc 1 (by omega), ha 1 (by omega)]; exact h2
  · rw [hc 2 (by omega), ha 2 (by omega)]; exact h3
  · rw [show s1 + 3 + f = s1 + (3 + f) by omega, show x1 + 3 + f = x1 + (3 + f) by omega, hc _ (by omega), ha _ (by omega), ← Nat.add_assoc, ← Nat.add_assoc]; exact h4 f hf
  · have := (h5 o ho).1
    rw [show s1 + 7 + 8 * o = s1 + (7 + 8 * o) by omega, show x1 + 7 + 5 * o = x1 + (7 + 5 * o) by omega, hc _ (by omega), ha _ (by omega), ← Nat.add_assoc, ← Nat.add_assoc]; exact this
  · have := (h5 o ho).2 e he
    rw [show s1 + 7 + 8 * o + 4 + e = s1 + (7 + 8 * o + 4 + e) by omega, show x1 + 7 + 5 * o + 1 + e = x1 + (7 + 5 * o + 1 + e) by omega, hc _ (by omega), ha _ (by omega), show s + (7 + 8 * o + 4 + e) = s + 7 + 8 * o + 4 + e by omega, show x + (7 + 5 * o + 1 + e) = x + 7 + 5 * o + 1 + e by omega]; exact this
  · rw [ha 2 (by omega)] at ho
    rw [show s1 + 7 + 8 * o + w = s1 + (7 + 8 * o + w) by omega, hc _ (by omega), hw o ho w w1 w2, show s + (7 + 8 * o + w) = s + 7 + 8 * o + w by omega]
    exact h6 o ho w w1 w2
/-- a row of the reference's steps, out of what is now -/
def zrow (a : zFn) (i : Nat) : Int := if i = 0 then a 3 else if i = 1 then a 1 else if i = 2 then a 2 else if i < 7 then a (28 + 4 * (i - 3)) else if (i - 7) % 5 = 0 then a (41 + 8 * ((i - 7) / 5)) else a (44 + 8 * ((i - 7) / 5) + (i - 7) % 5)
def zfil (s a : zFn) (x m : Nat) : zFn := fun j => if x ≤ j ∧ j < x + m then zrow a (j - x) else s j
theorem zfil_0 (s a : zFn) (x : Nat) : zfil s a x 0 = s := by
  funext j; unfold zfil; rw [if_neg (by omega)]
theorem zfil_up (s a : zFn) (x m : Nat) {k : Nat} {v : Int} (hk : k = x + m) (hv : v = zrow a m) : zup1 (zfil s a x m) k v = zfil s a x (m + 1) := by
  subst hk hv
  funext j
  unfold zup1 zfil
  by_cases q : j = x + m
  · rw [if_pos q, if_pos (by omega)]; congr 1; omega
  · rw [if_neg q]
    by_cases q2 : x ≤ j ∧ j < x + m
    · rw [if_pos q2, if_pos (by omega)]
    · rw [if_neg q2, if_neg (by omega)]
theorem zfil_lo (s a : zFn) {x m j : Nat} (h : j < x) : zfil s a x m j = s j := by unfold zfil; rw [if_neg (by omega)]
def zshf (a : zFn) (k : Nat) : zFn := fun j => if 121 ≤ j ∧ j < 121 + k then a (j + 47) else a j
theorem zshf_up (a : zFn) (k : Nat) (hk : k < 893) : zup1 (zshf a k) (121 + k) (zshf a k (168 + k)) = zshf a (k + 1) := by
  funext j
  unfold zup1 zshf
  by_cases q : j = 121 + k
  · rw [if_pos q, if_neg (by omega), if_pos (by omega)]; congr 1; omega
  · rw [if_neg q]
    by_cases q2 : 121 ≤ j ∧ j < 121 + k
    · rw [if_pos q2, if_pos (by omega)]
    · rw [if_neg q2, if_neg (by omega)]
def zkeep (a : zFn) : zFn := if a 7 = 20 then zup1 (zfil (zup1 (zshf a 893) 7 19) a 1014 47) 7 20 else zup1 (zfil a a (121 + 47 * (a 7).toNat) 47) 7 (a 7 + 1)
theorem zkp_L8 (N : Nat) (a : zFn) : ∀ (d n k : Nat) (h : zHp), k + d = 893 → d < n → h 86 = zshf a k → ∃ h', sh_Mo_keep_L8 N n (k : Int) h = some h' ∧ h' 86 = zshf a 893 ∧ ∀ id, id ≠ 86 → h' id = h id := by
  intro d
  induction d with
  | zero =>
    intro n k h hk hn he
    obtain ⟨n, rfl⟩ : ∃ m, n = m + 1 := ⟨n - 1, by omega⟩
    obtain rfl : k = 893 := by omega
    exact ⟨h, by unfold sh_Mo_keep_L8; rw [if_pos (by decide)], he, fun _ _ => rfl⟩
  | succ d ih =>
    intro n k h hk hn he
    obtain ⟨n, rfl⟩ : ∃ m, n = m + 1 := ⟨n - 1, by omega⟩
    have e1 : ((168 : Int) + (k : Int)).toNat = 168 + k := by omega
    have e2 : ((121 : Int) + (k : Int)).toNat = 121 + k := by omega
    have e3 : w32 ((k : Int) + 1) = ((k + 1 : Nat) : Int) := by rw [w32_s (by omega) (by omega)]; omega
    obtain ⟨h', p, q, r⟩ := ih n (k + 1) (zst h 86 (121 + k) (h 86 (168 + k))) (by omega) (by omega) (by rw [zst_if, if_pos rfl, he]; exact zshf_up a k (by omega))
    refine ⟨h', ?_, q, fun id hid => by rw [r id hid, zst_if, if_neg hid]⟩
    unfold sh_Mo_keep_L8
    rw [if_neg (by omega), e3]
    simp (disch := omega) only [zst_if, zup1_ne, zup1_eq, w32_s, rget_in, rput_in, zgrd, Nat.reduceEqDiff, Nat.reduceAdd, ↓reduceIte, Int.reduceToNat, zb1_some, zb2_some, zb3_some, zb4_some, zb5_some, Int.toNat_natCast, true_and, and_true, e1, e2]
    exact p
theorem zkp_L72 (N : Nat) (s a : zFn) (x : Nat) (hx : 121 ≤ x) (hx2 : x < 1015) (hs : ∀ j, j < 121 → j ≠ 7 → s j = a j) : ∀ (d n k : Nat) (h : zHp), k + d = 4 → d < n → h 86 = zfil s a x (3 + k) → ∃ h', sh_Mo_keep_L72 N n (x : Int) (k : Int) h = some ((x : Int), h') ∧ h' 86 = zfil s a x 7 ∧ ∀ id, id ≠ 86 → h' id = h id := by
  intro d
  induction d with
  | zero =>
    intro n k h hk hn he
    obtain ⟨n, rfl⟩ : ∃ m, n = m + 1 := ⟨n - 1, by omega⟩
    obtain rfl : k = 4 := by omega
    exact ⟨h, by unfold sh_Mo_keep_L72; rw [if_pos (by decide)], he, fun _ _ => rfl⟩
  | succ d ih =>
    intro n k h hk hn he
    obtain ⟨n, rfl⟩ : ∃ m, n = m + 1 := ⟨n - 1, by omega⟩
    have e1 : ((25 : Int) + 4 * (k : Int) + 3).toNat = 28 + 4 * k := by omega
    have e2 : ((x : Int) + 3 + (k : Int)).toNat = x + (3 + k) := by omega
    have e3 : w32 ((k : Int) + 1) = ((k + 1 : Nat) : Int) := by rw [w32_s (by omega) (by omega)]; omega
    obtain ⟨h', p, q, r⟩ := ih n (k + 1) (zst h 86 (x + (3 + k)) (h 86 (28 + 4 * k))) (by omega) (by omega) (by
      rw [zst_if, if_pos rfl, he]
      refine zfil_up s a x (3 + k) rfl ?_
      rw [zfil_lo s a (by omega), hs _ (by omega) (by omega)]
      unfold zrow
      rw [if_neg (by omega), if_neg (by omega), if_neg (by omega), if_pos (by omega)]
      congr 2; omega)
    refine ⟨h', ?_, q, fun id hid => by rw [r id hid, zst_if, if_neg hid]⟩
    unfold sh_Mo_keep_L72
    rw [if_neg (by omega), e3]
    simp (disch := omega) only [zst_if, zup1_ne, zup1_eq, w32_s, rget_in, rput_in, zgrd, Nat.reduceEqDiff, Nat.reduceAdd, ↓reduceIte, Int.reduceToNat, zb1_some, zb2_some, zb3_some, zb4_some, zb5_some, Int.toNat_natCast, true_and, and_true, e1, e2]
    exact p
theorem zkp_L116 (N : Nat) (s a : zFn) (x o : Nat) (hx : 121 ≤ x) (hx2 : x < 1015) (ho : o < 8) (hs : ∀ j, j < 121 → j ≠ 7 → s j = a j) : ∀ (d n k : Nat) (h : zHp), k + d = 5 → 1 ≤ k → d < n → h 86 = zfil s a x (7 + 5 * o + k) → ∃ h', sh_Mo_keep_L116 N n (x : Int) (o : Int) (k : Int) h = some ((x : Int), (o : Int), h') ∧ h' 86 = zfil s a x (7 + 5 * (o + 1)) ∧ ∀ id, id ≠ 86 → h' id = h id := by
  intro d
  induction d with
  | zero =>
    intro n k h hk h1 hn he
    obtain ⟨n, rfl⟩ : ∃ m, n = m + 1 := ⟨n - 1, by omega⟩
    obtain rfl : k = 5 := by omega
    exact ⟨h, by unfold sh_Mo_keep_L116; rw [if_pos (by decide)], he, fun _ _ => rfl⟩
  | succ d ih =>
    intro n k h hk h1 hn he
    obtain ⟨n, rfl⟩ : ∃ m, n = m + 1 := ⟨n - 1, by omega⟩
    have e1 : ((4 : Int) + (k : Int) - 1).toNat = 3 + k := by omega
    have e2 : ((x : Int) + 7 + 5 * (o : Int) + (k : Int)).toNat = x + (7 + 5 * o + k) := by omega
    have e3 : w32 ((k : Int) + 1) = ((k + 1 : Nat) : Int) := by rw [w32_s (by omega) (by omega)]; omega
    obtain ⟨h', p, q, r⟩ := ih n (k + 1) (zst h 86 (x + (7 + 5 * o + k)) (h 86 (41 + 8 * o + (3 + k)))) (by omega) (by omega) (by omega) (by
      rw [zst_if, if_pos rfl, he]
      refine zfil_up s a x (7 + 5 * o + k) rfl ?_
      rw [zfil_lo s a (by omega), hs _ (by omega) (by omega)]
      unfold zrow
      rw [if_neg (by omega), if_neg (by omega), if_neg (by omega), if_neg (by omega), if_neg (by omega)]
      congr 1; omega)
    refine ⟨h', ?_, q, fun id hid => by rw [r id hid, zst_if, if_neg hid]⟩
    unfold sh_Mo_keep_L116
    rw [if_neg (by omega), e3]
    simp (disch := omega) only [zst_if, zup1_ne, zup1_eq, w32_s, rget_in, rput_in, zgrd, Nat.reduceEqDiff, Nat.reduceAdd, ↓reduceIte, Int.reduceToNat, zb1_some, zb2_some, zb3_some, zb4_some, zb5_some, Int.toNat_natCast, true_and, and_true, told_s, e1, e2]
    exact p
theorem zkp_L97 (N : Nat) (hN : 20 ≤ N) (s a : zFn) (x : Nat) (hx : 121 ≤ x) (hx2 : x < 1015) (hs : ∀ j, j < 121 → j ≠ 7 → s j = a j) : ∀ (d n k : Nat) (h : zHp), k + d = 8 → d < n → h 86 = zfil s a x (7 + 5 * k) → ∃ h', sh_Mo_keep_L97 N n (x : Int) (k : Int) h = some h' ∧ h' 86 = zfil s a x 47 ∧ ∀ id, id ≠ 86 → h' id = h id := by
  intro d
  induction d with
  | zero =>
    intro n k h hk hn he
    obtain ⟨n, rfl⟩ : ∃ m, n = m + 1 := ⟨n - 1, by omega⟩
    obtain rfl : k = 8 := by omega
    exact ⟨h, by unfold sh_Mo_keep_L97; rw [if_pos (by decide)], he, fun _ _ => rfl⟩
  | succ d ih =>
    intro n k h hk hn he
    obtain ⟨n, rfl⟩ : ∃ m, n = m + 1 := ⟨n - 1, by omega⟩
    have e2 : ((x : Int) + 7 + 5 * (k : Int)).toNat = x + (7 + 5 * k) := by omega
    have e3 : w32 ((k : Int) + 1) = ((k + 1 : Nat) : Int) := by rw [w32_s (by omega) (by omega)]; omega
    obtain ⟨h1, p1, q1, r1⟩ := zkp_L116 N s a x k hx hx2 (by omega) hs 4 N 1 (zst h 86 (x + (7 + 5 * k)) (h 86 (41 + 8 * k))) rfl (by decide) (by omega) (by
      rw [zst_if, if_pos rfl, he]
      refine zfil_up s a x (7 + 5 * k) rfl ?_
      rw [zfil_lo s a (by omega), hs _ (by omega) (by omega)]
      unfold zrow
      rw [if_neg (by omega), if_neg (by omega), if_neg (by omega), if_neg (by omega), if_pos (by omega)]
      congr 1; omega)
    obtain ⟨h', p, q, r⟩ := ih n (k + 1) h1 (by omega) (by omega) q1
    refine ⟨h', ?_, q, fun id hid => by rw [r id hid, r1 id hid, zst_if, if_neg hid]⟩
    unfold sh_Mo_keep_L97
    rw [if_neg (by omega)]
    simp (disch := omega) only [zst_if, zup1_ne, zup1_eq, w32_s, rget_in, rput_in, zgrd, Nat.reduceEqDiff, Nat.reduceAdd, ↓reduceIte, Int.reduceToNat, zb1_some, zb2_some, zb3_some, zb4_some, zb5_some, Int.toNat_natCast, true_and, and_true, told_s, e2, Nat.add_zero]
    rw [show (1 : Int) = ((1 : Nat) : Int) from rfl, p1]
    simp only [zb3_some]
    rw [show ((k : Int) + ((1 : Nat) : Int)) = ((k + 1 : Nat) : Int) by omega, w32_s (by omega) (by omega)]
    exact p
theorem zkp_J33 (N : Nat) (hN : 20 ≤ N) (s a : zFn) (c : Nat) (hc : c < 20) (hs : ∀ j, j < 121 → j ≠ 7 → s j = a j) (h7 : s 7 = c) (h : zHp) (he : h 86 = s) : ∃ h', sh_Mo_keep_J33 N h = some h' ∧ h' 86 = zup1 (zfil s a (121 + 47 * c) 47) 7 (c + 1) ∧ ∀ id, id ≠ 86 → h' id = h id := by
  have h7' : h 86 7 = (c : Int) := by rw [he]; exact h7
  have e0 : ((121 : Int) + 47 * (c : Int)).toNat = 121 + 47 * c := by omega
  have e1 : ((121 : Int) + 47 * (c : Int) + 1).toNat = 121 + 47 * c + 1 := by omega
  have e2 : ((121 : Int) + 47 * (c : Int) + 2).toNat = 121 + 47 * c + 2 := by omega
  obtain ⟨h1, p1, q1, r1⟩ := zkp_L72 N s a (121 + 47 * c) (by omega) (by omega) hs 4 N 0 (zst (zst (zst h 86 (121 + 47 * c) (h 86 3)) 86 (121 + 47 * c + 1) (h 86 1)) 86 (121 + 47 * c + 2) (h 86 2)) rfl (by omega) (by
    simp (disch := omega) only [zst_if, zup1_ne, zup1_eq, w32_s, rget_in, rput_in, zgrd, Nat.reduceEqDiff, Nat.reduceAdd, ↓reduceIte, Int.reduceToNat, zb1_some, zb2_some, zb3_some, zb4_some, zb5_some, Int.toNat_natCast, true_and, and_true, he]
    rw [hs 1 (by omega) (by omega), hs 2 (by omega) (by omega), hs 3 (by omega) (by omega)]
    have u1 : zup1 s (121 + 47 * c) (a 3) = zfil s a (121 + 47 * c) 1 := (congrArg (fun q => zup1 q (121 + 47 * c) (a 3)) (zfil_0 s a (121 + 47 * c))).symm.trans (zfil_up s a (121 + 47 * c) 0 rfl rfl)
    rw [u1, zfil_up s a (121 + 47 * c) 1 (v := a 1) rfl rfl, zfil_up s a (121 + 47 * c) 2 (v := a 2) rfl rfl])
  obtain ⟨h2, p2, q2, r2⟩ := zkp_L97 N hN s a (121 + 47 * c) (by omega) (by omega) hs 8 N 0 h1 rfl (by omega) q1
  refine ⟨zst h2 86 7 (c + 1), ?_, ?_, fun id hid => by rw [zst_if, if_neg hid, r2 id hid, r1 id hid, zst_if, if_neg hid, zst_if, if_neg hid, zst_if, if_neg hid]⟩
  · unfold sh_Mo_keep_J33
    simp (disch := omega) only [zst_if, zup1_ne, zup1_eq, w32_s, rget_in, rput_in, zgrd, Nat.reduceEqDiff, Nat.reduceAdd, ↓reduceIte, Int.reduceToNat, zb1_some, zb2_some, zb3_some, zb4_some, zb5_some, Int.toNat_natCast, true_and, and_true, h7', e0, e1, e2]
    have ec : (121 : Int) + 47 * (c : Int) = ((121 + 47 * c : Nat) : Int) := by omega
    rw [ec, show (0 : Int) = ((0 : Nat) : Int) from rfl, p1]
    simp only [zb2_some]
    rw [p2]
    simp only [zb1_some]
    rw [q2, zfil_lo s a (by omega), h7, w32_s (by omega) (by omega)]
  · rw [zst_if, if_pos rfl, q2]
theorem zkeep_r (N : Nat) (hN : 1000 ≤ N) {h : zHp} (hb : 0 ≤ h 86 7 ∧ h 86 7 ≤ 20) : ∃ h', sh_Mo_keep N h = some h' ∧ h' 86 = zkeep (h 86) ∧ ∀ id, id ≠ 86 → h' id = h id := by
  by_cases c : h 86 7 = 20
  · obtain ⟨h1, p1, q1, r1⟩ := zkp_L8 N (h 86) 893 N 0 h rfl (by omega) (by
      funext j; unfold zshf; rw [if_neg (by omega)])
    have e7 : h1 86 7 = 20 := by rw [q1]; unfold zshf; rw [if_neg (by omega), c]
    obtain ⟨h2, p2, q2, r2⟩ := zkp_J33 N (by omega) (zup1 (zshf (h 86) 893) 7 19) (h 86) 19 (by omega) (fun j hj h7 => by rw [zup1_ne _ _ h7]; unfold zshf; rw [if_neg (by omega)]) (zup1_eq _ _ _) (zst h1 86 7 19) (by rw [zst_if, if_pos rfl, q1])
    refine ⟨h2, ?_, ?_, fun id hid => by rw [r2 id hid, zst_if, if_neg hid, r1 id hid]⟩
    · unfold sh_Mo_keep
      rw [if_pos c, show (0 : Int) = ((0 : Nat) : Int) from rfl, p1]
      simp only [zb1_some]
      rw [e7, w32_s (by decide) (by decide)]
      exact p2
    · rw [q2]; unfold zkeep; rw [if_pos c]; rfl
  · obtain ⟨n, hn⟩ : ∃ n : Nat, h 86 7 = n := ⟨(h 86 7).toNat, by omega⟩
    obtain ⟨h2, p2, q2, r2⟩ := zkp_J33 N (by omega) (h 86) (h 86) n (by omega) (fun _ _ _ => rfl) hn h rfl
    refine ⟨h2, ?_, ?_, r2⟩
    · unfold sh_Mo_keep
      rw [if_neg c]; exact p2
    · rw [q2]; unfold zkeep; rw [if_neg c, hn, Int.toNat_natCast]
/-! the class's keep, and the invariant behind it -/
theorem zkeep_lo {a : zFn} {j : Nat} (h : j < 121) (h7 : j ≠ 7) : zkeep a j = a j := by
  unfold zkeep
  split
  · rw [zup1_ne _ _ h7, zfil_lo _ _ (by omega), zup1_ne _ _ h7]; unfold zshf; rw [if_neg (by omega)]
  · rw [zup1_ne _ _ h7, zfil_lo _ _ (by omega)]
theorem zkeep_7 {a : zFn} (hb : 0 ≤ a 7 ∧ a 7 ≤ 20) : zkeep a 7 = if a 7 = 20 then 20 else a 7 + 1 := by
  unfold zkeep
  split
  · exact zup1_eq _ _ _
  · exact zup1_eq _ _ _
/-- an elder step -/
theorem zkeep_old {a : zFn} (hb : 0 ≤ a 7 ∧ a 7 ≤ 20) {k : Nat} (hk : (k : Int) < zkeep a 7 - 1) {i : Nat} (hi : i < 47) : zkeep a (121 + 47 * k + i) = a (121 + 47 * (if a 7 = 20 then k + 1 else k) + i) := by
  rw [zkeep_7 hb] at hk
  unfold zkeep
  by_cases c : a 7 = 20
  · rw [if_pos c, if_pos c] at *
    rw [zup1_ne _ _ (by omega), zfil_lo _ _ (by omega), zup1_ne _ _ (by omega)]
    unfold zshf
    rw [if_pos (by omega)]
    congr 1; omega
  · rw [if_neg c, if_neg c] at *
    rw [zup1_ne _ _ (by omega), zfil_lo _ _ (by omega)]
/-- the new step -/
theorem zkeep_new {a : zFn} (hb : 0 ≤ a 7 ∧ a 7 ≤ 20) {k : Nat} (hk : (k : Int) = zkeep a 7 - 1) {i : Nat} (hi : i < 47) : zkeep a (121 + 47 * k + i) = zrow a i := by
  rw [zkeep_7 hb] at hk
  unfold zkeep
  by_cases c : a 7 = 20
  · rw [if_pos c] at *
    obtain rfl : k = 19 := by omega
    rw [zup1_ne _ _ (by omega)]
    unfold zfil
    rw [if_pos (by omega)]; exact congrArg (zrow a) (by omega)
  · rw [if_neg c] at *
    rw [zup1_ne _ _ (by omega)]
    unfold zfil
    rw [if_pos (by omega)]; exact congrArg (zrow a) (by omega)
theorem zrow_ox (a : zFn) (o e : Nat) (he : e < 4) : zrow a (7 + 5 * o) = a (41 + 8 * o) ∧ zrow a (7 + 5 * o + 1 + e) = a (45 + 8 * o + e) := by
  unfold zrow
  constructor
  · rw [if_neg (by omega), if_neg (by omega), if_neg (by omega), if_neg (by omega), if_pos (by omega)]; congr 1; omega
  · rw [if_neg (by omega), if_neg (by omega), if_neg (by omega), if_neg (by omega), if_neg (by omega)]; congr 1; omega
theorem zrow_f (a : zFn) (f : Nat) (hf : f < 4) : zrow a (3 + f) = a (28 + 4 * f) := by
  unfold zrow
  rw [if_neg (by omega), if_neg (by omega), if_neg (by omega), if_pos (by omega)]; congr 2; omega
theorem zkeep_ok {a : zFn} (hk : zOk a) : zOk (zkeep a) := by
  obtain ⟨k1, k2, k3, k4, k5, k6⟩ := hk
  have b7 := k1.2.2.2.2.2.2.2
  have e7 := zkeep_7 b7
  have lo : ∀ j, j < 121 → j ≠ 7 → zkeep a j = a j := fun j h1 h2 => zkeep_lo h1 h2
  refine ⟨?_, ?_, ?_, ?_, ?_, ?_⟩
  · rw [lo 0 (by omega) (by omega), lo 1 (by omega) (by omega), lo 2 (by omega) (by omega), lo 3 (by omega) (by omega), lo 4 (by omega) (by omega), lo 5 (by omega) (by omega), lo 6 (by omega) (by omega), e7]
    refine ⟨k1.1, k1.2.1, k1.2.2.1, k1.2.2.2.1, k1.2.2.2.2.1, k1.2.2.2.2.2.1, k1.2.2.2.2.2.2.1, ?_⟩
    split <;> omega
  · intro k hk
    rw [lo _ (by omega) (by omega), lo _ (by omega) (by omega), lo _ (by omega) (by omega)]; exact k2 k hk
  · intro k hk
    rw [lo _ (by omega) (by omega), lo _ (by omega) (by omega), lo _ (by omega) (by omega), lo _ (by omega) (by omega)]; exact k3 k hk
  · intro o ho
    rw [lo 2 (by omega) (by omega)] at ho
    rw [lo 0 (by omega) (by omega), lo 1 (by omega) (by omega), lo 2 (by omega) (by omega), lo (41 + 8 * o) (by omega) (by omega), lo (42 + 8 * o) (by omega) (by omega), lo (43 + 8 * o) (by omega) (by omega), lo (44 + 8 * o) (by omega) (by omega), lo (45 + 8 * o) (by omega) (by omega), lo (46 + 8 * o) (by omega) (by omega), lo (47 + 8 * o) (by omega) (by omega), lo (48 + 8 * o) (by omega) (by omega)]
    exact k4 o ho
  · intro k hk
    rw [lo 6 (by omega) (by omega)] at hk
    rw [lo 0 (by omega) (by omega), lo _ (by omega) (by omega), lo _ (by omega) (by omega)]; exact k5 k hk
  · intro k hk
    rw [lo 0 (by omega) (by omega), lo 1 (by omega) (by omega), lo 2 (by omega) (by omega)]
    by_cases c : (k : Int) < zkeep a 7 - 1
    · have old := fun i (hi : i < 47) => zkeep_old b7 c hi
      have hk2 : ((if a 7 = 20 then k + 1 else k : Nat) : Int) < a 7 := by
        rw [e7] at hk c
        by_cases q : a 7 = 20
        · rw [if_pos q] at *; omega
        · rw [if_neg q] at *; omega
      generalize (if a 7 = 20 then k + 1 else k : Nat) = m at old hk2
      obtain ⟨⟨h1, h2, h3⟩, h4, h5⟩ := k6 m hk2
      have o0 := old 0 (by omega)
      rw [Nat.add_zero, Nat.add_zero] at o0
      have o1 : zkeep a (122 + 47 * k) = a (122 + 47 * m) := by have := old 1 (by omega); rwa [show 121 + 47 * k + 1 = 122 + 47 * k by omega, show 121 + 47 * m + 1 = 122 + 47 * m by omega] at this
      have o2 : zkeep a (123 + 47 * k) = a (123 + 47 * m) := by have := old 2 (by omega); rwa [show 121 + 47 * k + 2 = 123 + 47 * k by omega, show 121 + 47 * m + 2 = 123 + 47 * m by omega] at this
      rw [o0, o1, o2]
      refine ⟨⟨h1, h2, h3⟩, fun f hf => ?_, fun o ho => ?_⟩
      · have := old (3 + f) (by omega)
        rw [show 121 + 47 * k + (3 + f) = 124 + 47 * k + f by omega, show 121 + 47 * m + (3 + f) = 124 + 47 * m + f by omega] at this
        rw [this]; exact h4 f hf
      · have hx := h5 o ho
        have x : ∀ i, i < 5 → zkeep a (128 + 47 * k + 5 * o + i) = a (128 + 47 * m + 5 * o + i) := fun i hi => by
          have := old (7 + 5 * o + i) (by omega)
          rwa [show 121 + 47 * k + (7 + 5 * o + i) = 128 + 47 * k + 5 * o + i by omega, show 121 + 47 * m + (7 + 5 * o + i) = 128 + 47 * m + 5 * o + i by omega] at this
        have x0 := x 0 (by omega)
        have x1 := x 1 (by omega)
        have x2 := x 2 (by omega)
        have x3 := x 3 (by omega)
        have x4 := x 4 (by omega)
        rw [Nat.add_zero, Nat.add_zero] at x0
        rw [show 128 + 47 * k + 5 * o + 1 = 129 + 47 * k + 5 * o by omega, show 128 + 47 * m + 5 * o + 1 = 129 + 47 * m + 5 * o by omega] at x1
        rw [show 128 + 47 * k + 5 * o + 2 = 130 + 47 * k + 5 * o by omega, show 128 + 47 * m + 5 * o + 2 = 130 + 47 * m + 5 * o by omega] at x2
        rw [show 128 + 47 * k + 5 * o + 3 = 131 + 47 * k + 5 * o by omega, show 128 + 47 * m + 5 * o + 3 = 131 + 47 * m + 5 * o by omega] at x3
        rw [show 128 + 47 * k + 5 * o + 4 = 132 + 47 * k + 5 * o by omega, show 128 + 47 * m + 5 * o + 4 = 132 + 47 * m + 5 * o by omega] at x4
        rw [x0, x1, x2, x3, x4]; exact hx
    · have ck : (k : Int) = zkeep a 7 - 1 := by omega
      have new := fun i (hi : i < 47) => zkeep_new b7 ck hi
      have o0 := new 0 (by omega)
      rw [Nat.add_zero] at o0
      have o1 : zkeep a (122 + 47 * k) = a 1 := by have := new 1 (by omega); rw [show 121 + 47 * k + 1 = 122 + 47 * k by omega] at this; exact this
      have o2 : zkeep a (123 + 47 * k) = a 2 := by have := new 2 (by omega); rw [show 121 + 47 * k + 2 = 123 + 47 * k by omega] at this; exact this
      rw [o0, o1, o2]
      refine ⟨⟨k1.2.2.2.1, ⟨k1.2.1.1, Int.le_refl _⟩, ⟨k1.2.2.1.1, Int.le_refl _⟩⟩, fun f hf => ?_, fun o ho => ?_⟩
      · have := new (3 + f) (by omega)
        rw [show 121 + 47 * k + (3 + f) = 124 + 47 * k + f by omega, zrow_f a f hf] at this
        rw [this]; exact (k3 f hf).2.2.2
      · have hx := (k4 o ho).1
        have x0 : zkeep a (128 + 47 * k + 5 * o) = a (41 + 8 * o) := by
          have := new (7 + 5 * o) (by omega)
          rw [(zrow_ox a o 0 (by omega)).1] at this
          rwa [show 121 + 47 * k + (7 + 5 * o) = 128 + 47 * k + 5 * o by omega] at this
        have x : ∀ e, e < 4 → zkeep a (129 + 47 * k + 5 * o + e) = a (45 + 8 * o + e) := fun e he => by
          have := new (7 + 5 * o + 1 + e) (by omega)
          rw [(zrow_ox a o e he).2] at this
          rwa [show 121 + 47 * k + (7 + 5 * o + 1 + e) = 129 + 47 * k + 5 * o + e by omega] at this
        have x1 := x 0 (by omega)
        have x2 := x 1 (by omega)
        have x3 := x 2 (by omega)
        have x4 := x 3 (by omega)
        rw [Nat.add_zero, Nat.add_zero] at x1
        rw [show 129 + 47 * k + 5 * o + 1 = 130 + 47 * k + 5 * o by omega, show 45 + 8 * o + 1 = 46 + 8 * o by omega] at x2
        rw [show 129 + 47 * k + 5 * o + 2 = 131 + 47 * k + 5 * o by omega, show 45 + 8 * o + 2 = 47 + 8 * o by omega] at x3
        rw [show 129 + 47 * k + 5 * o + 3 = 132 + 47 * k + 5 * o by omega, show 45 + 8 * o + 3 = 48 + 8 * o by omega] at x4
        rw [x0, x1, x2, x3, x4]; exact hx
theorem zkeep_c {h : zHp} {a : zFn} (hy : zYc 0 h a) (hk : zOk a) : ∃ h1, sh_Yard_keepStep_1 h = h1 ∧ zYc 0 h1 (zkeep a) ∧ h1 16 = h 16 ∧ ∀ id, id ≠ 17 → id ≠ 19 → h1 id = h id := by
  obtain ⟨y1, y2, y3, y4, y5, y6⟩ := hy
  simp only [Nat.reduceAdd] at y1 y2 y3 y4 y5 y6
  have b7 := hk.1.2.2.2.2.2.2.2
  have b2 := hk.1.2.2.1
  have e7 := zkeep_7 b7
  obtain ⟨-, -, -, -, -, -, -, c7, n0, n1⟩ := id y1
  obtain ⟨p, hp⟩ : ∃ p : Nat, h 17 1 = p := ⟨(h 17 1).toNat, by omega⟩
  have lo : ∀ j, j < 121 → j ≠ 7 → zkeep a j = a j := fun j h1 h2 => zkeep_lo h1 h2
  have ew : sh_Herd_writeTo_14_18 (w32 (h 17 1 * 71)) h = fun o => if o = 19 then zcp (h 19) (71 * p) 71 (h 16) 0 else h o := by
    unfold sh_Herd_writeTo_14_18
    rw [hp, w32_s (by omega) (by omega), show ((p : Int) * 71) = ((71 * p : Nat) : Int) by omega]
    exact rpart_s (t := 71 * p) (f := 0) (k := 71) (by decide) (by decide) (by decide) (by omega) (by decide)
  have eh : sh_Yard_keepStep_1 h = zst (zst (fun o => if o = 19 then zcp (h 19) (71 * p) 71 (h 16) 0 else h o) 17 1 ((p + 1 : Nat) % 20 : Nat)) 17 2 (if a 7 = 20 then 20 else a 7 + 1) := by
    unfold sh_Yard_keepStep_1 sh_Steps_keep_17_14
    rw [ew]
    simp (disch := omega) only [zst_if, zup1_ne, zup1_eq, w32_s, rget_in, rput_in, zgrd, Nat.reduceEqDiff, Nat.reduceAdd, ↓reduceIte, Int.reduceToNat, zb1_some, zb2_some, zb3_some, zb4_some, zb5_some, Int.toNat_natCast, true_and, and_true, hp, c7]
    have et : ((p : Int) + 1).tmod 20 = (((p + 1 : Nat) % 20 : Nat) : Int) := by
      rw [Int.tmod_eq_emod_of_nonneg (by omega)]; omega
    rw [et, w32_s (by omega) (by omega)]
    congr 1
    unfold zmin
    by_cases q : a 7 = 20
    · rw [if_pos q, if_neg (by omega)]
    · rw [if_neg q, if_pos (by omega)]
  refine ⟨_, rfl, ?_, ?_, fun id i1 i2 => ?_⟩
  · rw [eh]
    refine ⟨?_, ?_, ?_, ?_, ?_, ?_⟩ <;> simp only [Nat.reduceAdd]
    · simp (disch := omega) only [zst_if, zup1_ne, zup1_eq, w32_s, rget_in, rput_in, zgrd, Nat.reduceEqDiff, Nat.reduceAdd, ↓reduceIte, Int.reduceToNat, zb1_some, zb2_some, zb3_some, zb4_some, zb5_some, Int.toNat_natCast, true_and, and_true, lo 0 (by omega) (by omega), lo 1 (by omega) (by omega), lo 2 (by omega) (by omega), lo 3 (by omega) (by omega), lo 4 (by omega) (by omega), lo 5 (by omega) (by omega), lo 6 (by omega) (by omega), e7]
      refine ⟨y1.1, y1.2.1, y1.2.2.1, y1.2.2.2.1, y1.2.2.2.2.1, y1.2.2.2.2.2.1, y1.2.2.2.2.2.2.1, by omega, by omega⟩
    · intro k hk
      rw [lo _ (by omega) (by omega), lo _ (by omega) (by omega), lo _ (by omega) (by omega)]
      simp (disch := omega) only [zst_if, zup1_ne, zup1_eq, w32_s, rget_in, rput_in, zgrd, Nat.reduceEqDiff, Nat.reduceAdd, ↓reduceIte, Int.reduceToNat, zb1_some, zb2_some, zb3_some, zb4_some, zb5_some, Int.toNat_natCast, true_and, and_true]
      exact y2 k hk
    · intro k hk
      rw [lo _ (by omega) (by omega), lo _ (by omega) (by omega), lo _ (by omega) (by omega), lo _ (by omega) (by omega)]
      simp (disch := omega) only [zst_if, zup1_ne, zup1_eq, w32_s, rget_in, rput_in, zgrd, Nat.reduceEqDiff, Nat.reduceAdd, ↓reduceIte, Int.reduceToNat, zb1_some, zb2_some, zb3_some, zb4_some, zb5_some, Int.toNat_natCast, true_and, and_true]
      exact y3 k hk
    · intro o ho w hw
      rw [lo _ (by omega) (by omega)]
      simp (disch := omega) only [zst_if, zup1_ne, zup1_eq, w32_s, rget_in, rput_in, zgrd, Nat.reduceEqDiff, Nat.reduceAdd, ↓reduceIte, Int.reduceToNat, zb1_some, zb2_some, zb3_some, zb4_some, zb5_some, Int.toNat_natCast, true_and, and_true]
      exact y4 o ho w hw
    · intro k hk
      rw [lo _ (by omega) (by omega), lo _ (by omega) (by omega)]
      simp (disch := omega) only [zst_if, zup1_ne, zup1_eq, w32_s, rget_in, rput_in, zgrd, Nat.reduceEqDiff, Nat.reduceAdd, ↓reduceIte, Int.reduceToNat, zb1_some, zb2_some, zb3_some, zb4_some, zb5_some, Int.toNat_natCast, true_and, and_true]
      exact y5 k hk
    · intro k hk0
      simp (disch := omega) only [zst_if, zup1_ne, zup1_eq, w32_s, rget_in, rput_in, zgrd, Nat.reduceEqDiff, Nat.reduceAdd, ↓reduceIte, Int.reduceToNat, zb1_some, zb2_some, zb3_some, zb4_some, zb5_some, Int.toNat_natCast, true_and, and_true]
      by_cases c : (k : Int) < zkeep a 7 - 1
      · have old := fun i (hi : i < 47) => zkeep_old b7 c hi
        have hk2 : ((if a 7 = 20 then k + 1 else k : Nat) : Int) < a 7 ∧ (71 * ((((p + 1) % 20 : Nat) - zkeep a 7 + k + 20).toNat % 20)) = 71 * (((p : Int) - a 7 + ((if a 7 = 20 then k + 1 else k : Nat) : Int) + 20).toNat % 20) ∧ ((p : Int) - a 7 + ((if a 7 = 20 then k + 1 else k : Nat) : Int) + 20).toNat % 20 ≠ p := by
          rw [e7] at hk0 c ⊢
          by_cases q : a 7 = 20
          · rw [if_pos q] at *
            refine ⟨?_, ?_, ?_⟩ <;> omega
          · rw [if_neg q] at *
            refine ⟨?_, ?_, ?_⟩ <;> omega
        generalize (if a 7 = 20 then k + 1 else k : Nat) = m at old hk2
        obtain ⟨q1, q2, q3⟩ := hk2
        rw [q2]
        have z := y6 m q1
        rw [hp] at z
        have hr := (hk.s m q1).1.2.2
        refine zSp_mv z (fun j hj => ?_) (fun j hj => old j hj) (fun o ho w w1 w2 => lo _ ?_ (by omega)) ?_
        · unfold zcp
          rw [if_neg (by omega)]
        · rw [show 121 + 47 * m + 2 = 123 + 47 * m by omega] at ho; omega
        · rw [show 121 + 47 * m + 2 = 123 + 47 * m by omega]; omega
      · have ck : (k : Int) = zkeep a 7 - 1 := by omega
        have new := fun i (hi : i < 47) => zkeep_new b7 ck hi
        have hs : (71 * ((((p + 1) % 20 : Nat) - zkeep a 7 + k + 20).toNat % 20)) = 71 * p := by omega
        rw [hs]
        have cc : ∀ j, j < 71 → zcp (h 19) (71 * p) 71 (h 16) 0 (71 * p + j) = h 16 j := fun j hj => by
          unfold zcp
          rw [if_pos (by omega)]; congr 1; omega
        refine ⟨⟨?_, ?_, ?_⟩, fun f hf => ?_, fun o ho => ⟨?_, fun e he => ?_⟩, fun o ho w w1 w2 => ?_⟩
        · have c0 := cc 0 (by omega)
          have n0 := new 0 (by omega)
          rw [Nat.add_zero] at c0 n0
          rw [c0, n0]; exact y1.2.2.2.1
        · rw [cc 1 (by omega), new 1 (by omega)]; exact y1.2.1
        · rw [cc 2 (by omega), new 2 (by omega)]; exact y1.2.2.1
        · rw [show 71 * p + 3 + f = 71 * p + (3 + f) by omega, show 121 + 47 * k + 3 + f = 121 + 47 * k + (3 + f) by omega, cc _ (by omega), new _ (by omega), zrow_f a f hf]
          exact (y3 f hf).2.2.2
        · rw [show 71 * p + 7 + 8 * o = 71 * p + (7 + 8 * o) by omega, show 121 + 47 * k + 7 + 5 * o = 121 + 47 * k + (7 + 5 * o) by omega, cc _ (by omega), new _ (by omega), (zrow_ox a o 0 (by omega)).1]
          exact y4 o ho 0 (by omega)
        · rw [show 71 * p + 7 + 8 * o + 4 + e = 71 * p + (7 + 8 * o + 4 + e) by omega, show 121 + 47 * k + 7 + 5 * o + 1 + e = 121 + 47 * k + (7 + 5 * o + 1 + e) by omega, cc _ (by omega), new _ (by omega), (zrow_ox a o e he).2, show 7 + 8 * o + 4 + e = 7 + 8 * o + (4 + e) by omega, show 45 + 8 * o + e = 41 + 8 * o + (4 + e) by omega]
          exact y4 o ho (4 + e) (by omega)
        · have n2 := new 2 (by omega)
          rw [n2] at ho
          have ho : (o : Int) < a 2 := ho
          rw [show 71 * p + 7 + 8 * o + w = 71 * p + (7 + 8 * o + w) by omega, cc _ (by omega), lo _ (by omega) (by omega)]
          exact y4 o (by omega) w (by omega)
  · rw [eh]
    simp (disch := omega) only [zst_if, zup1_ne, zup1_eq, w32_s, rget_in, rput_in, zgrd, Nat.reduceEqDiff, Nat.reduceAdd, ↓reduceIte, Int.reduceToNat, zb1_some, zb2_some, zb3_some, zb4_some, zb5_some, Int.toNat_natCast, true_and, and_true]
  · rw [eh, zst_if, if_neg i1, zst_if, if_neg i1]
    show (if id = 19 then _ else h id) = h id
    rw [if_neg i2]
