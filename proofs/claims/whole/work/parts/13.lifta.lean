/-! by program (wip/whole/emit.py) out of the claim's listing -/
def sh_Reader_joins (x0 x1 : Int) : Int := (if x0 = 0 then (if x1 = 16 then 1 else 0 : Int) else if x0 = 1 then (if x1 = 17 then 1 else 0 : Int) else if x0 = 2 then (if x1 = 26 then 1 else (if x1 = 27 then 1 else 0 : Int) : Int) else if x0 = 3 then (if x1 = 24 then 1 else (if x1 = 25 then 1 else 0 : Int) : Int) else (if x1 = 26 then 1 else (if x1 = 27 then 1 else 0 : Int) : Int))
set_option maxRecDepth 100000 in
set_option maxHeartbeats 4000000 in
theorem zw_Reader_joins {l : Launch} {E : zE} {d : Nat} (hd : 1 ≤ d) (x0 x1 : Int) {h : zHp} {Q : Int → zHp → Prop} {r0 : Int} (hF : sh_Reader_joins x0 x1 = r0) (K : Q r0 h) : zW l E d zm_Reader_joins 0 [.inl x0, .inl x1] [] h Q := by
  rw [sh_Reader_joins] at hF
  refine z_iload rfl rfl ?_
  refine z_switch rfl (by unfold zI32; omega) (by decide) (fun c1 => ?_) (fun j t ht e => ?_)
  · simp only [List.length_cons, List.length_nil] at c1
    rw [if_neg (by omega), if_neg (by omega), if_neg (by omega), if_neg (by omega)] at hF
    refine z_iload rfl rfl ?_
    refine z_const rfl ?_
    have hJ4 : zW l E d zm_Reader_joins 35 [zJk, zJk] [.inl (if x1 = 26 then 1 else (if x1 = 27 then 1 else 0 : Int) : Int)] h Q := by
      subst hF
      exact z_zret rfl rfl (zor_ite (Or.inr rfl) (zor_ite (Or.inr rfl) (Or.inl rfl))) K
    refine z_ceq rfl (fun c2 => ?_) (fun c2 => ?_)
    · refine z_const rfl ?_
      refine z_goto rfl ?_
      refine zsubL (L' := [zJk, zJk]) ⟨Or.inr rfl, Or.inr rfl, trivial⟩ ?_
      exact zcast (by first | rfl | (simp only [if_pos c2] <;> rfl)) (by first | rfl | (simp only [if_pos c2] <;> rfl)) hJ4
    · refine z_iload rfl rfl ?_
      refine z_const rfl ?_
      refine z_cne rfl (fun c3 => ?_) (fun c3 => ?_)
      · refine z_const rfl ?_
        refine zsubL (L' := [zJk, zJk]) ⟨Or.inr rfl, Or.inr rfl, trivial⟩ ?_
        exact zcast (by first | rfl | (simp only [if_neg c2, if_neg c3] <;> rfl)) (by first | rfl | (simp only [if_neg c2, if_neg c3] <;> rfl)) hJ4
      · refine z_const rfl ?_
        refine z_goto rfl ?_
        refine zsubL (L' := [zJk, zJk]) ⟨Or.inr rfl, Or.inr rfl, trivial⟩ ?_
        exact zcast (by first | rfl | (simp only [if_neg c2, if_pos c3] <;> rfl)) (by first | rfl | (simp only [if_neg c2, if_pos c3] <;> rfl)) hJ4
  · match j, ht, e with
    | 0, ht, e =>
      obtain rfl : 2 = t := Option.some.inj ht
      rw [if_pos (by omega)] at hF
      refine z_iload rfl rfl ?_
      refine z_const rfl ?_
      have hJ6 : zW l E d zm_Reader_joins 8 [zJk, zJk] [.inl (if x1 = 16 then 1 else 0 : Int)] h Q := by
        subst hF
        exact z_zret rfl rfl (zor_ite (Or.inr rfl) (Or.inl rfl)) K
      refine z_cne rfl (fun c5 => ?_) (fun c5 => ?_)
      · refine z_const rfl ?_
        refine zsubL (L' := [zJk, zJk]) ⟨Or.inr rfl, Or.inr rfl, trivial⟩ ?_
        exact zcast (by first | rfl | (simp only [if_neg c5] <;> rfl)) (by first | rfl | (simp only [if_neg c5] <;> rfl)) hJ6
      · refine z_const rfl ?_
        refine z_goto rfl ?_
        refine zsubL (L' := [zJk, zJk]) ⟨Or.inr rfl, Or.inr rfl, trivial⟩ ?_
        exact zcast (by first | rfl | (simp only [if_pos c5] <;> rfl)) (by first | rfl | (simp only [if_pos c5] <;> rfl)) hJ6
    | 1, ht, e =>
      obtain rfl : 9 = t := Option.some.inj ht
      rw [if_neg (by omega), if_pos (by omega)] at hF
      refine z_iload rfl rfl ?_
      refine z_const rfl ?_
      have hJ8 : zW l E d zm_Reader_joins 15 [zJk, zJk] [.inl (if x1 = 17 then 1 else 0 : Int)] h Q := by
        subst hF
        exact z_zret rfl rfl (zor_ite (Or.inr rfl) (Or.inl rfl)) K
      refine z_cne rfl (fun c7 => ?_) (fun c7 => ?_)
      · refine z_const rfl ?_
        refine zsubL (L' := [zJk, zJk]) ⟨Or.inr rfl, Or.inr rfl, trivial⟩ ?_
        exact zcast (by first | rfl | (simp only [if_neg c7] <;> rfl)) (by first | rfl | (simp only [if_neg c7] <;> rfl)) hJ8
      · refine z_const rfl ?_
        refine z_goto rfl ?_
        refine zsubL (L' := [zJk, zJk]) ⟨Or.inr rfl, Or.inr rfl, trivial⟩ ?_
        exact zcast (by first | rfl | (simp only [if_pos c7] <;> rfl)) (by first | rfl | (simp only [if_pos c7] <;> rfl)) hJ8
    | 2, ht, e =>
      obtain rfl : 26 = t := Option.some.inj ht
      rw [if_neg (by omega), if_neg (by omega), if_pos (by omega)] at hF
      refine z_iload rfl rfl ?_
      refine z_const rfl ?_
      have hJ11 : zW l E d zm_Reader_joins 35 [zJk, zJk] [.inl (if x1 = 26 then 1 else (if x1 = 27 then 1 else 0 : Int) : Int)] h Q := by
        subst hF
        exact z_zret rfl rfl (zor_ite (Or.inr rfl) (zor_ite (Or.inr rfl) (Or.inl rfl))) K
      refine z_ceq rfl (fun c9 => ?_) (fun c9 => ?_)
      · refine z_const rfl ?_
        refine z_goto rfl ?_
        refine zsubL (L' := [zJk, zJk]) ⟨Or.inr rfl, Or.inr rfl, trivial⟩ ?_
        exact zcast (by first | rfl | (simp only [if_pos c9] <;> rfl)) (by first | rfl | (simp only [if_pos c9] <;> rfl)) hJ11
      · refine z_iload rfl rfl ?_
        refine z_const rfl ?_
        refine z_cne rfl (fun c10 => ?_) (fun c10 => ?_)
        · refine z_const rfl ?_
          refine zsubL (L' := [zJk, zJk]) ⟨Or.inr rfl, Or.inr rfl, trivial⟩ ?_
          exact zcast (by first | rfl | (simp only [if_neg c9, if_neg c10] <;> rfl)) (by first | rfl | (simp only [if_neg c9, if_neg c10] <;> rfl)) hJ11
        · refine z_const rfl ?_
          refine z_goto rfl ?_
          refine zsubL (L' := [zJk, zJk]) ⟨Or.inr rfl, Or.inr rfl, trivial⟩ ?_
          exact zcast (by first | rfl | (simp only [if_neg c9, if_pos c10] <;> rfl)) (by first | rfl | (simp only [if_neg c9, if_pos c10] <;> rfl)) hJ11
    | 3, ht, e =>
      obtain rfl : 16 = t := Option.some.inj ht
      rw [if_neg (by omega), if_neg (by omega), if_neg (by omega), if_pos (by omega)] at hF
      refine z_iload rfl rfl ?_
      refine z_const rfl ?_
      have hJ14 : zW l E d zm_Reader_joins 25 [zJk, zJk] [.inl (if x1 = 24 then 1 else (if x1 = 25 then 1 else 0 : Int) : Int)] h Q := by
        subst hF
        exact z_zret rfl rfl (zor_ite (Or.inr rfl) (zor_ite (Or.inr rfl) (Or.inl rfl))) K
      refine z_ceq rfl (fun c12 => ?_) (fun c12 => ?_)
      · refine z_const rfl ?_
        refine z_goto rfl ?_
        refine zsubL (L' := [zJk, zJk]) ⟨Or.inr rfl, Or.inr rfl, trivial⟩ ?_
        exact zcast (by first | rfl | (simp only [if_pos c12] <;> rfl)) (by first | rfl | (simp only [if_pos c12] <;> rfl)) hJ14
      · refine z_iload rfl rfl ?_
        refine z_const rfl ?_
        refine z_cne rfl (fun c13 => ?_) (fun c13 => ?_)
        · refine z_const rfl ?_
          refine zsubL (L' := [zJk, zJk]) ⟨Or.inr rfl, Or.inr rfl, trivial⟩ ?_
          exact zcast (by first | rfl | (simp only [if_neg c12, if_neg c13] <;> rfl)) (by first | rfl | (simp only [if_neg c12, if_neg c13] <;> rfl)) hJ14
        · refine z_const rfl ?_
          refine z_goto rfl ?_
          refine zsubL (L' := [zJk, zJk]) ⟨Or.inr rfl, Or.inr rfl, trivial⟩ ?_
          exact zcast (by first | rfl | (simp only [if_neg c12, if_pos c13] <;> rfl)) (by first | rfl | (simp only [if_neg c12, if_pos c13] <;> rfl)) hJ14
    | j + 4, ht, e => cases ht
set_option maxRecDepth 100000 in
theorem zf_Reader_joins {l : Launch} {E : zE} {d : Nat} (hd : 1 ≤ d) (x0 x1 : Int) {h : zHp} : zC l E d zm_Reader_joins [.inl x0, .inl x1] h (fun r1 h1 => sh_Reader_joins x0 x1 = r1 ∧ h = h1) :=
  zC_of zk_Reader_joins (by decide) rfl rfl (Nat.le_of_ble_eq_true rfl) (zw_Reader_joins hd _ _ rfl ⟨rfl, rfl⟩)
theorem zb_Reader_joins (x0 x1 : Int) : sh_Reader_joins x0 x1 = 0 ∨ sh_Reader_joins x0 x1 = 1 := by
  unfold sh_Reader_joins
  exact zor_ite (zor_ite (Or.inr rfl) (Or.inl rfl)) (zor_ite (zor_ite (Or.inr rfl) (Or.inl rfl)) (zor_ite (zor_ite (Or.inr rfl) (zor_ite (Or.inr rfl) (Or.inl rfl))) (zor_ite (zor_ite (Or.inr rfl) (zor_ite (Or.inr rfl) (Or.inl rfl))) (zor_ite (Or.inr rfl) (zor_ite (Or.inr rfl) (Or.inl rfl))))))
def sh_Reader_isBlank (x0 : Int) : Int := (if x0 = 32 then 1 else (if x0 = 10 then 1 else 0 : Int) : Int)
set_option maxRecDepth 100000 in
set_option maxHeartbeats 4000000 in
theorem zw_Reader_isBlank {l : Launch} {E : zE} {d : Nat} (hd : 1 ≤ d) (x0 : Int) {h : zHp} {Q : Int → zHp → Prop} {r0 : Int} (hF : sh_Reader_isBlank x0 = r0) (K : Q r0 h) : zW l E d zm_Reader_isBlank 0 [.inl x0] [] h Q := by
  rw [sh_Reader_isBlank] at hF
  refine z_iload rfl rfl ?_
  refine z_const rfl ?_
  have hJ3 : zW l E d zm_Reader_isBlank 9 [zJk] [.inl (if x0 = 32 then 1 else (if x0 = 10 then 1 else 0 : Int) : Int)] h Q := by
    subst hF
    exact z_zret rfl rfl (zor_ite (Or.inr rfl) (zor_ite (Or.inr rfl) (Or.inl rfl))) K
  refine z_ceq rfl (fun c1 => ?_) (fun c1 => ?_)
  · refine z_const rfl ?_
    refine z_goto rfl ?_
    refine zsubL (L' := [zJk]) ⟨Or.inr rfl, trivial⟩ ?_
    exact zcast (by first | rfl | (simp only [if_pos c1] <;> rfl)) (by first | rfl | (simp only [if_pos c1] <;> rfl)) hJ3
  · refine z_iload rfl rfl ?_
    refine z_const rfl ?_
    refine z_cne rfl (fun c2 => ?_) (fun c2 => ?_)
    · refine z_const rfl ?_
      refine zsubL (L' := [zJk]) ⟨Or.inr rfl, trivial⟩ ?_
      exact zcast (by first | rfl | (simp only [if_neg c1, if_neg c2] <;> rfl)) (by first | rfl | (simp only [if_neg c1, if_neg c2] <;> rfl)) hJ3
    · refine z_const rfl ?_
      refine z_goto rfl ?_
      refine zsubL (L' := [zJk]) ⟨Or.inr rfl, trivial⟩ ?_
      exact zcast (by first | rfl | (simp only [if_neg c1, if_pos c2] <;> rfl)) (by first | rfl | (simp only [if_neg c1, if_pos c2] <;> rfl)) hJ3
set_option maxRecDepth 100000 in
theorem zf_Reader_isBlank {l : Launch} {E : zE} {d : Nat} (hd : 1 ≤ d) (x0 : Int) {h : zHp} : zC l E d zm_Reader_isBlank [.inl x0] h (fun r1 h1 => sh_Reader_isBlank x0 = r1 ∧ h = h1) :=
  zC_of zk_Reader_isBlank (by decide) rfl rfl (Nat.le_of_ble_eq_true rfl) (zw_Reader_isBlank hd _ rfl ⟨rfl, rfl⟩)
theorem zb_Reader_isBlank (x0 : Int) : sh_Reader_isBlank x0 = 0 ∨ sh_Reader_isBlank x0 = 1 := by
  unfold sh_Reader_isBlank
  exact zor_ite (Or.inr rfl) (zor_ite (Or.inr rfl) (Or.inl rfl))
def sh_Reader_isLetter (x0 : Int) : Int := (if x0 < 97 then (if x0 < 65 then 0 else (if 90 < x0 then 0 else 1 : Int) : Int) else (if x0 ≤ 122 then 1 else (if x0 < 65 then 0 else (if 90 < x0 then 0 else 1 : Int) : Int) : Int) : Int)
set_option maxRecDepth 100000 in
set_option maxHeartbeats 4000000 in
theorem zw_Reader_isLetter {l : Launch} {E : zE} {d : Nat} (hd : 1 ≤ d) (x0 : Int) {h : zHp} {Q : Int → zHp → Prop} {r0 : Int} (hF : sh_Reader_isLetter x0 = r0) (K : Q r0 h) : zW l E d zm_Reader_isLetter 0 [.inl x0] [] h Q := by
  rw [sh_Reader_isLetter] at hF
  refine z_iload rfl rfl ?_
  refine z_const rfl ?_
  have hJ7 : zW l E d zm_Reader_isLetter 15 [zJk] [.inl (if x0 < 97 then (if x0 < 65 then 0 else (if 90 < x0 then 0 else 1 : Int) : Int) else (if x0 ≤ 122 then 1 else (if x0 < 65 then 0 else (if 90 < x0 then 0 else 1 : Int) : Int) : Int) : Int)] h Q := by
    subst hF
    exact z_zret rfl rfl (zor_ite (zor_ite (Or.inl rfl) (zor_ite (Or.inl rfl) (Or.inr rfl))) (zor_ite (Or.inr rfl) (zor_ite (Or.inl rfl) (zor_ite (Or.inl rfl) (Or.inr rfl))))) K
  refine z_clt rfl (fun c1 => ?_) (fun c1 => ?_)
  · refine z_iload rfl rfl ?_
    refine z_const rfl ?_
    refine z_clt rfl (fun c2 => ?_) (fun c2 => ?_)
    · refine z_const rfl ?_
      refine zsubL (L' := [zJk]) ⟨Or.inr rfl, trivial⟩ ?_
      exact zcast (by first | rfl | (simp only [if_pos c1, if_pos c2] <;> rfl)) (by first | rfl | (simp only [if_pos c1, if_pos c2] <;> rfl)) hJ7
    · refine z_iload rfl rfl ?_
      refine z_const rfl ?_
      refine z_cgt rfl (fun c3 => ?_) (fun c3 => ?_)
      · refine z_const rfl ?_
        refine zsubL (L' := [zJk]) ⟨Or.inr rfl, trivial⟩ ?_
        exact zcast (by first | rfl | (simp only [if_pos c1, if_neg c2, if_pos c3] <;> rfl)) (by first | rfl | (simp only [if_pos c1, if_neg c2, if_pos c3] <;> rfl)) hJ7
      · refine z_const rfl ?_
        refine z_goto rfl ?_
        refine zsubL (L' := [zJk]) ⟨Or.inr rfl, trivial⟩ ?_
        exact zcast (by first | rfl | (simp only [if_pos c1, if_neg c2, if_neg c3] <;> rfl)) (by first | rfl | (simp only [if_pos c1, if_neg c2, if_neg c3] <;> rfl)) hJ7
  · refine z_iload rfl rfl ?_
    refine z_const rfl ?_
    refine z_cle rfl (fun c4 => ?_) (fun c4 => ?_)
    · refine z_const rfl ?_
      refine z_goto rfl ?_
      refine zsubL (L' := [zJk]) ⟨Or.inr rfl, trivial⟩ ?_
      exact zcast (by first | rfl | (simp only [if_neg c1, if_pos c4] <;> rfl)) (by first | rfl | (simp only [if_neg c1, if_pos c4] <;> rfl)) hJ7
    · refine z_iload rfl rfl ?_
      refine z_const rfl ?_
      refine z_clt rfl (fun c5 => ?_) (fun c5 => ?_)
      · refine z_const rfl ?_
        refine zsubL (L' := [zJk]) ⟨Or.inr rfl, trivial⟩ ?_
        exact zcast (by first | rfl | (simp only [if_neg c1, if_neg c4, if_pos c5] <;> rfl)) (by first | rfl | (simp only [if_neg c1, if_neg c4, if_pos c5] <;> rfl)) hJ7
      · refine z_iload rfl rfl ?_
        refine z_const rfl ?_
        refine z_cgt rfl (fun c6 => ?_) (fun c6 => ?_)
        · refine z_const rfl ?_
          refine zsubL (L' := [zJk]) ⟨Or.inr rfl, trivial⟩ ?_
          exact zcast (by first | rfl | (simp only [if_neg c1, if_neg c4, if_neg c5, if_pos c6] <;> rfl)) (by first | rfl | (simp only [if_neg c1, if_neg c4, if_neg c5, if_pos c6] <;> rfl)) hJ7
        · refine z_const rfl ?_
          refine z_goto rfl ?_
          refine zsubL (L' := [zJk]) ⟨Or.inr rfl, trivial⟩ ?_
          exact zcast (by first | rfl | (simp only [if_neg c1, if_neg c4, if_neg c5, if_neg c6] <;> rfl)) (by first | rfl | (simp only [if_neg c1, if_neg c4, if_neg c5, if_neg c6] <;> rfl)) hJ7
set_option maxRecDepth 100000 in
theorem zf_Reader_isLetter {l : Launch} {E : zE} {d : Nat} (hd : 1 ≤ d) (x0 : Int) {h : zHp} : zC l E d zm_Reader_isLetter [.inl x0] h (fun r1 h1 => sh_Reader_isLetter x0 = r1 ∧ h = h1) :=
  zC_of zk_Reader_isLetter (by decide) rfl rfl (Nat.le_of_ble_eq_true rfl) (zw_Reader_isLetter hd _ rfl ⟨rfl, rfl⟩)
theorem zb_Reader_isLetter (x0 : Int) : sh_Reader_isLetter x0 = 0 ∨ sh_Reader_isLetter x0 = 1 := by
  unfold sh_Reader_isLetter
  exact zor_ite (zor_ite (Or.inl rfl) (zor_ite (Or.inl rfl) (Or.inr rfl))) (zor_ite (Or.inr rfl) (zor_ite (Or.inl rfl) (zor_ite (Or.inl rfl) (Or.inr rfl))))
def sh_Reader_passLetters_L2 (N : Nat) : Nat → Int → zHp → Option (zHp)
  | 0, _, _ => none
  | n + 1, x1, h => (if h 67 4 ≤ x1 then some h else (if h 67 4 ≤ h 67 9 then some h else (if sh_Reader_isLetter (rget h 25 300 (h 67 9)) = 0 then some h else sh_Reader_passLetters_L2 N n (w32 (x1 + 1)) (zst h 67 9 (w32 ((h 67 9) + 1))))))
def sh_Reader_passLetters (N : Nat) (h : zHp) : Option zHp := zb1 (sh_Reader_passLetters_L2 N N 0 h) fun h13 => some h13
set_option maxRecDepth 100000 in
set_option maxHeartbeats 4000000 in
theorem zl_Reader_passLetters_L2 {l : Launch} {E : zE} {d : Nat} (hd : 2 ≤ d) (N : Nat) {Q : Int → zHp → Prop} {oh : zHp} (K1 : zW l E d zm_Reader_passLetters 26 [zJk, zJk] [] oh Q) : ∀ (n : Nat) (x1 : Int) (h : zHp), sh_Reader_passLetters_L2 N n x1 h = some oh → zW l E d zm_Reader_passLetters 2 [.inr (.inr 67), .inl x1] [] h Q := by
  intro n
  induction n with
  | zero =>
    intro x1 h hF
    cases (show (none : Option (zHp)) = some oh from hF)
  | succ n ih =>
    intro x1 h hF
    rw [sh_Reader_passLetters_L2] at hF
    refine z_iload rfl rfl ?_
    refine z_aload rfl rfl rfl ?_
    refine z_geti rfl rfl rfl rfl ?_
    refine z_cge rfl (fun c1 => ?_) (fun c1 => ?_)
    · rw [if_pos c1] at hF
      refine zsubL (L' := [zJk, zJk]) ⟨Or.inr rfl, Or.inr rfl, trivial⟩ ?_
      obtain rfl := Option.some.inj hF
      exact K1
    · rw [if_neg c1] at hF
      refine z_aload rfl rfl rfl ?_
      refine z_geti rfl rfl rfl rfl ?_
      refine z_aload rfl rfl rfl ?_
      refine z_geti rfl rfl rfl rfl ?_
      refine z_cge rfl (fun c2 => ?_) (fun c2 => ?_)
      · rw [if_pos c2] at hF
        refine zsubL (L' := [zJk, zJk]) ⟨Or.inr rfl, Or.inr rfl, trivial⟩ ?_
        obtain rfl := Option.some.inj hF
        exact K1
      · rw [if_neg c2] at hF
        refine z_aload rfl rfl rfl ?_
        refine z_getr (r := 24) rfl rfl rfl rfl ?_
        refine z_aload rfl rfl rfl ?_
        refine z_geti rfl rfl rfl rfl ?_
        refine z_inv1 (d' := d - 1) (As := [.inl (h 67 9)]) rfl rfl (zf_Row_get (r := 24) (a := 25) (n := 300) rfl rfl _) rfl rfl rfl (by omega) rfl (fun r3 h4 hR5 hQ6 => ?_)
        obtain ⟨rfl, rfl⟩ := hQ6
        refine z_ivs1 (d' := d - 1) (As := [.inl (rget h 25 300 (h 67 9))]) rfl rfl (zf_Reader_isLetter (by omega) _) rfl (by omega) rfl (fun r7 h8 hR9 hQ10 => ?_)
        obtain ⟨rfl, rfl⟩ := hQ10
        refine z_zeq rfl (fun c11 => ?_) (fun c11 => ?_)
        · rw [if_pos c11] at hF
          refine zsubL (L' := [zJk, zJk]) ⟨Or.inr rfl, Or.inr rfl, trivial⟩ ?_
          obtain rfl := Option.some.inj hF
          exact K1
        · rw [if_neg c11] at hF
          refine z_aload rfl rfl rfl ?_
          refine z_dup rfl rfl ?_
          refine z_geti rfl rfl rfl rfl ?_
          refine z_const rfl ?_
          refine z_iadd rfl ?_
          refine z_puti rfl rfl rfl rfl ?_
          refine z_iinc rfl rfl rfl ?_
          refine z_goto rfl ?_
          exact ih _ _ hF
set_option maxRecDepth 100000 in
set_option maxHeartbeats 4000000 in
theorem zw_Reader_passLetters {l : Launch} {E : zE} {d : Nat} (hd : 2 ≤ d) (N : Nat) {h : zHp} {Q : Int → zHp → Prop} {h0 : zHp} (hF : sh_Reader_passLetters N h = some h0) (K : Q 0 h0) : zW l E d zm_Reader_passLetters 0 [.inr (.inr 67), zJk] [] h Q := by
  rw [sh_Reader_passLetters] at hF
  refine z_const rfl ?_
  refine z_istore rfl rfl rfl ?_
  obtain ⟨h13, hL12, hF⟩ := zbind1 hF
  refine zl_Reader_passLetters_L2 (by omega) N ?_ N _ _ hL12
  obtain rfl := Option.some.inj hF
  exact z_ret rfl rfl rfl K
set_option maxRecDepth 100000 in
theorem zf_Reader_passLetters {l : Launch} {E : zE} {d : Nat} (hd : 2 ≤ d) (N : Nat) {h : zHp} {h0 : zHp} (hF : sh_Reader_passLetters N h = some h0) : zC l E d zm_Reader_passLetters [.inr (.inr 67)] h (fun r1 h1 => 0 = r1 ∧ h0 = h1) :=
  zC_of zk_Reader_passLetters (by decide) rfl rfl (Nat.le_of_ble_eq_true rfl) (zw_Reader_passLetters hd N hF ⟨rfl, rfl⟩)
def sh_Reader_wordAt_L8 (N : Nat) (h : zHp) : Nat → Int → Int → Int → Int → Int → Int → Option ((Int) ⊕ (Nat))
  | 0, _, _, _, _, _, _ => none
  | n + 1, x1, x2, x3, x4, x5, x6 => (if 98 ≤ x6 then some (.inr 0) else if 0 ≤ x6 ∧ x6 < 98 then if zchr 0 x6 = 32 then (if x5 = 0 then sh_Reader_wordAt_L8 N h n x1 x2 (w32 (x3 + 1)) x1 1 (w32 (x6 + 1)) else (if x4 = x2 then some (.inl x3) else sh_Reader_wordAt_L8 N h n x1 x2 (w32 (x3 + 1)) x1 1 (w32 (x6 + 1)))) else sh_Reader_wordAt_L8 N h n x1 x2 x3 (w32 (x4 + 1)) (if x5 = 0 then 0 else (if x2 ≤ x4 then 0 else (if rget h 25 300 x4 = zchr 0 x6 then 1 else 0 : Int) : Int) : Int) (w32 (x6 + 1)) else none)
def sh_Reader_wordAt (N : Nat) (x1 x2 : Int) (h : zHp) : Option Int := zb1 (sh_Reader_wordAt_L8 N h N x1 x2 0 x1 1 0) fun w15 => zsum2 w15 (zcu1 fun y16 => some y16) (zcu1 fun y17 => some 36)
set_option maxRecDepth 100000 in
set_option maxHeartbeats 4000000 in
theorem zl_Reader_wordAt_L8 {l : Launch} {E : zE} {d : Nat} (hd : 9 ≤ d) (N : Nat) {h : zHp} {Q : Int → zHp → Prop} {res : (Int) ⊕ (Nat)} (K1 : ∀ (o3 : Int), res = .inl o3 → zW l E d zm_Reader_wordAt 41 [zJk, zJk, zJk, .inl o3, zJk, zJk, zJk, zJk] [] h Q) (K2 : ∀ (on : Nat), res = .inr on → zW l E d zm_Reader_wordAt 50 [zJk, zJk, zJk, zJk, zJk, zJk, zJk, zJk] [] h Q) : ∀ (n : Nat) (x1 x2 x3 x4 x5 x6 : Int) , sh_Reader_wordAt_L8 N h n x1 x2 x3 x4 x5 x6 = some res → zW l E d zm_Reader_wordAt 8 [.inr (.inr 67), .inl x1, .inl x2, .inl x3, .inl x4, .inl x5, .inl x6, zJk] [] h Q := by
  intro n
  induction n with
  | zero =>
    intro x1 x2 x3 x4 x5 x6 hF
    cases (show (none : Option ((Int) ⊕ (Nat))) = some res from hF)
  | succ n ih =>
    intro x1 x2 x3 x4 x5 x6 hF
    rw [sh_Reader_wordAt_L8] at hF
    refine z_iload rfl rfl ?_
    refine z_ldcs (i := 0) rfl (by decide +kernel) rfl (by decide) ?_
    refine z_slen (i := 0) (n := 98) rfl rfl rfl (by omega) rfl ?_
    refine z_cge rfl (fun c1 => ?_) (fun c1 => ?_)
    · rw [if_pos c1] at hF
      refine zsubL (L' := [zJk, zJk, zJk, zJk, zJk, zJk, zJk, zJk]) ⟨Or.inr rfl, Or.inr rfl, Or.inr rfl, Or.inr rfl, Or.inr rfl, Or.inr rfl, Or.inr rfl, Or.inl rfl, trivial⟩ ?_
      exact K2 _ (Option.some.inj hF).symm
    · rw [if_neg c1] at hF
      refine z_ldcs (i := 0) rfl (by decide +kernel) rfl (by decide) ?_
      refine z_iload rfl rfl ?_
      obtain ⟨g2, hF⟩ := zguard hF
      refine z_schr (i := 0) (n := 98) rfl rfl rfl (by omega) rfl g2.1 g2.2 ?_
      refine z_istore rfl rfl rfl ?_
      refine z_iload rfl rfl ?_
      refine z_const rfl ?_
      refine z_ceq rfl (fun c3 => ?_) (fun c3 => ?_)
      · rw [if_pos c3] at hF
        refine z_iload rfl rfl ?_
        refine z_zeq rfl (fun c4 => ?_) (fun c4 => ?_)
        · rw [if_pos c4] at hF
          refine z_iinc rfl rfl rfl ?_
          refine z_iload rfl rfl ?_
          refine z_istore rfl rfl rfl ?_
          refine z_const rfl ?_
          refine z_istore rfl rfl rfl ?_
          refine z_iinc rfl rfl rfl ?_
          refine z_goto rfl ?_
          refine zsubL (L' := [.inr (.inr 67), .inl x1, .inl x2, .inl (w32 (x3 + 1)), .inl x1, .inl 1, .inl (w32 (x6 + 1)), zJk]) ⟨Or.inl rfl, Or.inl rfl, Or.inl rfl, Or.inl rfl, Or.inl rfl, Or.inl rfl, Or.inl rfl, Or.inr rfl, trivial⟩ ?_
          exact ih _ _ _ _ _ _ hF
        · rw [if_neg c4] at hF
          refine z_iload rfl rfl ?_
          refine z_iload rfl rfl ?_
          refine z_cne rfl (fun c5 => ?_) (fun c5 => ?_)
          · rw [if_neg c5] at hF
            refine z_iinc rfl rfl rfl ?_
            refine z_iload rfl rfl ?_
            refine z_istore rfl rfl rfl ?_
            refine z_const rfl ?_
            refine z_istore rfl rfl rfl ?_
            refine z_iinc rfl rfl rfl ?_
            refine z_goto rfl ?_
            refine zsubL (L' := [.inr (.inr 67), .inl x1, .inl x2, .inl (w32 (x3 + 1)), .inl x1, .inl 1, .inl (w32 (x6 + 1)), zJk]) ⟨Or.inl rfl, Or.inl rfl, Or.inl rfl, Or.inl rfl, Or.inl rfl, Or.inl rfl, Or.inl rfl, Or.inr rfl, trivial⟩ ?_
            exact ih _ _ _ _ _ _ hF
          · rw [if_pos c5] at hF
            refine zsubL (L' := [zJk, zJk, zJk, .inl x3, zJk, zJk, zJk, zJk]) ⟨Or.inr rfl, Or.inr rfl, Or.inr rfl, Or.inl rfl, Or.inr rfl, Or.inr rfl, Or.inr rfl, Or.inr rfl, trivial⟩ ?_
            exact K1 _ (Option.some.inj hF).symm
      · rw [if_neg c3] at hF
        refine z_iload rfl rfl ?_
        have hJ13 : zW l E d zm_Reader_wordAt 33 [.inr (.inr 67), .inl x1, .inl x2, .inl x3, .inl x4, zJk, .inl x6, zJk] [.inl (if x5 = 0 then 0 else (if x2 ≤ x4 then 0 else (if rget h 25 300 x4 = zchr 0 x6 then 1 else 0 : Int) : Int) : Int)] h Q := by
          refine z_istore rfl rfl rfl ?_
          refine z_iinc rfl rfl rfl ?_
          refine z_goto rfl ?_
          refine z_iinc rfl rfl rfl ?_
          refine z_goto rfl ?_
          exact ih _ _ _ _ _ _ hF
        refine z_zeq rfl (fun c6 => ?_) (fun c6 => ?_)
        · refine z_const rfl ?_
          refine zsubL (L' := [.inr (.inr 67), .inl x1, .inl x2, .inl x3, .inl x4, zJk, .inl x6, zJk]) ⟨Or.inl rfl, Or.inl rfl, Or.inl rfl, Or.inl rfl, Or.inl rfl, Or.inr rfl, Or.inl rfl, Or.inr rfl, trivial⟩ ?_
          exact zcast (by first | rfl | (simp only [if_pos c6] <;> rfl)) (by first | rfl | (simp only [if_pos c6] <;> rfl)) hJ13
        · refine z_iload rfl rfl ?_
          refine z_iload rfl rfl ?_
          refine z_cge rfl (fun c7 => ?_) (fun c7 => ?_)
          · refine z_const rfl ?_
            refine zsubL (L' := [.inr (.inr 67), .inl x1, .inl x2, .inl x3, .inl x4, zJk, .inl x6, zJk]) ⟨Or.inl rfl, Or.inl rfl, Or.inl rfl, Or.inl rfl, Or.inl rfl, Or.inr rfl, Or.inl rfl, Or.inr rfl, trivial⟩ ?_
            exact zcast (by first | rfl | (simp only [if_neg c6, if_pos c7] <;> rfl)) (by first | rfl | (simp only [if_neg c6, if_pos c7] <;> rfl)) hJ13
          · refine z_aload rfl rfl rfl ?_
            refine z_getr (r := 24) rfl rfl rfl rfl ?_
            refine z_iload rfl rfl ?_
            refine z_inv1 (d' := d - 1) (As := [.inl x4]) rfl rfl (zf_Row_get (r := 24) (a := 25) (n := 300) rfl rfl _) rfl rfl rfl (by omega) rfl (fun r8 h9 hR10 hQ11 => ?_)
            obtain ⟨rfl, rfl⟩ := hQ11
            refine z_iload rfl rfl ?_
            refine z_cne rfl (fun c12 => ?_) (fun c12 => ?_)
            · refine z_const rfl ?_
              refine zsubL (L' := [.inr (.inr 67), .inl x1, .inl x2, .inl x3, .inl x4, zJk, .inl x6, zJk]) ⟨Or.inl rfl, Or.inl rfl, Or.inl rfl, Or.inl rfl, Or.inl rfl, Or.inr rfl, Or.inl rfl, Or.inr rfl, trivial⟩ ?_
              exact zcast (by first | rfl | (simp only [if_neg c6, if_neg c7, if_neg c12] <;> rfl)) (by first | rfl | (simp only [if_neg c6, if_neg c7, if_neg c12] <;> rfl)) hJ13
            · refine z_const rfl ?_
              refine z_goto rfl ?_
              refine zsubL (L' := [.inr (.inr 67), .inl x1, .inl x2, .inl x3, .inl x4, zJk, .inl x6, zJk]) ⟨Or.inl rfl, Or.inl rfl, Or.inl rfl, Or.inl rfl, Or.inl rfl, Or.inr rfl, Or.inl rfl, Or.inr rfl, trivial⟩ ?_
              exact zcast (by first | rfl | (simp only [if_neg c6, if_neg c7, if_pos c12] <;> rfl)) (by first | rfl | (simp only [if_neg c6, if_neg c7, if_pos c12] <;> rfl)) hJ13
set_option maxRecDepth 100000 in
set_option maxHeartbeats 4000000 in
theorem zw_Reader_wordAt {l : Launch} {E : zE} {d : Nat} (hd : 9 ≤ d) (N : Nat) (x1 x2 : Int) {h : zHp} {Q : Int → zHp → Prop} {r0 : Int} (hF : sh_Reader_wordAt N x1 x2 h = some r0) (K : Q r0 h) : zW l E d zm_Reader_wordAt 0 [.inr (.inr 67), .inl x1, .inl x2, zJk, zJk, zJk, zJk, zJk] [] h Q := by
  rw [sh_Reader_wordAt] at hF
  refine z_const rfl ?_
  refine z_istore rfl rfl rfl ?_
  refine z_iload rfl rfl ?_
  refine z_istore rfl rfl rfl ?_
  refine z_const rfl ?_
  refine z_istore rfl rfl rfl ?_
  refine z_const rfl ?_
  refine z_istore rfl rfl rfl ?_
  obtain ⟨w15, hL14, hF⟩ := zbind1 hF
  rcases w15 with y16 | y17
  · refine zl_Reader_wordAt_L8 (by omega) N (fun q18 e19 => ?_) (fun _ z => by cases z) N _ _ _ _ _ _ hL14
    obtain rfl := zinl2_0_1 e19
    replace hF := zs2_0_1 hF
    refine z_iload rfl rfl ?_
    obtain rfl := Option.some.inj hF
    exact z_iret rfl rfl K
  · refine zl_Reader_wordAt_L8 (by omega) N (fun _ z => by cases z) (fun q20 e21 => ?_) N _ _ _ _ _ _ hL14
    obtain rfl := zinl2_1_1 e21
    replace hF := zs2_1_1 hF
    refine z_const rfl ?_
    obtain rfl := Option.some.inj hF
    exact z_iret rfl rfl K
set_option maxRecDepth 100000 in
theorem zf_Reader_wordAt {l : Launch} {E : zE} {d : Nat} (hd : 9 ≤ d) (N : Nat) (x1 x2 : Int) {h : zHp} {r0 : Int} (hF : sh_Reader_wordAt N x1 x2 h = some r0) : zC l E d zm_Reader_wordAt [.inr (.inr 67), .inl x1, .inl x2] h (fun r1 h1 => r0 = r1 ∧ h = h1) :=
  zC_of zk_Reader_wordAt (by decide) rfl rfl (Nat.le_of_ble_eq_true rfl) (zw_Reader_wordAt hd N _ _ hF ⟨rfl, rfl⟩)
def sh_Reader_isFigure (x0 : Int) : Int := (if x0 < 48 then 0 else (if 57 < x0 then 0 else 1 : Int) : Int)
set_option maxRecDepth 100000 in
set_option maxHeartbeats 4000000 in
theorem zw_Reader_isFigure {l : Launch} {E : zE} {d : Nat} (hd : 1 ≤ d) (x0 : Int) {h : zHp} {Q : Int → zHp → Prop} {r0 : Int} (hF : sh_Reader_isFigure x0 = r0) (K : Q r0 h) : zW l E d zm_Reader_isFigure 0 [.inl x0] [] h Q := by
  rw [sh_Reader_isFigure] at hF
  refine z_iload rfl rfl ?_
  refine z_const rfl ?_
  have hJ3 : zW l E d zm_Reader_isFigure 9 [zJk] [.inl (if x0 < 48 then 0 else (if 57 < x0 then 0 else 1 : Int) : Int)] h Q := by
    subst hF
    exact z_zret rfl rfl (zor_ite (Or.inl rfl) (zor_ite (Or.inl rfl) (Or.inr rfl))) K
  refine z_clt rfl (fun c1 => ?_) (fun c1 => ?_)
  · refine z_const rfl ?_
    refine zsubL (L' := [zJk]) ⟨Or.inr rfl, trivial⟩ ?_
    exact zcast (by first | rfl | (simp only [if_pos c1] <;> rfl)) (by first | rfl | (simp only [if_pos c1] <;> rfl)) hJ3
  · refine z_iload rfl rfl ?_
    refine z_const rfl ?_
    refine z_cgt rfl (fun c2 => ?_) (fun c2 => ?_)
    · refine z_const rfl ?_
      refine zsubL (L' := [zJk]) ⟨Or.inr rfl, trivial⟩ ?_
      exact zcast (by first | rfl | (simp only [if_neg c1, if_pos c2] <;> rfl)) (by first | rfl | (simp only [if_neg c1, if_pos c2] <;> rfl)) hJ3
    · refine z_const rfl ?_
      refine z_goto rfl ?_
      refine zsubL (L' := [zJk]) ⟨Or.inr rfl, trivial⟩ ?_
      exact zcast (by first | rfl | (simp only [if_neg c1, if_neg c2] <;> rfl)) (by first | rfl | (simp only [if_neg c1, if_neg c2] <;> rfl)) hJ3
set_option maxRecDepth 100000 in
theorem zf_Reader_isFigure {l : Launch} {E : zE} {d : Nat} (hd : 1 ≤ d) (x0 : Int) {h : zHp} : zC l E d zm_Reader_isFigure [.inl x0] h (fun r1 h1 => sh_Reader_isFigure x0 = r1 ∧ h = h1) :=
  zC_of zk_Reader_isFigure (by decide) rfl rfl (Nat.le_of_ble_eq_true rfl) (zw_Reader_isFigure hd _ rfl ⟨rfl, rfl⟩)
theorem zb_Reader_isFigure (x0 : Int) : sh_Reader_isFigure x0 = 0 ∨ sh_Reader_isFigure x0 = 1 := by
  unfold sh_Reader_isFigure
  exact zor_ite (Or.inl rfl) (zor_ite (Or.inl rfl) (Or.inr rfl))
def sh_Reader_takeNumber_L8 (N : Nat) : Nat → Int → zHp → Option (zHp)
  | 0, _, _ => none
  | n + 1, x1, h => (if h 67 4 ≤ x1 then some h else (if h 67 4 ≤ h 67 9 then some h else (if sh_Reader_isFigure (rget h 25 300 (h 67 9)) = 0 then some h else sh_Reader_takeNumber_L8 N n (w32 (x1 + 1)) (zst (zst h 67 11 (zmin (w32 ((w32 ((w32 ((h 67 11) * 10)) + (rget h 25 300 (h 67 9)))) - 48)) 10000)) 67 9 (w32 ((zst h 67 11 (zmin (w32 ((w32 ((w32 ((h 67 11) * 10)) + (rget h 25 300 (h 67 9)))) - 48)) 10000) 67 9) + 1))))))
def sh_Reader_takeNumber (N : Nat) (h : zHp) : Option zHp := zb1 (sh_Reader_takeNumber_L8 N N 0 (zst (zst h 67 10 34) 67 11 0)) fun h17 => some h17
set_option maxRecDepth 100000 in
set_option maxHeartbeats 4000000 in
theorem zl_Reader_takeNumber_L8 {l : Launch} {E : zE} {d : Nat} (hd : 2 ≤ d) (N : Nat) {Q : Int → zHp → Prop} {oh : zHp} (K1 : zW l E d zm_Reader_takeNumber 48 [zJk, zJk] [] oh Q) : ∀ (n : Nat) (x1 : Int) (h : zHp), sh_Reader_takeNumber_L8 N n x1 h = some oh → zW l E d zm_Reader_takeNumber 8 [.inr (.inr 67), .inl x1] [] h Q := by
  intro n
  induction n with
  | zero =>
    intro x1 h hF
    cases (show (none : Option (zHp)) = some oh from hF)
  | succ n ih =>
    intro x1 h hF
    rw [sh_Reader_takeNumber_L8] at hF
    refine z_iload rfl rfl ?_
    refine z_aload rfl rfl rfl ?_
    refine z_geti rfl rfl rfl rfl ?_
    refine z_cge rfl (fun c1 => ?_) (fun c1 => ?_)
    · rw [if_pos c1] at hF
      refine zsubL (L' := [zJk, zJk]) ⟨Or.inr rfl, Or.inr rfl, trivial⟩ ?_
      obtain rfl := Option.some.inj hF
      exact K1
    · rw [if_neg c1] at hF
      refine z_aload rfl rfl rfl ?_
      refine z_geti rfl rfl rfl rfl ?_
      refine z_aload rfl rfl rfl ?_
      refine z_geti rfl rfl rfl rfl ?_
      refine z_cge rfl (fun c2 => ?_) (fun c2 => ?_)
      · rw [if_pos c2] at hF
        refine zsubL (L' := [zJk, zJk]) ⟨Or.inr rfl, Or.inr rfl, trivial⟩ ?_
        obtain rfl := Option.some.inj hF
        exact K1
      · rw [if_neg c2] at hF
        refine z_aload rfl rfl rfl ?_
        refine z_getr (r := 24) rfl rfl rfl rfl ?_
        refine z_aload rfl rfl rfl ?_
        refine z_geti rfl rfl rfl rfl ?_
        refine z_inv1 (d' := d - 1) (As := [.inl (h 67 9)]) rfl rfl (zf_Row_get (r := 24) (a := 25) (n := 300) rfl rfl _) rfl rfl rfl (by omega) rfl (fun r3 h4 hR5 hQ6 => ?_)
        obtain ⟨rfl, rfl⟩ := hQ6
        refine z_ivs1 (d' := d - 1) (As := [.inl (rget h 25 300 (h 67 9))]) rfl rfl (zf_Reader_isFigure (by omega) _) rfl (by omega) rfl (fun r7 h8 hR9 hQ10 => ?_)
        obtain ⟨rfl, rfl⟩ := hQ10
        refine z_zeq rfl (fun c11 => ?_) (fun c11 => ?_)
        · rw [if_pos c11] at hF
          refine zsubL (L' := [zJk, zJk]) ⟨Or.inr rfl, Or.inr rfl, trivial⟩ ?_
          obtain rfl := Option.some.inj hF
          exact K1
        · rw [if_neg c11] at hF
          refine z_aload rfl rfl rfl ?_
          refine z_aload rfl rfl rfl ?_
          refine z_geti rfl rfl rfl rfl ?_
          refine z_const rfl ?_
          refine z_imul rfl ?_
          refine z_aload rfl rfl rfl ?_
          refine z_getr (r := 24) rfl rfl rfl rfl ?_
          refine z_aload rfl rfl rfl ?_
          refine z_geti rfl rfl rfl rfl ?_
          refine z_inv1 (d' := d - 1) (As := [.inl (h 67 9)]) rfl rfl (zf_Row_get (r := 24) (a := 25) (n := 300) rfl rfl _) rfl rfl rfl (by omega) rfl (fun r12 h13 hR14 hQ15 => ?_)
          obtain ⟨rfl, rfl⟩ := hQ15
          refine z_iadd rfl ?_
          refine z_const rfl ?_
          refine z_isub rfl ?_
          refine z_const rfl ?_
          refine z_mmin rfl (by decide) (by omega) rfl ?_
          refine z_puti rfl rfl rfl rfl ?_
          refine z_aload rfl rfl rfl ?_
          refine z_dup rfl rfl ?_
          refine z_geti rfl rfl rfl rfl ?_
          refine z_const rfl ?_
          refine z_iadd rfl ?_
          refine z_puti rfl rfl rfl rfl ?_
          refine z_iinc rfl rfl rfl ?_
          refine z_goto rfl ?_
          exact ih _ _ hF
set_option maxRecDepth 100000 in
set_option maxHeartbeats 4000000 in
theorem zw_Reader_takeNumber {l : Launch} {E : zE} {d : Nat} (hd : 2 ≤ d) (N : Nat) {h : zHp} {Q : Int → zHp → Prop} {h0 : zHp} (hF : sh_Reader_takeNumber N h = some h0) (K : Q 0 h0) : zW l E d zm_Reader_takeNumber 0 [.inr (.inr 67), zJk] [] h Q := by
  rw [sh_Reader_takeNumber] at hF
  refine z_aload rfl rfl rfl ?_
  refine z_const rfl ?_
  refine z_puti rfl rfl rfl rfl ?_
  refine z_aload rfl rfl rfl ?_
  refine z_const rfl ?_
  refine z_puti rfl rfl rfl rfl ?_
  refine z_const rfl ?_
  refine z_istore rfl rfl rfl ?_
  obtain ⟨h17, hL16, hF⟩ := zbind1 hF
  refine zl_Reader_takeNumber_L8 (by omega) N ?_ N _ _ hL16
  obtain rfl := Option.some.inj hF
  exact z_ret rfl rfl rfl K
set_option maxRecDepth 100000 in
theorem zf_Reader_takeNumber {l : Launch} {E : zE} {d : Nat} (hd : 2 ≤ d) (N : Nat) {h : zHp} {h0 : zHp} (hF : sh_Reader_takeNumber N h = some h0) : zC l E d zm_Reader_takeNumber [.inr (.inr 67)] h (fun r1 h1 => 0 = r1 ∧ h0 = h1) :=
  zC_of zk_Reader_takeNumber (by decide) rfl rfl (Nat.le_of_ble_eq_true rfl) (zw_Reader_takeNumber hd N hF ⟨rfl, rfl⟩)
def sh_Reader_takeSign_L11 (N : Nat) : Nat → Int → Int → zHp → Option (zHp)
  | 0, _, _, _ => none
  | n + 1, x1, x2, h => (if 11 ≤ x2 then some h else if 0 ≤ x2 ∧ x2 < 11 then if zchr 1 x2 = x1 then sh_Reader_takeSign_L11 N n x1 (w32 (x2 + 1)) (zst h 67 10 (w32 (20 + x2))) else sh_Reader_takeSign_L11 N n x1 (w32 (x2 + 1)) h else none)
def sh_Reader_takeSign (N : Nat) (x1 : Int) (h : zHp) : Option zHp := zb1 (sh_Reader_takeSign_L11 N N x1 0 (zst (zst h 67 9 (w32 ((h 67 9) + 1))) 67 10 36)) fun h6 => if h6 67 4 ≤ h6 67 9 then some h6 else (if rget h6 25 300 (h6 67 9) = 61 then (if h6 67 10 = 20 then some (zst (zst h6 67 9 (w32 ((h6 67 9) + 1))) 67 10 (if zst h6 67 9 (w32 ((h6 67 9) + 1)) 67 10 = 20 then 31 else 32 : Int)) else (if h6 67 10 = 21 then some (zst (zst h6 67 9 (w32 ((h6 67 9) + 1))) 67 10 (if zst h6 67 9 (w32 ((h6 67 9) + 1)) 67 10 = 20 then 31 else 32 : Int)) else some h6)) else some h6)
set_option maxRecDepth 100000 in
set_option maxHeartbeats 4000000 in
theorem zl_Reader_takeSign_L11 {l : Launch} {E : zE} {d : Nat} (hd : 9 ≤ d) (N : Nat) {Q : Int → zHp → Prop} {oh : zHp} (K1 : zW l E d zm_Reader_takeSign 27 [.inr (.inr 67), zJk, zJk] [] oh Q) : ∀ (n : Nat) (x1 x2 : Int) (h : zHp), sh_Reader_takeSign_L11 N n x1 x2 h = some oh → zW l E d zm_Reader_takeSign 11 [.inr (.inr 67), .inl x1, .inl x2] [] h Q := by
  intro n
  induction n with
  | zero =>
    intro x1 x2 h hF
    cases (show (none : Option (zHp)) = some oh from hF)
  | succ n ih =>
    intro x1 x2 h hF
    rw [sh_Reader_takeSign_L11] at hF
    refine z_iload rfl rfl ?_
    refine z_ldcs (i := 1) rfl (by decide +kernel) rfl (by decide) ?_
    refine z_slen (i := 1) (n := 11) rfl rfl rfl (by omega) rfl ?_
    refine z_cge rfl (fun c1 => ?_) (fun c1 => ?_)
    · rw [if_pos c1] at hF
      refine zsubL (L' := [.inr (.inr 67), zJk, zJk]) ⟨Or.inl rfl, Or.inr rfl, Or.inr rfl, trivial⟩ ?_
      obtain rfl := Option.some.inj hF
      exact K1
    · rw [if_neg c1] at hF
      refine z_ldcs (i := 1) rfl (by decide +kernel) rfl (by decide) ?_
      refine z_iload rfl rfl ?_
      obtain ⟨g2, hF⟩ := zguard hF
      refine z_schr (i := 1) (n := 11) rfl rfl rfl (by omega) rfl g2.1 g2.2 ?_
      refine z_iload rfl rfl ?_
      refine z_cne rfl (fun c4 => ?_) (fun c4 => ?_)
      · rw [if_neg c4] at hF
        refine z_iinc rfl rfl rfl ?_
        refine z_goto rfl ?_
        exact ih _ _ _ hF
      · rw [if_pos c4] at hF
        refine z_aload rfl rfl rfl ?_
        refine z_const rfl ?_
        refine z_iload rfl rfl ?_
        refine z_iadd rfl ?_
        refine z_puti rfl rfl rfl rfl ?_
        refine z_iinc rfl rfl rfl ?_
        refine z_goto rfl ?_
        exact ih _ _ _ hF
set_option maxRecDepth 100000 in
set_option maxHeartbeats 4000000 in
theorem zw_Reader_takeSign {l : Launch} {E : zE} {d : Nat} (hd : 9 ≤ d) (N : Nat) (x1 : Int) {h : zHp} {Q : Int → zHp → Prop} {h0 : zHp} (hF : sh_Reader_takeSign N x1 h = some h0) (K : Q 0 h0) : zW l E d zm_Reader_takeSign 0 [.inr (.inr 67), .inl x1, zJk] [] h Q := by
  rw [sh_Reader_takeSign] at hF
  refine z_aload rfl rfl rfl ?_
  refine z_dup rfl rfl ?_
  refine z_geti rfl rfl rfl rfl ?_
  refine z_const rfl ?_
  refine z_iadd rfl ?_
  refine z_puti rfl rfl rfl rfl ?_
  refine z_aload rfl rfl rfl ?_
  refine z_const rfl ?_
  refine z_puti rfl rfl rfl rfl ?_
  refine z_const rfl ?_
  refine z_istore rfl rfl rfl ?_
  obtain ⟨h6, hL5, hF⟩ := zbind1 hF
  refine zl_Reader_takeSign_L11 (by omega) N ?_ N _ _ _ hL5
  refine z_aload rfl rfl rfl ?_
  refine z_geti rfl rfl rfl rfl ?_
  refine z_aload rfl rfl rfl ?_
  refine z_geti rfl rfl rfl rfl ?_
  refine z_cge rfl (fun c14 => ?_) (fun c14 => ?_)
  · rw [if_pos c14] at hF
    obtain rfl := Option.some.inj hF
    exact z_ret rfl rfl rfl K
  · rw [if_neg c14] at hF
    refine z_aload rfl rfl rfl ?_
    refine z_getr (r := 24) rfl rfl rfl rfl ?_
    refine z_aload rfl rfl rfl ?_
    refine z_geti rfl rfl rfl rfl ?_
    refine z_inv1 (d' := d - 1) (As := [.inl (h6 67 9)]) rfl rfl (zf_Row_get (r := 24) (a := 25) (n := 300) rfl rfl _) rfl rfl rfl (by omega) rfl (fun r15 h16 hR17 hQ18 => ?_)
    obtain ⟨rfl, rfl⟩ := hQ18
    refine z_const rfl ?_
    refine z_cne rfl (fun c21 => ?_) (fun c21 => ?_)
    · rw [if_neg c21] at hF
      obtain rfl := Option.some.inj hF
      exact z_ret rfl rfl rfl K
    · rw [if_pos c21] at hF
      refine z_aload rfl rfl rfl ?_
      refine z_geti rfl rfl rfl rfl ?_
      refine z_const rfl ?_
      refine z_ceq rfl (fun c23 => ?_) (fun c23 => ?_)
      · rw [if_pos c23] at hF
        refine z_aload rfl rfl rfl ?_
        refine z_dup rfl rfl ?_
        refine z_geti rfl rfl rfl rfl ?_
        refine z_const rfl ?_
        refine z_iadd rfl ?_
        refine z_puti rfl rfl rfl rfl ?_
        refine z_aload rfl rfl rfl ?_
        refine z_aload rfl rfl rfl ?_
        refine z_geti rfl rfl rfl rfl ?_
        refine z_const rfl ?_
        have hJ25 : zW l E d zm_Reader_takeSign 61 [zJk, zJk, zJk] [.inl (if zst h6 67 9 (w32 ((h6 67 9) + 1)) 67 10 = 20 then 31 else 32 : Int), .inr (.inr 67)] (zst h6 67 9 (w32 ((h6 67 9) + 1))) Q := by
          refine z_puti rfl rfl rfl rfl ?_
          obtain rfl := Option.some.inj hF
          exact z_ret rfl rfl rfl K
        refine z_cne rfl (fun c24 => ?_) (fun c24 => ?_)
        · refine z_const rfl ?_
          refine zsubL (L' := [zJk, zJk, zJk]) ⟨Or.inr rfl, Or.inl rfl, Or.inl rfl, trivial⟩ ?_
          exact zcast (by first | rfl | (simp only [if_neg c24] <;> rfl)) (by first | rfl | (simp only [if_neg c24] <;> rfl)) hJ25
        · refine z_const rfl ?_
          refine z_goto rfl ?_
          refine zsubL (L' := [zJk, zJk, zJk]) ⟨Or.inr rfl, Or.inl rfl, Or.inl rfl, trivial⟩ ?_
          exact zcast (by first | rfl | (simp only [if_pos c24] <;> rfl)) (by first | rfl | (simp only [if_pos c24] <;> rfl)) hJ25
      · rw [if_neg c23] at hF
        refine z_aload rfl rfl rfl ?_
        refine z_geti rfl rfl rfl rfl ?_
        refine z_const rfl ?_
        refine z_cne rfl (fun c27 => ?_) (fun c27 => ?_)
        · rw [if_neg c27] at hF
          obtain rfl := Option.some.inj hF
          exact z_ret rfl rfl rfl K
        · rw [if_pos c27] at hF
          refine z_aload rfl rfl rfl ?_
          refine z_dup rfl rfl ?_
          refine z_geti rfl rfl rfl rfl ?_
          refine z_const rfl ?_
          refine z_iadd rfl ?_
          refine z_puti rfl rfl rfl rfl ?_
          refine z_aload rfl rfl rfl ?_
          refine z_aload rfl rfl rfl ?_
          refine z_geti rfl rfl rfl rfl ?_
          refine z_const rfl ?_
          have hJ29 : zW l E d zm_Reader_takeSign 61 [zJk, zJk, zJk] [.inl (if zst h6 67 9 (w32 ((h6 67 9) + 1)) 67 10 = 20 then 31 else 32 : Int), .inr (.inr 67)] (zst h6 67 9 (w32 ((h6 67 9) + 1))) Q := by
            refine z_puti rfl rfl rfl rfl ?_
            obtain rfl := Option.some.inj hF
            exact z_ret rfl rfl rfl K
          refine z_cne rfl (fun c28 => ?_) (fun c28 => ?_)
          · refine z_const rfl ?_
            refine zsubL (L' := [zJk, zJk, zJk]) ⟨Or.inr rfl, Or.inl rfl, Or.inl rfl, trivial⟩ ?_
            exact zcast (by first | rfl | (simp only [if_neg c28] <;> rfl)) (by first | rfl | (simp only [if_neg c28] <;> rfl)) hJ29
          · refine z_const rfl ?_
            refine z_goto rfl ?_
            refine zsubL (L' := [zJk, zJk, zJk]) ⟨Or.inr rfl, Or.inl rfl, Or.inl rfl, trivial⟩ ?_
            exact zcast (by first | rfl | (simp only [if_pos c28] <;> rfl)) (by first | rfl | (simp only [if_pos c28] <;> rfl)) hJ29
set_option maxRecDepth 100000 in
theorem zf_Reader_takeSign {l : Launch} {E : zE} {d : Nat} (hd : 9 ≤ d) (N : Nat) (x1 : Int) {h : zHp} {h0 : zHp} (hF : sh_Reader_takeSign N x1 h = some h0) : zC l E d zm_Reader_takeSign [.inr (.inr 67), .inl x1] h (fun r1 h1 => 0 = r1 ∧ h0 = h1) :=
  zC_of zk_Reader_takeSign (by decide) rfl rfl (Nat.le_of_ble_eq_true rfl) (zw_Reader_takeSign hd N _ hF ⟨rfl, rfl⟩)
def sh_Reader_step_L2 (N : Nat) : Nat → Int → zHp → Option (zHp)
  | 0, _, _ => none
  | n + 1, x1, h => (if h 67 4 ≤ x1 then some h else (if h 67 4 ≤ h 67 9 then some h else (if sh_Reader_isBlank (rget h 25 300 (h 67 9)) = 0 then some h else sh_Reader_step_L2 N n (w32 (x1 + 1)) (zst h 67 9 (w32 ((h 67 9) + 1))))))
def sh_Reader_step (N : Nat) (h : zHp) : Option zHp := zb1 (sh_Reader_step_L2 N N 0 h) fun h13 => if zst h13 67 8 (h13 67 9) 67 9 < zst h13 67 8 (h13 67 9) 67 4 then (if sh_Reader_isLetter (rget (zst h13 67 8 (h13 67 9)) 25 300 (zst h13 67 8 (h13 67 9) 67 9)) = 0 then (if sh_Reader_isFigure (rget (zst h13 67 8 (h13 67 9)) 25 300 (zst h13 67 8 (h13 67 9) 67 9)) = 0 then zb1 (sh_Reader_takeSign N (rget (zst h13 67 8 (h13 67 9)) 25 300 (zst h13 67 8 (h13 67 9) 67 9)) (zst h13 67 8 (h13 67 9))) fun h41 => some h41 else zb1 (sh_Reader_takeNumber N (zst h13 67 8 (h13 67 9))) fun h47 => some h47) else zb1 (sh_Reader_passLetters N (zst h13 67 8 (h13 67 9))) fun h53 => zb1 (sh_Reader_wordAt N (h53 67 8) (h53 67 9) h53) fun r59 => some (zst h53 67 10 r59)) else some (zst (zst h13 67 8 (h13 67 9)) 67 10 35)
set_option maxRecDepth 100000 in
set_option maxHeartbeats 4000000 in
theorem zl_Reader_step_L2 {l : Launch} {E : zE} {d : Nat} (hd : 10 ≤ d) (N : Nat) {Q : Int → zHp → Prop} {oh : zHp} (K1 : zW l E d zm_Reader_step 26 [.inr (.inr 67), zJk] [] oh Q) : ∀ (n : Nat) (x1 : Int) (h : zHp), sh_Reader_step_L2 N n x1 h = some oh → zW l E d zm_Reader_step 2 [.inr (.inr 67), .inl x1] [] h Q := by
  intro n
  induction n with
  | zero =>
    intro x1 h hF
    cases (show (none : Option (zHp)) = some oh from hF)
  | succ n ih =>
    intro x1 h hF
    rw [sh_Reader_step_L2] at hF
    refine z_iload rfl rfl ?_
    refine z_aload rfl rfl rfl ?_
    refine z_geti rfl rfl rfl rfl ?_
    refine z_cge rfl (fun c1 => ?_) (fun c1 => ?_)
    · rw [if_pos c1] at hF
      refine zsubL (L' := [.inr (.inr 67), zJk]) ⟨Or.inl rfl, Or.inr rfl, trivial⟩ ?_
      obtain rfl := Option.some.inj hF
      exact K1
    · rw [if_neg c1] at hF
      refine z_aload rfl rfl rfl ?_
      refine z_geti rfl rfl rfl rfl ?_
      refine z_aload rfl rfl rfl ?_
      refine z_geti rfl rfl rfl rfl ?_
      refine z_cge rfl (fun c2 => ?_) (fun c2 => ?_)
      · rw [if_pos c2] at hF
        refine zsubL (L' := [.inr (.inr 67), zJk]) ⟨Or.inl rfl, Or.inr rfl, trivial⟩ ?_
        obtain rfl := Option.some.inj hF
        exact K1
      · rw [if_neg c2] at hF
        refine z_aload rfl rfl rfl ?_
        refine z_getr (r := 24) rfl rfl rfl rfl ?_
        refine z_aload rfl rfl rfl ?_
        refine z_geti rfl rfl rfl rfl ?_
        refine z_inv1 (d' := d - 1) (As := [.inl (h 67 9)]) rfl rfl (zf_Row_get (r := 24) (a := 25) (n := 300) rfl rfl _) rfl rfl rfl (by omega) rfl (fun r3 h4 hR5 hQ6 => ?_)
        obtain ⟨rfl, rfl⟩ := hQ6
        refine z_ivs1 (d' := d - 1) (As := [.inl (rget h 25 300 (h 67 9))]) rfl rfl (zf_Reader_isBlank (by omega) _) rfl (by omega) rfl (fun r7 h8 hR9 hQ10 => ?_)
        obtain ⟨rfl, rfl⟩ := hQ10
        refine z_zeq rfl (fun c11 => ?_) (fun c11 => ?_)
        · rw [if_pos c11] at hF
          refine zsubL (L' := [.inr (.inr 67), zJk]) ⟨Or.inl rfl, Or.inr rfl, trivial⟩ ?_
          obtain rfl := Option.some.inj hF
          exact K1
        · rw [if_neg c11] at hF
          refine z_aload rfl rfl rfl ?_
          refine z_dup rfl rfl ?_
          refine z_geti rfl rfl rfl rfl ?_
          refine z_const rfl ?_
          refine z_iadd rfl ?_
          refine z_puti rfl rfl rfl rfl ?_
          refine z_iinc rfl rfl rfl ?_
          refine z_goto rfl ?_
          exact ih _ _ hF
set_option maxRecDepth 100000 in
set_option maxHeartbeats 4000000 in
theorem zw_Reader_step {l : Launch} {E : zE} {d : Nat} (hd : 10 ≤ d) (N : Nat) {h : zHp} {Q : Int → zHp → Prop} {h0 : zHp} (hF : sh_Reader_step N h = some h0) (K : Q 0 h0) : zW l E d zm_Reader_step 0 [.inr (.inr 67), zJk] [] h Q := by
  rw [sh_Reader_step] at hF
  refine z_const rfl ?_
  refine z_istore rfl rfl rfl ?_
  obtain ⟨h13, hL12, hF⟩ := zbind1 hF
  refine zl_Reader_step_L2 (by omega) N ?_ N _ _ hL12
  refine z_aload rfl rfl rfl ?_
  refine z_aload rfl rfl rfl ?_
  refine z_geti rfl rfl rfl rfl ?_
  refine z_puti rfl rfl rfl rfl ?_
  refine z_aload rfl rfl rfl ?_
  refine z_geti rfl rfl rfl rfl ?_
  refine z_aload rfl rfl rfl ?_
  refine z_geti rfl rfl rfl rfl ?_
  refine z_clt rfl (fun c14 => ?_) (fun c14 => ?_)
  · rw [if_pos c14] at hF
    refine z_aload rfl rfl rfl ?_
    refine z_getr (r := 24) rfl rfl rfl rfl ?_
    refine z_aload rfl rfl rfl ?_
    refine z_geti rfl rfl rfl rfl ?_
    refine z_inv1 (d' := d - 1) (As := [.inl (zst h13 67 8 (h13 67 9) 67 9)]) rfl rfl (zf_Row_get (r := 24) (a := 25) (n := 300) rfl rfl _) rfl rfl rfl (by omega) rfl (fun r15 h16 hR17 hQ18 => ?_)
    obtain ⟨rfl, rfl⟩ := hQ18
    refine z_istore rfl rfl rfl ?_
    refine z_iload rfl rfl ?_
    refine z_ivs1 (d' := d - 1) (As := [.inl (rget (zst h13 67 8 (h13 67 9)) 25 300 (zst h13 67 8 (h13 67 9) 67 9))]) rfl rfl (zf_Reader_isLetter (by omega) _) rfl (by omega) rfl (fun r19 h20 hR21 hQ22 => ?_)
    obtain ⟨rfl, rfl⟩ := hQ22
    refine z_zeq rfl (fun c29 => ?_) (fun c29 => ?_)
    · rw [if_pos c29] at hF
      refine z_iload rfl rfl ?_
      refine z_ivs1 (d' := d - 1) (As := [.inl (rget (zst h13 67 8 (h13 67 9)) 25 300 (zst h13 67 8 (h13 67 9) 67 9))]) rfl rfl (zf_Reader_isFigure (by omega) _) rfl (by omega) rfl (fun r30 h31 hR32 hQ33 => ?_)
      obtain ⟨rfl, rfl⟩ := hQ33
      refine z_zeq rfl (fun c35 => ?_) (fun c35 => ?_)
      · rw [if_pos c35] at hF
        refine z_aload rfl rfl rfl ?_
        refine z_iload rfl rfl ?_
        obtain ⟨h41, hc40, hF⟩ := zbind1 hF
        refine z_inv0 (d' := d - 1) (As := [.inl (rget (zst h13 67 8 (h13 67 9)) 25 300 (zst h13 67 8 (h13 67 9) 67 9))]) rfl rfl (zf_Reader_takeSign (by omega) N _ hc40) rfl rfl rfl (by omega) rfl (fun r36 h37 hR38 hQ39 => ?_)
        obtain ⟨rfl, rfl⟩ := hQ39
        obtain rfl := Option.some.inj hF
        exact z_ret rfl rfl rfl K
      · rw [if_neg c35] at hF
        refine z_aload rfl rfl rfl ?_
        obtain ⟨h47, hc46, hF⟩ := zbind1 hF
        refine z_inv0 (d' := d - 1) (As := []) rfl rfl (zf_Reader_takeNumber (by omega) N hc46) rfl rfl rfl (by omega) rfl (fun r42 h43 hR44 hQ45 => ?_)
        obtain ⟨rfl, rfl⟩ := hQ45
        refine z_goto rfl ?_
        obtain rfl := Option.some.inj hF
        exact z_ret rfl rfl rfl K
    · rw [if_neg c29] at hF
      refine z_aload rfl rfl rfl ?_
      obtain ⟨h53, hc52, hF⟩ := zbind1 hF
      refine z_inv0 (d' := d - 1) (As := []) rfl rfl (zf_Reader_passLetters (by omega) N hc52) rfl rfl rfl (by omega) rfl (fun r48 h49 hR50 hQ51 => ?_)
      obtain ⟨rfl, rfl⟩ := hQ51
      refine z_aload rfl rfl rfl ?_
      refine z_aload rfl rfl rfl ?_
      refine z_aload rfl rfl rfl ?_
      refine z_geti rfl rfl rfl rfl ?_
      refine z_aload rfl rfl rfl ?_
      refine z_geti rfl rfl rfl rfl ?_
      obtain ⟨r59, hc58, hF⟩ := zbind1 hF
      refine z_inv1 (d' := d - 1) (As := [.inl (h53 67 8), .inl (h53 67 9)]) rfl rfl (zf_Reader_wordAt (by omega) N _ _ hc58) rfl rfl rfl (by omega) rfl (fun r54 h55 hR56 hQ57 => ?_)
      obtain ⟨rfl, rfl⟩ := hQ57
      refine z_puti rfl rfl rfl rfl ?_
      refine z_goto rfl ?_
      obtain rfl := Option.some.inj hF
      exact z_ret rfl rfl rfl K
  · rw [if_neg c14] at hF
    refine z_aload rfl rfl rfl ?_
    refine z_const rfl ?_
    refine z_puti rfl rfl rfl rfl ?_
    obtain rfl := Option.some.inj hF
    exact z_ret rfl rfl rfl K
set_option maxRecDepth 100000 in
theorem zf_Reader_step {l : Launch} {E : zE} {d : Nat} (hd : 10 ≤ d) (N : Nat) {h : zHp} {h0 : zHp} (hF : sh_Reader_step N h = some h0) : zC l E d zm_Reader_step [.inr (.inr 67)] h (fun r1 h1 => 0 = r1 ∧ h0 = h1) :=
  zC_of zk_Reader_step (by decide) rfl rfl (Nat.le_of_ble_eq_true rfl) (zw_Reader_step hd N hF ⟨rfl, rfl⟩)
def sh_Reader_emit (x1 : Int) (h : zHp) : zHp := zst (rput h 28 1200 (w32 ((w32 ((h 67 5) * 300)) + (h 67 7))) x1) 67 7 (w32 ((rput h 28 1200 (w32 ((w32 ((h 67 5) * 300)) + (h 67 7))) x1 67 7) + 1))
set_option maxRecDepth 100000 in
set_option maxHeartbeats 4000000 in
theorem zw_Reader_emit {l : Launch} {E : zE} {d : Nat} (hd : 2 ≤ d) (x1 : Int) {h : zHp} {Q : Int → zHp → Prop} {h0 : zHp} (hF : sh_Reader_emit x1 h = h0) (K : Q 0 h0) : zW l E d zm_Reader_emit 0 [.inr (.inr 67), .inl x1] [] h Q := by
  rw [sh_Reader_emit] at hF
  refine z_aload rfl rfl rfl ?_
  refine z_getr (r := 26) rfl rfl rfl rfl ?_
  refine z_getr (r := 27) rfl rfl rfl rfl ?_
  refine z_aload rfl rfl rfl ?_
  refine z_geti rfl rfl rfl rfl ?_
  refine z_const rfl ?_
  refine z_imul rfl ?_
  refine z_aload rfl rfl rfl ?_
  refine z_geti rfl rfl rfl rfl ?_
  refine z_iadd rfl ?_
  refine z_iload rfl rfl ?_
  refine z_inv0 (d' := d - 1) (As := [.inl (w32 ((w32 ((h 67 5) * 300)) + (h 67 7))), .inl x1]) rfl rfl (zf_Row_put (r := 27) (a := 28) (n := 1200) rfl rfl _ _) rfl rfl rfl (by omega) rfl (fun r1 h2 hR3 hQ4 => ?_)
  obtain ⟨rfl, rfl⟩ := hQ4
  refine z_aload rfl rfl rfl ?_
  refine z_dup rfl rfl ?_
  refine z_geti rfl rfl rfl rfl ?_
  refine z_const rfl ?_
  refine z_iadd rfl ?_
  refine z_puti rfl rfl rfl rfl ?_
  subst hF
  exact z_ret rfl rfl rfl K
set_option maxRecDepth 100000 in
theorem zf_Reader_emit {l : Launch} {E : zE} {d : Nat} (hd : 2 ≤ d) (x1 : Int) {h : zHp} : zC l E d zm_Reader_emit [.inr (.inr 67), .inl x1] h (fun r1 h1 => 0 = r1 ∧ sh_Reader_emit x1 h = h1) :=
  zC_of zk_Reader_emit (by decide) rfl rfl (Nat.le_of_ble_eq_true rfl) (zw_Reader_emit hd _ rfl ⟨rfl, rfl⟩)
def sh_Reader_fail (x1 : Int) (h : zHp) : zHp := (if h 67 2 = 0 then zst (zst h 67 2 x1) 67 3 (zst h 67 2 x1 67 8) else h)
set_option maxRecDepth 100000 in
set_option maxHeartbeats 4000000 in
theorem zw_Reader_fail {l : Launch} {E : zE} {d : Nat} (hd : 1 ≤ d) (x1 : Int) {h : zHp} {Q : Int → zHp → Prop} {h0 : zHp} (hF : sh_Reader_fail x1 h = h0) (K : Q 0 h0) : zW l E d zm_Reader_fail 0 [.inr (.inr 67), .inl x1] [] h Q := by
  rw [sh_Reader_fail] at hF
  refine z_aload rfl rfl rfl ?_
  refine z_geti rfl rfl rfl rfl ?_
  refine z_zne rfl (fun c2 => ?_) (fun c2 => ?_)
  · rw [if_neg c2] at hF
    subst hF
    exact z_ret rfl rfl rfl K
  · rw [if_pos c2] at hF
    refine z_aload rfl rfl rfl ?_
    refine z_iload rfl rfl ?_
    refine z_puti rfl rfl rfl rfl ?_
    refine z_aload rfl rfl rfl ?_
    refine z_aload rfl rfl rfl ?_
    refine z_geti rfl rfl rfl rfl ?_
    refine z_puti rfl rfl rfl rfl ?_
    subst hF
    exact z_ret rfl rfl rfl K
set_option maxRecDepth 100000 in
theorem zf_Reader_fail {l : Launch} {E : zE} {d : Nat} (hd : 1 ≤ d) (x1 : Int) {h : zHp} : zC l E d zm_Reader_fail [.inr (.inr 67), .inl x1] h (fun r1 h1 => 0 = r1 ∧ sh_Reader_fail x1 h = h1) :=
  zC_of zk_Reader_fail (by decide) rfl rfl (Nat.le_of_ble_eq_true rfl) (zw_Reader_fail hd _ rfl ⟨rfl, rfl⟩)
def sh_Reader_isComparison (x0 : Int) : Int := (if x0 < 20 then (if x0 = 31 then 1 else (if x0 = 32 then 1 else 0 : Int) : Int) else (if x0 ≤ 23 then 1 else (if x0 = 31 then 1 else (if x0 = 32 then 1 else 0 : Int) : Int) : Int) : Int)
set_option maxRecDepth 100000 in
set_option maxHeartbeats 4000000 in
theorem zw_Reader_isComparison {l : Launch} {E : zE} {d : Nat} (hd : 1 ≤ d) (x0 : Int) {h : zHp} {Q : Int → zHp → Prop} {r0 : Int} (hF : sh_Reader_isComparison x0 = r0) (K : Q r0 h) : zW l E d zm_Reader_isComparison 0 [.inl x0] [] h Q := by
  rw [sh_Reader_isComparison] at hF
  refine z_iload rfl rfl ?_
  refine z_const rfl ?_
  have hJ7 : zW l E d zm_Reader_isComparison 15 [zJk] [.inl (if x0 < 20 then (if x0 = 31 then 1 else (if x0 = 32 then 1 else 0 : Int) : Int) else (if x0 ≤ 23 then 1 else (if x0 = 31 then 1 else (if x0 = 32 then 1 else 0 : Int) : Int) : Int) : Int)] h Q := by
    subst hF
    exact z_zret rfl rfl (zor_ite (zor_ite (Or.inr rfl) (zor_ite (Or.inr rfl) (Or.inl rfl))) (zor_ite (Or.inr rfl) (zor_ite (Or.inr rfl) (zor_ite (Or.inr rfl) (Or.inl rfl))))) K
  refine z_clt rfl (fun c1 => ?_) (fun c1 => ?_)
  · refine z_iload rfl rfl ?_
    refine z_const rfl ?_
    refine z_ceq rfl (fun c2 => ?_) (fun c2 => ?_)
    · refine z_const rfl ?_
      refine z_goto rfl ?_
      refine zsubL (L' := [zJk]) ⟨Or.inr rfl, trivial⟩ ?_
      exact zcast (by first | rfl | (simp only [if_pos c1, if_pos c2] <;> rfl)) (by first | rfl | (simp only [if_pos c1, if_pos c2] <;> rfl)) hJ7
    · refine z_iload rfl rfl ?_
      refine z_const rfl ?_
      refine z_cne rfl (fun c3 => ?_) (fun c3 => ?_)
      · refine z_const rfl ?_
        refine zsubL (L' := [zJk]) ⟨Or.inr rfl, trivial⟩ ?_
        exact zcast (by first | rfl | (simp only [if_pos c1, if_neg c2, if_neg c3] <;> rfl)) (by first | rfl | (simp only [if_pos c1, if_neg c2, if_neg c3] <;> rfl)) hJ7
      · refine z_const rfl ?_
        refine z_goto rfl ?_
        refine zsubL (L' := [zJk]) ⟨Or.inr rfl, trivial⟩ ?_
        exact zcast (by first | rfl | (simp only [if_pos c1, if_neg c2, if_pos c3] <;> rfl)) (by first | rfl | (simp only [if_pos c1, if_neg c2, if_pos c3] <;> rfl)) hJ7
  · refine z_iload rfl rfl ?_
    refine z_const rfl ?_
    refine z_cle rfl (fun c4 => ?_) (fun c4 => ?_)
    · refine z_const rfl ?_
      refine z_goto rfl ?_
      refine zsubL (L' := [zJk]) ⟨Or.inr rfl, trivial⟩ ?_
      exact zcast (by first | rfl | (simp only [if_neg c1, if_pos c4] <;> rfl)) (by first | rfl | (simp only [if_neg c1, if_pos c4] <;> rfl)) hJ7
    · refine z_iload rfl rfl ?_
      refine z_const rfl ?_
      refine z_ceq rfl (fun c5 => ?_) (fun c5 => ?_)
      · refine z_const rfl ?_
        refine z_goto rfl ?_
        refine zsubL (L' := [zJk]) ⟨Or.inr rfl, trivial⟩ ?_
        exact zcast (by first | rfl | (simp only [if_neg c1, if_neg c4, if_pos c5] <;> rfl)) (by first | rfl | (simp only [if_neg c1, if_neg c4, if_pos c5] <;> rfl)) hJ7
      · refine z_iload rfl rfl ?_
        refine z_const rfl ?_
        refine z_cne rfl (fun c6 => ?_) (fun c6 => ?_)
        · refine z_const rfl ?_
          refine zsubL (L' := [zJk]) ⟨Or.inr rfl, trivial⟩ ?_
          exact zcast (by first | rfl | (simp only [if_neg c1, if_neg c4, if_neg c5, if_neg c6] <;> rfl)) (by first | rfl | (simp only [if_neg c1, if_neg c4, if_neg c5, if_neg c6] <;> rfl)) hJ7
        · refine z_const rfl ?_
          refine z_goto rfl ?_
          refine zsubL (L' := [zJk]) ⟨Or.inr rfl, trivial⟩ ?_
          exact zcast (by first | rfl | (simp only [if_neg c1, if_neg c4, if_neg c5, if_pos c6] <;> rfl)) (by first | rfl | (simp only [if_neg c1, if_neg c4, if_neg c5, if_pos c6] <;> rfl)) hJ7
set_option maxRecDepth 100000 in
theorem zf_Reader_isComparison {l : Launch} {E : zE} {d : Nat} (hd : 1 ≤ d) (x0 : Int) {h : zHp} : zC l E d zm_Reader_isComparison [.inl x0] h (fun r1 h1 => sh_Reader_isComparison x0 = r1 ∧ h = h1) :=
  zC_of zk_Reader_isComparison (by decide) rfl rfl (Nat.le_of_ble_eq_true rfl) (zw_Reader_isComparison hd _ rfl ⟨rfl, rfl⟩)
theorem zb_Reader_isComparison (x0 : Int) : sh_Reader_isComparison x0 = 0 ∨ sh_Reader_isComparison x0 = 1 := by
  unfold sh_Reader_isComparison
  exact zor_ite (zor_ite (Or.inr rfl) (zor_ite (Or.inr rfl) (Or.inl rfl))) (zor_ite (Or.inr rfl) (zor_ite (Or.inr rfl) (zor_ite (Or.inr rfl) (Or.inl rfl))))
def sh_Reader_close (N : Nat) (h : zHp) : Option zHp := (if h 67 10 = 29 then zb1 (sh_Reader_step N h) fun h12 => some h12 else some (sh_Reader_fail 1 h))
set_option maxRecDepth 100000 in
set_option maxHeartbeats 4000000 in
theorem zw_Reader_close {l : Launch} {E : zE} {d : Nat} (hd : 11 ≤ d) (N : Nat) {h : zHp} {Q : Int → zHp → Prop} {h0 : zHp} (hF : sh_Reader_close N h = some h0) (K : Q 0 h0) : zW l E d zm_Reader_close 0 [.inr (.inr 67)] [] h Q := by
  rw [sh_Reader_close] at hF
  refine z_aload rfl rfl rfl ?_
  refine z_geti rfl rfl rfl rfl ?_
  refine z_const rfl ?_
  refine z_cne rfl (fun c2 => ?_) (fun c2 => ?_)
  · rw [if_neg c2] at hF
    refine z_aload rfl rfl rfl ?_
    refine z_const rfl ?_
    refine z_inv0 (d' := d - 1) (As := [.inl 1]) rfl rfl (zf_Reader_fail (by omega) _) rfl rfl rfl (by omega) rfl (fun r3 h4 hR5 hQ6 => ?_)
    obtain ⟨rfl, rfl⟩ := hQ6
    obtain rfl := Option.some.inj hF
    exact z_ret rfl rfl rfl K
  · rw [if_pos c2] at hF
    refine z_aload rfl rfl rfl ?_
    obtain ⟨h12, hc11, hF⟩ := zbind1 hF
    refine z_inv0 (d' := d - 1) (As := []) rfl rfl (zf_Reader_step (by omega) N hc11) rfl rfl rfl (by omega) rfl (fun r7 h8 hR9 hQ10 => ?_)
    obtain ⟨rfl, rfl⟩ := hQ10
    refine z_goto rfl ?_
    obtain rfl := Option.some.inj hF
    exact z_ret rfl rfl rfl K
set_option maxRecDepth 100000 in
theorem zf_Reader_close {l : Launch} {E : zE} {d : Nat} (hd : 11 ≤ d) (N : Nat) {h : zHp} {h0 : zHp} (hF : sh_Reader_close N h = some h0) : zC l E d zm_Reader_close [.inr (.inr 67)] h (fun r1 h1 => 0 = r1 ∧ h0 = h1) :=
  zC_of zk_Reader_close (by decide) rfl rfl (Nat.le_of_ble_eq_true rfl) (zw_Reader_close hd N hF ⟨rfl, rfl⟩)
def sh_Reader_isNameOf (x0 x1 : Int) : Int := (if x0 = 4 then (if x1 = 0 then 1 else (if x1 < 8 then 0 else 1 : Int) : Int) else (if x0 = 3 then (if 2 < x1 then 0 else 1 : Int) else (if 8 < x1 then 0 else 1 : Int)))
set_option maxRecDepth 100000 in
set_option maxHeartbeats 4000000 in
theorem zw_Reader_isNameOf {l : Launch} {E : zE} {d : Nat} (hd : 1 ≤ d) (x0 x1 : Int) {h : zHp} {Q : Int → zHp → Prop} {r0 : Int} (hF : sh_Reader_isNameOf x0 x1 = r0) (K : Q r0 h) : zW l E d zm_Reader_isNameOf 0 [.inl x0, .inl x1] [] h Q := by
  rw [sh_Reader_isNameOf] at hF
  refine z_iload rfl rfl ?_
  refine z_const rfl ?_
  refine z_cne rfl (fun c1 => ?_) (fun c1 => ?_)
  · rw [if_neg c1] at hF
    refine z_iload rfl rfl ?_
    refine z_const rfl ?_
    refine z_cne rfl (fun c2 => ?_) (fun c2 => ?_)
    · rw [if_neg c2] at hF
      refine z_iload rfl rfl ?_
      refine z_const rfl ?_
      have hJ4 : zW l E d zm_Reader_isNameOf 28 [zJk, zJk] [.inl (if 8 < x1 then 0 else 1 : Int)] h Q := by
        subst hF
        exact z_zret rfl rfl (zor_ite (Or.inl rfl) (Or.inr rfl)) K
      refine z_cgt rfl (fun c3 => ?_) (fun c3 => ?_)
      · refine z_const rfl ?_
        refine zsubL (L' := [zJk, zJk]) ⟨Or.inr rfl, Or.inr rfl, trivial⟩ ?_
        exact zcast (by first | rfl | (simp only [if_pos c3] <;> rfl)) (by first | rfl | (simp only [if_pos c3] <;> rfl)) hJ4
      · refine z_const rfl ?_
        refine z_goto rfl ?_
        refine zsubL (L' := [zJk, zJk]) ⟨Or.inr rfl, Or.inr rfl, trivial⟩ ?_
        exact zcast (by first | rfl | (simp only [if_neg c3] <;> rfl)) (by first | rfl | (simp only [if_neg c3] <;> rfl)) hJ4
    · rw [if_pos c2] at hF
      refine z_iload rfl rfl ?_
      refine z_const rfl ?_
      have hJ6 : zW l E d zm_Reader_isNameOf 21 [zJk, zJk] [.inl (if 2 < x1 then 0 else 1 : Int)] h Q := by
        subst hF
        exact z_zret rfl rfl (zor_ite (Or.inl rfl) (Or.inr rfl)) K
      refine z_cgt rfl (fun c5 => ?_) (fun c5 => ?_)
      · refine z_const rfl ?_
        refine zsubL (L' := [zJk, zJk]) ⟨Or.inr rfl, Or.inr rfl, trivial⟩ ?_
        exact zcast (by first | rfl | (simp only [if_pos c5] <;> rfl)) (by first | rfl | (simp only [if_pos c5] <;> rfl)) hJ6
      · refine z_const rfl ?_
        refine z_goto rfl ?_
        refine zsubL (L' := [zJk, zJk]) ⟨Or.inr rfl, Or.inr rfl, trivial⟩ ?_
        exact zcast (by first | rfl | (simp only [if_neg c5] <;> rfl)) (by first | rfl | (simp only [if_neg c5] <;> rfl)) hJ6
  · rw [if_pos c1] at hF
    refine z_iload rfl rfl ?_
    have hJ9 : zW l E d zm_Reader_isNameOf 11 [zJk, zJk] [.inl (if x1 = 0 then 1 else (if x1 < 8 then 0 else 1 : Int) : Int)] h Q := by
      subst hF
      exact z_zret rfl rfl (zor_ite (Or.inr rfl) (zor_ite (Or.inl rfl) (Or.inr rfl))) K
    refine z_zeq rfl (fun c7 => ?_) (fun c7 => ?_)
    · refine z_const rfl ?_
      refine z_goto rfl ?_
      refine zsubL (L' := [zJk, zJk]) ⟨Or.inr rfl, Or.inr rfl, trivial⟩ ?_
      exact zcast (by first | rfl | (simp only [if_pos c7] <;> rfl)) (by first | rfl | (simp only [if_pos c7] <;> rfl)) hJ9
    · refine z_iload rfl rfl ?_
      refine z_const rfl ?_
      refine z_clt rfl (fun c8 => ?_) (fun c8 => ?_)
      · refine z_const rfl ?_
        refine zsubL (L' := [zJk, zJk]) ⟨Or.inr rfl, Or.inr rfl, trivial⟩ ?_
        exact zcast (by first | rfl | (simp only [if_neg c7, if_pos c8] <;> rfl)) (by first | rfl | (simp only [if_neg c7, if_pos c8] <;> rfl)) hJ9
      · refine z_const rfl ?_
        refine z_goto rfl ?_
        refine zsubL (L' := [zJk, zJk]) ⟨Or.inr rfl, Or.inr rfl, trivial⟩ ?_
        exact zcast (by first | rfl | (simp only [if_neg c7, if_neg c8] <;> rfl)) (by first | rfl | (simp only [if_neg c7, if_neg c8] <;> rfl)) hJ9
set_option maxRecDepth 100000 in
theorem zf_Reader_isNameOf {l : Launch} {E : zE} {d : Nat} (hd : 1 ≤ d) (x0 x1 : Int) {h : zHp} : zC l E d zm_Reader_isNameOf [.inl x0, .inl x1] h (fun r1 h1 => sh_Reader_isNameOf x0 x1 = r1 ∧ h = h1) :=
  zC_of zk_Reader_isNameOf (by decide) rfl rfl (Nat.le_of_ble_eq_true rfl) (zw_Reader_isNameOf hd _ _ rfl ⟨rfl, rfl⟩)
theorem zb_Reader_isNameOf (x0 x1 : Int) : sh_Reader_isNameOf x0 x1 = 0 ∨ sh_Reader_isNameOf x0 x1 = 1 := by
  unfold sh_Reader_isNameOf
  exact zor_ite (zor_ite (Or.inr rfl) (zor_ite (Or.inl rfl) (Or.inr rfl))) (zor_ite (zor_ite (Or.inl rfl) (Or.inr rfl)) (zor_ite (Or.inl rfl) (Or.inr rfl)))
def sh_Reader_readName (N : Nat) (h : zHp) : Option zHp := (if sh_Reader_isNameOf (h 67 6) (h 67 10) = 0 then some (sh_Reader_fail 5 h) else zb1 (sh_Reader_step N (sh_Reader_emit (w32 (10000 + (h 67 10))) h)) fun h15 => some h15)
set_option maxRecDepth 100000 in
set_option maxHeartbeats 4000000 in
theorem zw_Reader_readName {l : Launch} {E : zE} {d : Nat} (hd : 11 ≤ d) (N : Nat) {h : zHp} {Q : Int → zHp → Prop} {h0 : zHp} (hF : sh_Reader_readName N h = some h0) (K : Q 0 h0) : zW l E d zm_Reader_readName 0 [.inr (.inr 67)] [] h Q := by
  rw [sh_Reader_readName] at hF
  refine z_aload rfl rfl rfl ?_
  refine z_geti rfl rfl rfl rfl ?_
  refine z_aload rfl rfl rfl ?_
  refine z_geti rfl rfl rfl rfl ?_
  refine z_ivs1 (d' := d - 1) (As := [.inl (h 67 6), .inl (h 67 10)]) rfl rfl (zf_Reader_isNameOf (by omega) _ _) rfl (by omega) rfl (fun r1 h2 hR3 hQ4 => ?_)
  obtain ⟨rfl, rfl⟩ := hQ4
  refine z_zne rfl (fun c5 => ?_) (fun c5 => ?_)
  · rw [if_neg c5] at hF
    refine z_aload rfl rfl rfl ?_
    refine z_const rfl ?_
    refine z_aload rfl rfl rfl ?_
    refine z_geti rfl rfl rfl rfl ?_
    refine z_iadd rfl ?_
    refine z_inv0 (d' := d - 1) (As := [.inl (w32 (10000 + (h 67 10)))]) rfl rfl (zf_Reader_emit (by omega) _) rfl rfl rfl (by omega) rfl (fun r6 h7 hR8 hQ9 => ?_)
    obtain ⟨rfl, rfl⟩ := hQ9
    refine z_aload rfl rfl rfl ?_
    obtain ⟨h15, hc14, hF⟩ := zbind1 hF
    refine z_inv0 (d' := d - 1) (As := []) rfl rfl (zf_Reader_step (by omega) N hc14) rfl rfl rfl (by omega) rfl (fun r10 h11 hR12 hQ13 => ?_)
    obtain ⟨rfl, rfl⟩ := hQ13
    obtain rfl := Option.some.inj hF
    exact z_ret rfl rfl rfl K
  · rw [if_pos c5] at hF
    refine z_aload rfl rfl rfl ?_
    refine z_const rfl ?_
    refine z_inv0 (d' := d - 1) (As := [.inl 5]) rfl rfl (zf_Reader_fail (by omega) _) rfl rfl rfl (by omega) rfl (fun r16 h17 hR18 hQ19 => ?_)
    obtain ⟨rfl, rfl⟩ := hQ19
    obtain rfl := Option.some.inj hF
    exact z_ret rfl rfl rfl K
set_option maxRecDepth 100000 in
theorem zf_Reader_readName {l : Launch} {E : zE} {d : Nat} (hd : 11 ≤ d) (N : Nat) {h : zHp} {h0 : zHp} (hF : sh_Reader_readName N h = some h0) : zC l E d zm_Reader_readName [.inr (.inr 67)] h (fun r1 h1 => 0 = r1 ∧ h0 = h1) :=
  zC_of zk_Reader_readName (by decide) rfl rfl (Nat.le_of_ble_eq_true rfl) (zw_Reader_readName hd N hF ⟨rfl, rfl⟩)
def sh_Reader_readNumber (N : Nat) (h : zHp) : Option zHp := (if h 67 11 ≤ 9999 then zb1 (sh_Reader_step N (sh_Reader_emit (h 67 11) h)) fun h11 => some h11 else some (sh_Reader_fail 2 h))
set_option maxRecDepth 100000 in
set_option maxHeartbeats 4000000 in
theorem zw_Reader_readNumber {l : Launch} {E : zE} {d : Nat} (hd : 11 ≤ d) (N : Nat) {h : zHp} {Q : Int → zHp → Prop} {h0 : zHp} (hF : sh_Reader_readNumber N h = some h0) (K : Q 0 h0) : zW l E d zm_Reader_readNumber 0 [.inr (.inr 67)] [] h Q := by
  rw [sh_Reader_readNumber] at hF
  refine z_aload rfl rfl rfl ?_
  refine z_geti rfl rfl rfl rfl ?_
  refine z_const rfl ?_
  refine z_cle rfl (fun c1 => ?_) (fun c1 => ?_)
  · rw [if_pos c1] at hF
    refine z_aload rfl rfl rfl ?_
    refine z_aload rfl rfl rfl ?_
    refine z_geti rfl rfl rfl rfl ?_
    refine z_inv0 (d' := d - 1) (As := [.inl (h 67 11)]) rfl rfl (zf_Reader_emit (by omega) _) rfl rfl rfl (by omega) rfl (fun r2 h3 hR4 hQ5 => ?_)
    obtain ⟨rfl, rfl⟩ := hQ5
    refine z_aload rfl rfl rfl ?_
    obtain ⟨h11, hc10, hF⟩ := zbind1 hF
    refine z_inv0 (d' := d - 1) (As := []) rfl rfl (zf_Reader_step (by omega) N hc10) rfl rfl rfl (by omega) rfl (fun r6 h7 hR8 hQ9 => ?_)
    obtain ⟨rfl, rfl⟩ := hQ9
    obtain rfl := Option.some.inj hF
    exact z_ret rfl rfl rfl K
  · rw [if_neg c1] at hF
    refine z_aload rfl rfl rfl ?_
    refine z_const rfl ?_
    refine z_inv0 (d' := d - 1) (As := [.inl 2]) rfl rfl (zf_Reader_fail (by omega) _) rfl rfl rfl (by omega) rfl (fun r12 h13 hR14 hQ15 => ?_)
    obtain ⟨rfl, rfl⟩ := hQ15
    obtain rfl := Option.some.inj hF
    exact z_ret rfl rfl rfl K
set_option maxRecDepth 100000 in
theorem zf_Reader_readNumber {l : Launch} {E : zE} {d : Nat} (hd : 11 ≤ d) (N : Nat) {h : zHp} {h0 : zHp} (hF : sh_Reader_readNumber N h = some h0) : zC l E d zm_Reader_readNumber [.inr (.inr 67)] h (fun r1 h1 => 0 = r1 ∧ h0 = h1) :=
  zC_of zk_Reader_readNumber (by decide) rfl rfl (Nat.le_of_ble_eq_true rfl) (zw_Reader_readNumber hd N hF ⟨rfl, rfl⟩)
/-- the group GR: its contract by number -/
def zG_GR (l : Launch) (E : zE) (d : Nat) : Nat → List Int → zHp → (Int → zHp → Prop) → Prop
  | 0, [x1, x2], h, Q => zC l E d zm_Reader_readRank [.inr (.inr 67), .inl x1, .inl x2] h Q
  | 1, [x1, x2], h, Q => zC l E d zm_Reader_readJoined [.inr (.inr 67), .inl x1, .inl x2] h Q
  | 2, [x1], h, Q => zC l E d zm_Reader_readAsk [.inr (.inr 67), .inl x1] h Q
  | 3, [x1], h, Q => zC l E d zm_Reader_readOne [.inr (.inr 67), .inl x1] h Q
  | 4, [x1, x2], h, Q => zC l E d zm_Reader_readOpened [.inr (.inr 67), .inl x1, .inl x2] h Q
  | _, _, _, _ => True
def zGh_GR (l : Launch) (E : zE) (d : Nat) (grec : Nat → List Int → zHp → Option (Int × zHp)) : Prop := ∀ (sel : Nat) (as : List Int) (h : zHp) (r : Int) (h1 : zHp), grec sel as h = some (r, h1) → zG_GR l E d sel as h (fun r2 h2 => r = r2 ∧ h1 = h2)
def sh_b_Reader_readRank (N : Nat) (grec : Nat → List Int → zHp → Option (Int × zHp)) (x1 x2 : Int) (h : zHp) : Option (Int × zHp) := (if x1 = 2 then zb2 (grec 2 [x2] h) fun r24 h25 => some (0, h25) else (if x1 < 5 then zb2 (grec 1 [x1, x2] h) fun r10 h11 => some (0, h11) else zb2 (grec 3 [x2] h) fun r17 h18 => some (0, h18)))
set_option maxRecDepth 100000 in
set_option maxHeartbeats 4000000 in
theorem zw_Reader_readRank {l : Launch} {E : zE} {d : Nat} (hd : 12 ≤ d) (N : Nat) {grec : Nat → List Int → zHp → Option (Int × zHp)} (hrec : zGh_GR l E (d - 1) grec) (x1 x2 : Int) {h : zHp} {Q : Int → zHp → Prop} {r0 : Int} {h0 : zHp} (hF : sh_b_Reader_readRank N grec x1 x2 h = some (r0, h0)) (K : Q r0 h0) : zW l E d zm_Reader_readRank 0 [.inr (.inr 67), .inl x1, .inl x2] [] h Q := by
  rw [sh_b_Reader_readRank] at hF
  refine z_iload rfl rfl ?_
  refine z_const rfl ?_
  refine z_cne rfl (fun c3 => ?_) (fun c3 => ?_)
  · rw [if_neg c3] at hF
    refine z_iload rfl rfl ?_
    refine z_const rfl ?_
    refine z_clt rfl (fun c5 => ?_) (fun c5 => ?_)
    · rw [if_pos c5] at hF
      refine z_aload rfl rfl rfl ?_
      refine z_iload rfl rfl ?_
      refine z_iload rfl rfl ?_
      obtain ⟨r10, h11, hc12, hF⟩ := zbind2 hF
      refine z_inv0 (d' := d - 1) (As := [.inl x1, .inl x2]) rfl rfl (hrec 1 [x1, x2] _ _ _ hc12) rfl rfl rfl (by omega) rfl (fun r6 h7 hR8 hQ9 => ?_)
      obtain ⟨rfl, rfl⟩ := hQ9
      obtain ⟨rfl, rfl⟩ := zinj2 hF
      exact z_ret rfl rfl rfl K
    · rw [if_neg c5] at hF
      refine z_aload rfl rfl rfl ?_
      refine z_iload rfl rfl ?_
      obtain ⟨r17, h18, hc19, hF⟩ := zbind2 hF
      refine z_inv0 (d' := d - 1) (As := [.inl x2]) rfl rfl (hrec 3 [x2] _ _ _ hc19) rfl rfl rfl (by omega) rfl (fun r13 h14 hR15 hQ16 => ?_)
      obtain ⟨rfl, rfl⟩ := hQ16
      refine z_goto rfl ?_
      obtain ⟨rfl, rfl⟩ := zinj2 hF
      exact z_ret rfl rfl rfl K
  · rw [if_pos c3] at hF
    refine z_aload rfl rfl rfl ?_
    refine z_iload rfl rfl ?_
    obtain ⟨r24, h25, hc26, hF⟩ := zbind2 hF
    refine z_inv0 (d' := d - 1) (As := [.inl x2]) rfl rfl (hrec 2 [x2] _ _ _ hc26) rfl rfl rfl (by omega) rfl (fun r20 h21 hR22 hQ23 => ?_)
    obtain ⟨rfl, rfl⟩ := hQ23
    refine z_goto rfl ?_
    obtain ⟨rfl, rfl⟩ := zinj2 hF
    exact z_ret rfl rfl rfl K
set_option maxRecDepth 100000 in
theorem zf_b_Reader_readRank {l : Launch} {E : zE} {d : Nat} (hd : 12 ≤ d) (N : Nat) {grec : Nat → List Int → zHp → Option (Int × zHp)} (hrec : zGh_GR l E (d - 1) grec) (x1 x2 : Int) {h : zHp} {r0 : Int} {h0 : zHp} (hF : sh_b_Reader_readRank N grec x1 x2 h = some (r0, h0)) : zC l E d zm_Reader_readRank [.inr (.inr 67), .inl x1, .inl x2] h (fun r1 h1 => r0 = r1 ∧ h0 = h1) :=
  zC_of zk_Reader_readRank (by decide) rfl rfl (Nat.le_of_ble_eq_true rfl) (zw_Reader_readRank hd N hrec _ _ hF ⟨rfl, rfl⟩)
def sh_Reader_readJoined_L8 (N : Nat) (grec : Nat → List Int → zHp → Option (Int × zHp)) : Nat → Int → Int → Int → zHp → Option (zHp)
  | 0, _, _, _, _ => none
  | n + 1, x1, x2, x3, h => (if h 67 4 ≤ x3 then some h else (if h 67 2 = 0 then (if sh_Reader_joins x1 (h 67 10) = 0 then some h else zb1 (sh_Reader_step N h) fun h20 => zb2 (grec 0 [w32 (x1 + 1), x2] h20) fun r25 h26 => sh_Reader_readJoined_L8 N grec n x1 x2 (w32 (x3 + 1)) (sh_Reader_emit (w32 (20000 + (h 67 10))) h26)) else some h))
def sh_b_Reader_readJoined (N : Nat) (grec : Nat → List Int → zHp → Option (Int × zHp)) (x1 x2 : Int) (h : zHp) : Option (Int × zHp) := zb2 (grec 0 [w32 (x1 + 1), x2] h) fun r5 h6 => zb1 (sh_Reader_readJoined_L8 N grec N x1 x2 0 h6) fun h33 => some (0, h33)
set_option maxRecDepth 100000 in
set_option maxHeartbeats 4000000 in
theorem zl_Reader_readJoined_L8 {l : Launch} {E : zE} {d : Nat} (hd : 12 ≤ d) (N : Nat) {grec : Nat → List Int → zHp → Option (Int × zHp)} (hrec : zGh_GR l E (d - 1) grec) {Q : Int → zHp → Prop} {oh : zHp} (K1 : zW l E d zm_Reader_readJoined 38 [zJk, zJk, zJk, zJk, zJk] [] oh Q) : ∀ (n : Nat) (x1 x2 x3 : Int) (h : zHp), sh_Reader_readJoined_L8 N grec n x1 x2 x3 h = some oh → zW l E d zm_Reader_readJoined 8 [.inr (.inr 67), .inl x1, .inl x2, .inl x3, zJk] [] h Q := by
  intro n
  induction n with
  | zero =>
    intro x1 x2 x3 h hF
    cases (show (none : Option (zHp)) = some oh from hF)
  | succ n ih =>
    intro x1 x2 x3 h hF
    rw [sh_Reader_readJoined_L8] at hF
    refine z_iload rfl rfl ?_
    refine z_aload rfl rfl rfl ?_
    refine z_geti rfl rfl rfl rfl ?_
    refine z_cge rfl (fun c8 => ?_) (fun c8 => ?_)
    · rw [if_pos c8] at hF
      refine zsubL (L' := [zJk, zJk, zJk, zJk, zJk]) ⟨Or.inr rfl, Or.inr rfl, Or.inr rfl, Or.inr rfl, Or.inl rfl, trivial⟩ ?_
      obtain rfl := Option.some.inj hF
      exact K1
    · rw [if_neg c8] at hF
      refine z_aload rfl rfl rfl ?_
      refine z_geti rfl rfl rfl rfl ?_
      refine z_zne rfl (fun c9 => ?_) (fun c9 => ?_)
      · rw [if_neg c9] at hF
        refine zsubL (L' := [zJk, zJk, zJk, zJk, zJk]) ⟨Or.inr rfl, Or.inr rfl, Or.inr rfl, Or.inr rfl, Or.inl rfl, trivial⟩ ?_
        obtain rfl := Option.some.inj hF
        exact K1
      · rw [if_pos c9] at hF
        refine z_iload rfl rfl ?_
        refine z_aload rfl rfl rfl ?_
        refine z_geti rfl rfl rfl rfl ?_
        refine z_ivs1 (d' := d - 1) (As := [.inl x1, .inl (h 67 10)]) rfl rfl (zf_Reader_joins (by omega) _ _) rfl (by omega) rfl (fun r10 h11 hR12 hQ13 => ?_)
        obtain ⟨rfl, rfl⟩ := hQ13
        refine z_zeq rfl (fun c14 => ?_) (fun c14 => ?_)
        · rw [if_pos c14] at hF
          refine zsubL (L' := [zJk, zJk, zJk, zJk, zJk]) ⟨Or.inr rfl, Or.inr rfl, Or.inr rfl, Or.inr rfl, Or.inl rfl, trivial⟩ ?_
          obtain rfl := Option.some.inj hF
          exact K1
        · rw [if_neg c14] at hF
          refine z_aload rfl rfl rfl ?_
          refine z_geti rfl rfl rfl rfl ?_
          refine z_istore rfl rfl rfl ?_
          refine z_aload rfl rfl rfl ?_
          obtain ⟨h20, hc19, hF⟩ := zbind1 hF
          refine z_inv0 (d' := d - 1) (As := []) rfl rfl (zf_Reader_step (by omega) N hc19) rfl rfl rfl (by omega) rfl (fun r15 h16 hR17 hQ18 => ?_)
          obtain ⟨rfl, rfl⟩ := hQ18
          refine z_aload rfl rfl rfl ?_
          refine z_iload rfl rfl ?_
          refine z_const rfl ?_
          refine z_iadd rfl ?_
          refine z_iload rfl rfl ?_
          obtain ⟨r25, h26, hc27, hF⟩ := zbind2 hF
          refine z_inv0 (d' := d - 1) (As := [.inl (w32 (x1 + 1)), .inl x2]) rfl rfl (hrec 0 [w32 (x1 + 1), x2] _ _ _ hc27) rfl rfl rfl (by omega) rfl (fun r21 h22 hR23 hQ24 => ?_)
          obtain ⟨rfl, rfl⟩ := hQ24
          refine z_aload rfl rfl rfl ?_
          refine z_const rfl ?_
          refine z_iload rfl rfl ?_
          refine z_iadd rfl ?_
          refine z_inv0 (d' := d - 1) (As := [.inl (w32 (20000 + (h 67 10)))]) rfl rfl (zf_Reader_emit (by omega) _) rfl rfl rfl (by omega) rfl (fun r28 h29 hR30 hQ31 => ?_)
          obtain ⟨rfl, rfl⟩ := hQ31
          refine z_iinc rfl rfl rfl ?_
          refine z_goto rfl ?_
          refine zsubL (L' := [.inr (.inr 67), .inl x1, .inl x2, .inl (w32 (x3 + 1)), zJk]) ⟨Or.inl rfl, Or.inl rfl, Or.inl rfl, Or.inl rfl, Or.inr rfl, trivial⟩ ?_
          exact ih _ _ _ _ hF
set_option maxRecDepth 100000 in
set_option maxHeartbeats 4000000 in
theorem zw_Reader_readJoined {l : Launch} {E : zE} {d : Nat} (hd : 12 ≤ d) (N : Nat) {grec : Nat → List Int → zHp → Option (Int × zHp)} (hrec : zGh_GR l E (d - 1) grec) (x1 x2 : Int) {h : zHp} {Q : Int → zHp → Prop} {r0 : Int} {h0 : zHp} (hF : sh_b_Reader_readJoined N grec x1 x2 h = some (r0, h0)) (K : Q r0 h0) : zW l E d zm_Reader_readJoined 0 [.inr (.inr 67), .inl x1, .inl x2, zJk, zJk] [] h Q := by
  rw [sh_b_Reader_readJoined] at hF
  refine z_aload rfl rfl rfl ?_
  refine z_iload rfl rfl ?_
  refine z_const rfl ?_
  refine z_iadd rfl ?_
  refine z_iload rfl rfl ?_
  obtain ⟨r5, h6, hc7, hF⟩ := zbind2 hF
  refine z_inv0 (d' := d - 1) (As := [.inl (w32 (x1 + 1)), .inl x2]) rfl rfl (hrec 0 [w32 (x1 + 1), x2] _ _ _ hc7) rfl rfl rfl (by omega) rfl (fun r1 h2 hR3 hQ4 => ?_)
  obtain ⟨rfl, rfl⟩ := hQ4
  refine z_const rfl ?_
  refine z_istore rfl rfl rfl ?_
  obtain ⟨h33, hL32, hF⟩ := zbind1 hF
  refine zl_Reader_readJoined_L8 (by omega) N hrec ?_ N _ _ _ _ hL32
  obtain ⟨rfl, rfl⟩ := zinj2 hF
  exact z_ret rfl rfl rfl K
set_option maxRecDepth 100000 in
theorem zf_b_Reader_readJoined {l : Launch} {E : zE} {d : Nat} (hd : 12 ≤ d) (N : Nat) {grec : Nat → List Int → zHp → Option (Int × zHp)} (hrec : zGh_GR l E (d - 1) grec) (x1 x2 : Int) {h : zHp} {r0 : Int} {h0 : zHp} (hF : sh_b_Reader_readJoined N grec x1 x2 h = some (r0, h0)) : zC l E d zm_Reader_readJoined [.inr (.inr 67), .inl x1, .inl x2] h (fun r1 h1 => r0 = r1 ∧ h0 = h1) :=
  zC_of zk_Reader_readJoined (by decide) rfl rfl (Nat.le_of_ble_eq_true rfl) (zw_Reader_readJoined hd N hrec _ _ hF ⟨rfl, rfl⟩)
def sh_b_Reader_readAsk (N : Nat) (grec : Nat → List Int → zHp → Option (Int × zHp)) (x1 : Int) (h : zHp) : Option (Int × zHp) := (if h 67 10 = 18 then zb2 (grec 4 [2, x1] h) fun r44 h45 => some (0, sh_Reader_emit 20018 h45) else zb2 (grec 0 [3, x1] h) fun r6 h7 => if h7 67 2 = 0 then (if sh_Reader_isComparison (h7 67 10) = 0 then some (0, sh_Reader_fail 1 h7) else zb1 (sh_Reader_step N h7) fun h24 => zb2 (grec 0 [3, x1] h24) fun r29 h30 => some (0, sh_Reader_emit (w32 (20000 + (h7 67 10))) h30)) else some (0, sh_Reader_fail 1 h7))
set_option maxRecDepth 100000 in
set_option maxHeartbeats 4000000 in
theorem zw_Reader_readAsk {l : Launch} {E : zE} {d : Nat} (hd : 12 ≤ d) (N : Nat) {grec : Nat → List Int → zHp → Option (Int × zHp)} (hrec : zGh_GR l E (d - 1) grec) (x1 : Int) {h : zHp} {Q : Int → zHp → Prop} {r0 : Int} {h0 : zHp} (hF : sh_b_Reader_readAsk N grec x1 h = some (r0, h0)) (K : Q r0 h0) : zW l E d zm_Reader_readAsk 0 [.inr (.inr 67), .inl x1, zJk] [] h Q := by
  rw [sh_b_Reader_readAsk] at hF
  refine z_aload rfl rfl rfl ?_
  refine z_geti rfl rfl rfl rfl ?_
  refine z_const rfl ?_
  refine z_cne rfl (fun c1 => ?_) (fun c1 => ?_)
  · rw [if_neg c1] at hF
    refine z_aload rfl rfl rfl ?_
    refine z_const rfl ?_
    refine z_iload rfl rfl ?_
    obtain ⟨r6, h7, hc8, hF⟩ := zbind2 hF
    refine z_inv0 (d' := d - 1) (As := [.inl 3, .inl x1]) rfl rfl (hrec 0 [3, x1] _ _ _ hc8) rfl rfl rfl (by omega) rfl (fun r2 h3 hR4 hQ5 => ?_)
    obtain ⟨rfl, rfl⟩ := hQ5
    refine z_aload rfl rfl rfl ?_
    refine z_geti rfl rfl rfl rfl ?_
    refine z_istore rfl rfl rfl ?_
    refine z_aload rfl rfl rfl ?_
    refine z_geti rfl rfl rfl rfl ?_
    refine z_zne rfl (fun c9 => ?_) (fun c9 => ?_)
    · rw [if_neg c9] at hF
      refine z_aload rfl rfl rfl ?_
      refine z_const rfl ?_
      refine z_inv0 (d' := d - 1) (As := [.inl 1]) rfl rfl (zf_Reader_fail (by omega) _) rfl rfl rfl (by omega) rfl (fun r10 h11 hR12 hQ13 => ?_)
      obtain ⟨rfl, rfl⟩ := hQ13
      obtain ⟨rfl, rfl⟩ := zinj2 hF
      exact z_ret rfl rfl rfl K
    · rw [if_pos c9] at hF
      refine z_iload rfl rfl ?_
      refine z_ivs1 (d' := d - 1) (As := [.inl (h7 67 10)]) rfl rfl (zf_Reader_isComparison (by omega) _) rfl (by omega) rfl (fun r14 h15 hR16 hQ17 => ?_)
      obtain ⟨rfl, rfl⟩ := hQ17
      refine z_zne rfl (fun c18 => ?_) (fun c18 => ?_)
      · rw [if_neg c18] at hF
        refine z_aload rfl rfl rfl ?_
        obtain ⟨h24, hc23, hF⟩ := zbind1 hF
        refine z_inv0 (d' := d - 1) (As := []) rfl rfl (zf_Reader_step (by omega) N hc23) rfl rfl rfl (by omega) rfl (fun r19 h20 hR21 hQ22 => ?_)
        obtain ⟨rfl, rfl⟩ := hQ22
        refine z_aload rfl rfl rfl ?_
        refine z_const rfl ?_
        refine z_iload rfl rfl ?_
        obtain ⟨r29, h30, hc31, hF⟩ := zbind2 hF
        refine z_inv0 (d' := d - 1) (As := [.inl 3, .inl x1]) rfl rfl (hrec 0 [3, x1] _ _ _ hc31) rfl rfl rfl (by omega) rfl (fun r25 h26 hR27 hQ28 => ?_)
        obtain ⟨rfl, rfl⟩ := hQ28
        refine z_aload rfl rfl rfl ?_
        refine z_const rfl ?_
        refine z_iload rfl rfl ?_
        refine z_iadd rfl ?_
        refine z_inv0 (d' := d - 1) (As := [.inl (w32 (20000 + (h7 67 10)))]) rfl rfl (zf_Reader_emit (by omega) _) rfl rfl rfl (by omega) rfl (fun r32 h33 hR34 hQ35 => ?_)
        obtain ⟨rfl, rfl⟩ := hQ35
        obtain ⟨rfl, rfl⟩ := zinj2 hF
        exact z_ret rfl rfl rfl K
      · rw [if_pos c18] at hF
        refine z_aload rfl rfl rfl ?_
        refine z_const rfl ?_
        refine z_inv0 (d' := d - 1) (As := [.inl 1]) rfl rfl (zf_Reader_fail (by omega) _) rfl rfl rfl (by omega) rfl (fun r36 h37 hR38 hQ39 => ?_)
        obtain ⟨rfl, rfl⟩ := hQ39
        obtain ⟨rfl, rfl⟩ := zinj2 hF
        exact z_ret rfl rfl rfl K
  · rw [if_pos c1] at hF
    refine z_aload rfl rfl rfl ?_
    refine z_const rfl ?_
    refine z_iload rfl rfl ?_
    obtain ⟨r44, h45, hc46, hF⟩ := zbind2 hF
    refine z_inv0 (d' := d - 1) (As := [.inl 2, .inl x1]) rfl rfl (hrec 4 [2, x1] _ _ _ hc46) rfl rfl rfl (by omega) rfl (fun r40 h41 hR42 hQ43 => ?_)
    obtain ⟨rfl, rfl⟩ := hQ43
    refine z_aload rfl rfl rfl ?_
    refine z_const rfl ?_
    refine z_inv0 (d' := d - 1) (As := [.inl 20018]) rfl rfl (zf_Reader_emit (by omega) _) rfl rfl rfl (by omega) rfl (fun r47 h48 hR49 hQ50 => ?_)
    obtain ⟨rfl, rfl⟩ := hQ50
    obtain ⟨rfl, rfl⟩ := zinj2 hF
    exact z_ret rfl rfl rfl K
set_option maxRecDepth 100000 in
theorem zf_b_Reader_readAsk {l : Launch} {E : zE} {d : Nat} (hd : 12 ≤ d) (N : Nat) {grec : Nat → List Int → zHp → Option (Int × zHp)} (hrec : zGh_GR l E (d - 1) grec) (x1 : Int) {h : zHp} {r0 : Int} {h0 : zHp} (hF : sh_b_Reader_readAsk N grec x1 h = some (r0, h0)) : zC l E d zm_Reader_readAsk [.inr (.inr 67), .inl x1] h (fun r1 h1 => r0 = r1 ∧ h0 = h1) :=
  zC_of zk_Reader_readAsk (by decide) rfl rfl (Nat.le_of_ble_eq_true rfl) (zw_Reader_readAsk hd N hrec _ hF ⟨rfl, rfl⟩)
def sh_b_Reader_readOne (N : Nat) (grec : Nat → List Int → zHp → Option (Int × zHp)) (x1 : Int) (h : zHp) : Option (Int × zHp) := (if h 67 10 = 34 then zb1 (sh_Reader_readNumber N h) fun h91 => some (0, h91) else (if h 67 10 < 0 then (if h 67 10 = 25 then zb2 (grec 4 [5, x1] h) fun r36 h37 => some (0, sh_Reader_emit 20033 h37) else (if h 67 10 = 28 then zb2 (grec 4 [3, x1] h) fun r23 h24 => zb1 (sh_Reader_close N h24) fun h31 => some (0, h31) else some (0, sh_Reader_fail 1 h))) else (if 11 ≤ h 67 10 then (if h 67 10 = 25 then zb2 (grec 4 [5, x1] h) fun r73 h74 => some (0, sh_Reader_emit 20033 h74) else (if h 67 10 = 28 then zb2 (grec 4 [3, x1] h) fun r60 h61 => zb1 (sh_Reader_close N h61) fun h68 => some (0, h68) else some (0, sh_Reader_fail 1 h))) else zb1 (sh_Reader_readName N h) fun h85 => some (0, h85))))
set_option maxRecDepth 100000 in
set_option maxHeartbeats 4000000 in
theorem zw_Reader_readOne {l : Launch} {E : zE} {d : Nat} (hd : 12 ≤ d) (N : Nat) {grec : Nat → List Int → zHp → Option (Int × zHp)} (hrec : zGh_GR l E (d - 1) grec) (x1 : Int) {h : zHp} {Q : Int → zHp → Prop} {r0 : Int} {h0 : zHp} (hF : sh_b_Reader_readOne N grec x1 h = some (r0, h0)) (K : Q r0 h0) : zW l E d zm_Reader_readOne 0 [.inr (.inr 67), .inl x1] [] h Q := by
  rw [sh_b_Reader_readOne] at hF
  refine z_aload rfl rfl rfl ?_
  refine z_geti rfl rfl rfl rfl ?_
  refine z_const rfl ?_
  refine z_cne rfl (fun c5 => ?_) (fun c5 => ?_)
  · rw [if_neg c5] at hF
    refine z_aload rfl rfl rfl ?_
    refine z_geti rfl rfl rfl rfl ?_
    refine z_zlt rfl (fun c9 => ?_) (fun c9 => ?_)
    · rw [if_pos c9] at hF
      refine z_aload rfl rfl rfl ?_
      refine z_geti rfl rfl rfl rfl ?_
      refine z_const rfl ?_
      refine z_cne rfl (fun c12 => ?_) (fun c12 => ?_)
      · rw [if_neg c12] at hF
        refine z_aload rfl rfl rfl ?_
        refine z_geti rfl rfl rfl rfl ?_
        refine z_const rfl ?_
        refine z_cne rfl (fun c14 => ?_) (fun c14 => ?_)
        · rw [if_neg c14] at hF
          refine z_aload rfl rfl rfl ?_
          refine z_const rfl ?_
          refine z_inv0 (d' := d - 1) (As := [.inl 1]) rfl rfl (zf_Reader_fail (by omega) _) rfl rfl rfl (by omega) rfl (fun r15 h16 hR17 hQ18 => ?_)
          obtain ⟨rfl, rfl⟩ := hQ18
          obtain ⟨rfl, rfl⟩ := zinj2 hF
          exact z_ret rfl rfl rfl K
        · rw [if_pos c14] at hF
          refine z_aload rfl rfl rfl ?_
          refine z_const rfl ?_
          refine z_iload rfl rfl ?_
          obtain ⟨r23, h24, hc25, hF⟩ := zbind2 hF
          refine z_inv0 (d' := d - 1) (As := [.inl 3, .inl x1]) rfl rfl (hrec 4 [3, x1] _ _ _ hc25) rfl rfl rfl (by omega) rfl (fun r19 h20 hR21 hQ22 => ?_)
          obtain ⟨rfl, rfl⟩ := hQ22
          refine z_aload rfl rfl rfl ?_
          obtain ⟨h31, hc30, hF⟩ := zbind1 hF
          refine z_inv0 (d' := d - 1) (As := []) rfl rfl (zf_Reader_close (by omega) N hc30) rfl rfl rfl (by omega) rfl (fun r26 h27 hR28 hQ29 => ?_)
          obtain ⟨rfl, rfl⟩ := hQ29
          refine z_goto rfl ?_
          obtain ⟨rfl, rfl⟩ := zinj2 hF
          exact z_ret rfl rfl rfl K
      · rw [if_pos c12] at hF
        refine z_aload rfl rfl rfl ?_
        refine z_const rfl ?_
        refine z_iload rfl rfl ?_
        obtain ⟨r36, h37, hc38, hF⟩ := zbind2 hF
        refine z_inv0 (d' := d - 1) (As := [.inl 5, .inl x1]) rfl rfl (hrec 4 [5, x1] _ _ _ hc38) rfl rfl rfl (by omega) rfl (fun r32 h33 hR34 hQ35 => ?_)
        obtain ⟨rfl, rfl⟩ := hQ35
        refine z_aload rfl rfl rfl ?_
        refine z_const rfl ?_
        refine z_inv0 (d' := d - 1) (As := [.inl 20033]) rfl rfl (zf_Reader_emit (by omega) _) rfl rfl rfl (by omega) rfl (fun r39 h40 hR41 hQ42 => ?_)
        obtain ⟨rfl, rfl⟩ := hQ42
        refine z_goto rfl ?_
        obtain ⟨rfl, rfl⟩ := zinj2 hF
        exact z_ret rfl rfl rfl K
    · rw [if_neg c9] at hF
      refine z_aload rfl rfl rfl ?_
      refine z_geti rfl rfl rfl rfl ?_
      refine z_const rfl ?_
      refine z_cge rfl (fun c46 => ?_) (fun c46 => ?_)
      · rw [if_pos c46] at hF
        refine z_aload rfl rfl rfl ?_
        refine z_geti rfl rfl rfl rfl ?_
        refine z_const rfl ?_
        refine z_cne rfl (fun c49 => ?_) (fun c49 => ?_)
        · rw [if_neg c49] at hF
          refine z_aload rfl rfl rfl ?_
          refine z_geti rfl rfl rfl rfl ?_
          refine z_const rfl ?_
          refine z_cne rfl (fun c51 => ?_) (fun c51 => ?_)
          · rw [if_neg c51] at hF
            refine z_aload rfl rfl rfl ?_
            refine z_const rfl ?_
            refine z_inv0 (d' := d - 1) (As := [.inl 1]) rfl rfl (zf_Reader_fail (by omega) _) rfl rfl rfl (by omega) rfl (fun r52 h53 hR54 hQ55 => ?_)
            obtain ⟨rfl, rfl⟩ := hQ55
            obtain ⟨rfl, rfl⟩ := zinj2 hF
            exact z_ret rfl rfl rfl K
          · rw [if_pos c51] at hF
            refine z_aload rfl rfl rfl ?_
            refine z_const rfl ?_
            refine z_iload rfl rfl ?_
            obtain ⟨r60, h61, hc62, hF⟩ := zbind2 hF
            refine z_inv0 (d' := d - 1) (As := [.inl 3, .inl x1]) rfl rfl (hrec 4 [3, x1] _ _ _ hc62) rfl rfl rfl (by omega) rfl (fun r56 h57 hR58 hQ59 => ?_)
            obtain ⟨rfl, rfl⟩ := hQ59
            refine z_aload rfl rfl rfl ?_
            obtain ⟨h68, hc67, hF⟩ := zbind1 hF
            refine z_inv0 (d' := d - 1) (As := []) rfl rfl (zf_Reader_close (by omega) N hc67) rfl rfl rfl (by omega) rfl (fun r63 h64 hR65 hQ66 => ?_)
            obtain ⟨rfl, rfl⟩ := hQ66
            refine z_goto rfl ?_
            obtain ⟨rfl, rfl⟩ := zinj2 hF
            exact z_ret rfl rfl rfl K
        · rw [if_pos c49] at hF
          refine z_aload rfl rfl rfl ?_
          refine z_const rfl ?_
          refine z_iload rfl rfl ?_
          obtain ⟨r73, h74, hc75, hF⟩ := zbind2 hF
          refine z_inv0 (d' := d - 1) (As := [.inl 5, .inl x1]) rfl rfl (hrec 4 [5, x1] _ _ _ hc75) rfl rfl rfl (by omega) rfl (fun r69 h70 hR71 hQ72 => ?_)
          obtain ⟨rfl, rfl⟩ := hQ72
          refine z_aload rfl rfl rfl ?_
          refine z_const rfl ?_
          refine z_inv0 (d' := d - 1) (As := [.inl 20033]) rfl rfl (zf_Reader_emit (by omega) _) rfl rfl rfl (by omega) rfl (fun r76 h77 hR78 hQ79 => ?_)
          obtain ⟨rfl, rfl⟩ := hQ79
          refine z_goto rfl ?_
          obtain ⟨rfl, rfl⟩ := zinj2 hF
          exact z_ret rfl rfl rfl K
      · rw [if_neg c46] at hF
        refine z_aload rfl rfl rfl ?_
        obtain ⟨h85, hc84, hF⟩ := zbind1 hF
        refine z_inv0 (d' := d - 1) (As := []) rfl rfl (zf_Reader_readName (by omega) N hc84) rfl rfl rfl (by omega) rfl (fun r80 h81 hR82 hQ83 => ?_)
        obtain ⟨rfl, rfl⟩ := hQ83
        refine z_goto rfl ?_
        obtain ⟨rfl, rfl⟩ := zinj2 hF
        exact z_ret rfl rfl rfl K
  · rw [if_pos c5] at hF
    refine z_aload rfl rfl rfl ?_
    obtain ⟨h91, hc90, hF⟩ := zbind1 hF
    refine z_inv0 (d' := d - 1) (As := []) rfl rfl (zf_Reader_readNumber (by omega) N hc90) rfl rfl rfl (by omega) rfl (fun r86 h87 hR88 hQ89 => ?_)
    obtain ⟨rfl, rfl⟩ := hQ89
    refine z_goto rfl ?_
    obtain ⟨rfl, rfl⟩ := zinj2 hF
    exact z_ret rfl rfl rfl K
set_option maxRecDepth 100000 in
theorem zf_b_Reader_readOne {l : Launch} {E : zE} {d : Nat} (hd : 12 ≤ d) (N : Nat) {grec : Nat → List Int → zHp → Option (Int × zHp)} (hrec : zGh_GR l E (d - 1) grec) (x1 : Int) {h : zHp} {r0 : Int} {h0 : zHp} (hF : sh_b_Reader_readOne N grec x1 h = some (r0, h0)) : zC l E d zm_Reader_readOne [.inr (.inr 67), .inl x1] h (fun r1 h1 => r0 = r1 ∧ h0 = h1) :=
  zC_of zk_Reader_readOne (by decide) rfl rfl (Nat.le_of_ble_eq_true rfl) (zw_Reader_readOne hd N hrec _ hF ⟨rfl, rfl⟩)
def sh_b_Reader_readOpened (N : Nat) (grec : Nat → List Int → zHp → Option (Int × zHp)) (x1 x2 : Int) (h : zHp) : Option (Int × zHp) := (if x2 < 8 then zb1 (sh_Reader_step N h) fun h7 => zb2 (grec 0 [x1, w32 (x2 + 1)] h7) fun r12 h13 => some (0, h13) else some (0, sh_Reader_fail 3 h))
set_option maxRecDepth 100000 in
set_option maxHeartbeats 4000000 in
theorem zw_Reader_readOpened {l : Launch} {E : zE} {d : Nat} (hd : 12 ≤ d) (N : Nat) {grec : Nat → List Int → zHp → Option (Int × zHp)} (hrec : zGh_GR l E (d - 1) grec) (x1 x2 : Int) {h : zHp} {Q : Int → zHp → Prop} {r0 : Int} {h0 : zHp} (hF : sh_b_Reader_readOpened N grec x1 x2 h = some (r0, h0)) (K : Q r0 h0) : zW l E d zm_Reader_readOpened 0 [.inr (.inr 67), .inl x1, .inl x2] [] h Q := by
  rw [sh_b_Reader_readOpened] at hF
  refine z_iload rfl rfl ?_
  refine z_const rfl ?_
  refine z_clt rfl (fun c1 => ?_) (fun c1 => ?_)
  · rw [if_pos c1] at hF
    refine z_aload rfl rfl rfl ?_
    obtain ⟨h7, hc6, hF⟩ := zbind1 hF
    refine z_inv0 (d' := d - 1) (As := []) rfl rfl (zf_Reader_step (by omega) N hc6) rfl rfl rfl (by omega) rfl (fun r2 h3 hR4 hQ5 => ?_)
    obtain ⟨rfl, rfl⟩ := hQ5
    refine z_aload rfl rfl rfl ?_
    refine z_iload rfl rfl ?_
    refine z_iload rfl rfl ?_
    refine z_const rfl ?_
    refine z_iadd rfl ?_
    obtain ⟨r12, h13, hc14, hF⟩ := zbind2 hF
    refine z_inv0 (d' := d - 1) (As := [.inl x1, .inl (w32 (x2 + 1))]) rfl rfl (hrec 0 [x1, w32 (x2 + 1)] _ _ _ hc14) rfl rfl rfl (by omega) rfl (fun r8 h9 hR10 hQ11 => ?_)
    obtain ⟨rfl, rfl⟩ := hQ11
    obtain ⟨rfl, rfl⟩ := zinj2 hF
    exact z_ret rfl rfl rfl K
  · rw [if_neg c1] at hF
    refine z_aload rfl rfl rfl ?_
    refine z_const rfl ?_
    refine z_inv0 (d' := d - 1) (As := [.inl 3]) rfl rfl (zf_Reader_fail (by omega) _) rfl rfl rfl (by omega) rfl (fun r15 h16 hR17 hQ18 => ?_)
    obtain ⟨rfl, rfl⟩ := hQ18
    obtain ⟨rfl, rfl⟩ := zinj2 hF
    exact z_ret rfl rfl rfl K
set_option maxRecDepth 100000 in
theorem zf_b_Reader_readOpened {l : Launch} {E : zE} {d : Nat} (hd : 12 ≤ d) (N : Nat) {grec : Nat → List Int → zHp → Option (Int × zHp)} (hrec : zGh_GR l E (d - 1) grec) (x1 x2 : Int) {h : zHp} {r0 : Int} {h0 : zHp} (hF : sh_b_Reader_readOpened N grec x1 x2 h = some (r0, h0)) : zC l E d zm_Reader_readOpened [.inr (.inr 67), .inl x1, .inl x2] h (fun r1 h1 => r0 = r1 ∧ h0 = h1) :=
  zC_of zk_Reader_readOpened (by decide) rfl rfl (Nat.le_of_ble_eq_true rfl) (zw_Reader_readOpened hd N hrec _ _ hF ⟨rfl, rfl⟩)
def sh_GR (N : Nat) : Nat → Nat → List Int → zHp → Option (Int × zHp)
  | 0, _, _, _ => none
  | k + 1, 0, [x1, x2], h => sh_b_Reader_readRank N (sh_GR N k) x1 x2 h
  | k + 1, 1, [x1, x2], h => sh_b_Reader_readJoined N (sh_GR N k) x1 x2 h
  | k + 1, 2, [x1], h => sh_b_Reader_readAsk N (sh_GR N k) x1 h
  | k + 1, 3, [x1], h => sh_b_Reader_readOne N (sh_GR N k) x1 h
  | k + 1, 4, [x1, x2], h => sh_b_Reader_readOpened N (sh_GR N k) x1 x2 h
  | _ + 1, _, _, _ => none
set_option maxRecDepth 100000 in
theorem zg_GR {l : Launch} {E : zE} (N : Nat) : ∀ (k d : Nat), 12 + k ≤ d → ∀ (sel : Nat) (as : List Int) (h : zHp) (r : Int) (h1 : zHp), sh_GR N k sel as h = some (r, h1) → zG_GR l E d sel as h (fun r2 h2 => r = r2 ∧ h1 = h2) := by
  intro k
  induction k with
  | zero => intro d hd sel as h r h1 hF; cases (show (none : Option (Int × zHp)) = some (r, h1) from hF)
  | succ k ih =>
    intro d hd sel as h r h1 hF
    have hrec : zGh_GR l E (d - 1) (sh_GR N k) := fun sel as h r h1 q => ih (d - 1) (by omega) sel as h r h1 q
    match sel, as, hF with
    | 0, [], hF => cases (show (none : Option (Int × zHp)) = some (r, h1) from hF)
    | 0, [_], hF => cases (show (none : Option (Int × zHp)) = some (r, h1) from hF)
    | 0, [x1, x2], hF => exact zf_b_Reader_readRank (by omega) N hrec _ _ hF
    | 0, _ :: _ :: _ :: _, hF => cases (show (none : Option (Int × zHp)) = some (r, h1) from hF)
    | 1, [], hF => cases (show (none : Option (Int × zHp)) = some (r, h1) from hF)
    | 1, [_], hF => cases (show (none : Option (Int × zHp)) = some (r, h1) from hF)
    | 1, [x1, x2], hF => exact zf_b_Reader_readJoined (by omega) N hrec _ _ hF
    | 1, _ :: _ :: _ :: _, hF => cases (show (none : Option (Int × zHp)) = some (r, h1) from hF)
    | 2, [], hF => cases (show (none : Option (Int × zHp)) = some (r, h1) from hF)
    | 2, [x1], hF => exact zf_b_Reader_readAsk (by omega) N hrec _ hF
    | 2, _ :: _ :: _, hF => cases (show (none : Option (Int × zHp)) = some (r, h1) from hF)
    | 3, [], hF => cases (show (none : Option (Int × zHp)) = some (r, h1) from hF)
    | 3, [x1], hF => exact zf_b_Reader_readOne (by omega) N hrec _ hF
    | 3, _ :: _ :: _, hF => cases (show (none : Option (Int × zHp)) = some (r, h1) from hF)
    | 4, [], hF => cases (show (none : Option (Int × zHp)) = some (r, h1) from hF)
    | 4, [_], hF => cases (show (none : Option (Int × zHp)) = some (r, h1) from hF)
    | 4, [x1, x2], hF => exact zf_b_Reader_readOpened (by omega) N hrec _ _ hF
    | 4, _ :: _ :: _ :: _, hF => cases (show (none : Option (Int × zHp)) = some (r, h1) from hF)
    | _ + 5, _, hF => cases (show (none : Option (Int × zHp)) = some (r, h1) from hF)
def sh_Reader_readRank (N : Nat) (x1 x2 : Int) (h : zHp) : Option (Int × zHp) := sh_GR N 100 0 [x1, x2] h
theorem zf_Reader_readRank {l : Launch} {E : zE} {d : Nat} (hd : 112 ≤ d) (N : Nat) (x1 x2 : Int) {h : zHp} {r0 : Int} {h0 : zHp} (hF : sh_Reader_readRank N x1 x2 h = some (r0, h0)) : zC l E d zm_Reader_readRank [.inr (.inr 67), .inl x1, .inl x2] h (fun r1 h1 => r0 = r1 ∧ h0 = h1) := zg_GR N 100 d (by omega) 0 [x1, x2] h r0 h0 hF
def sh_Reader_readJoined (N : Nat) (x1 x2 : Int) (h : zHp) : Option (Int × zHp) := sh_GR N 100 1 [x1, x2] h
theorem zf_Reader_readJoined {l : Launch} {E : zE} {d : Nat} (hd : 112 ≤ d) (N : Nat) (x1 x2 : Int) {h : zHp} {r0 : Int} {h0 : zHp} (hF : sh_Reader_readJoined N x1 x2 h = some (r0, h0)) : zC l E d zm_Reader_readJoined [.inr (.inr 67), .inl x1, .inl x2] h (fun r1 h1 => r0 = r1 ∧ h0 = h1) := zg_GR N 100 d (by omega) 1 [x1, x2] h r0 h0 hF
def sh_Reader_readAsk (N : Nat) (x1 : Int) (h : zHp) : Option (Int × zHp) := sh_GR N 100 2 [x1] h
theorem zf_Reader_readAsk {l : Launch} {E : zE} {d : Nat} (hd : 112 ≤ d) (N : Nat) (x1 : Int) {h : zHp} {r0 : Int} {h0 : zHp} (hF : sh_Reader_readAsk N x1 h = some (r0, h0)) : zC l E d zm_Reader_readAsk [.inr (.inr 67), .inl x1] h (fun r1 h1 => r0 = r1 ∧ h0 = h1) := zg_GR N 100 d (by omega) 2 [x1] h r0 h0 hF
def sh_Reader_readOne (N : Nat) (x1 : Int) (h : zHp) : Option (Int × zHp) := sh_GR N 100 3 [x1] h
theorem zf_Reader_readOne {l : Launch} {E : zE} {d : Nat} (hd : 112 ≤ d) (N : Nat) (x1 : Int) {h : zHp} {r0 : Int} {h0 : zHp} (hF : sh_Reader_readOne N x1 h = some (r0, h0)) : zC l E d zm_Reader_readOne [.inr (.inr 67), .inl x1] h (fun r1 h1 => r0 = r1 ∧ h0 = h1) := zg_GR N 100 d (by omega) 3 [x1] h r0 h0 hF
def sh_Reader_readOpened (N : Nat) (x1 x2 : Int) (h : zHp) : Option (Int × zHp) := sh_GR N 100 4 [x1, x2] h
theorem zf_Reader_readOpened {l : Launch} {E : zE} {d : Nat} (hd : 112 ≤ d) (N : Nat) (x1 x2 : Int) {h : zHp} {r0 : Int} {h0 : zHp} (hF : sh_Reader_readOpened N x1 x2 h = some (r0, h0)) : zC l E d zm_Reader_readOpened [.inr (.inr 67), .inl x1, .inl x2] h (fun r1 h1 => r0 = r1 ∧ h0 = h1) := zg_GR N 100 d (by omega) 4 [x1, x2] h r0 h0 hF
def sh_Herd_fields_14 (h : zHp) : Int := rget h 16 71 1
set_option maxRecDepth 100000 in
set_option maxHeartbeats 4000000 in
theorem zw_Herd_fields_14 {l : Launch} {E : zE} {d : Nat} (hd : 2 ≤ d) {h : zHp} {Q : Int → zHp → Prop} {r0 : Int} (hF : sh_Herd_fields_14 h = r0) (K : Q r0 h) : zW l E d zm_Herd_fields 0 [.inr (.inr 14)] [] h Q := by
  rw [sh_Herd_fields_14] at hF
  refine z_aload rfl rfl rfl ?_
  refine z_getr (r := 15) rfl rfl rfl rfl ?_
  refine z_const rfl ?_
  refine z_inv1 (d' := d - 1) (As := [.inl 1]) rfl rfl (zf_Row_get (r := 15) (a := 16) (n := 71) rfl rfl _) rfl rfl rfl (by omega) rfl (fun r1 h2 hR3 hQ4 => ?_)
  obtain ⟨rfl, rfl⟩ := hQ4
  subst hF
  exact z_iret rfl rfl K
set_option maxRecDepth 100000 in
theorem zf_Herd_fields_14 {l : Launch} {E : zE} {d : Nat} (hd : 2 ≤ d) {h : zHp} : zC l E d zm_Herd_fields [.inr (.inr 14)] h (fun r1 h1 => sh_Herd_fields_14 h = r1 ∧ h = h1) :=
  zC_of zk_Herd_fields (by decide) rfl rfl (Nat.le_of_ble_eq_true rfl) (zw_Herd_fields_14 hd rfl ⟨rfl, rfl⟩)
def sh_Herd_oxen_14 (h : zHp) : Int := rget h 16 71 2
set_option maxRecDepth 100000 in
set_option maxHeartbeats 4000000 in
theorem zw_Herd_oxen_14 {l : Launch} {E : zE} {d : Nat} (hd : 2 ≤ d) {h : zHp} {Q : Int → zHp → Prop} {r0 : Int} (hF : sh_Herd_oxen_14 h = r0) (K : Q r0 h) : zW l E d zm_Herd_oxen 0 [.inr (.inr 14)] [] h Q := by
  rw [sh_Herd_oxen_14] at hF
  refine z_aload rfl rfl rfl ?_
  refine z_getr (r := 15) rfl rfl rfl rfl ?_
  refine z_const rfl ?_
  refine z_inv1 (d' := d - 1) (As := [.inl 2]) rfl rfl (zf_Row_get (r := 15) (a := 16) (n := 71) rfl rfl _) rfl rfl rfl (by omega) rfl (fun r1 h2 hR3 hQ4 => ?_)
  obtain ⟨rfl, rfl⟩ := hQ4
  subst hF
  exact z_iret rfl rfl K
set_option maxRecDepth 100000 in
theorem zf_Herd_oxen_14 {l : Launch} {E : zE} {d : Nat} (hd : 2 ≤ d) {h : zHp} : zC l E d zm_Herd_oxen [.inr (.inr 14)] h (fun r1 h1 => sh_Herd_oxen_14 h = r1 ∧ h = h1) :=
  zC_of zk_Herd_oxen (by decide) rfl rfl (Nat.le_of_ble_eq_true rfl) (zw_Herd_oxen_14 hd rfl ⟨rfl, rfl⟩)
/-- the group GP: its contract by number -/
def zG_GP (l : Launch) (E : zE) (d : Nat) : Nat → List Int → zHp → (Int → zHp → Prop) → Prop
  | 0, [x1, x2], h, Q => zC l E d zm_Planner_yieldFrom [.inr (.inr 68), .inl x1, .inl x2] h Q
  | 1, [x1, x2, x3, x4], h, Q => zC l E d zm_Planner_tryPair [.inr (.inr 68), .inl x1, .inl x2, .inl x3, .inl x4] h Q
  | _, _, _, _ => True
def zGh_GP (l : Launch) (E : zE) (d : Nat) (grec : Nat → List Int → zHp → Option (Int × zHp)) : Prop := ∀ (sel : Nat) (as : List Int) (h : zHp) (r : Int) (h1 : zHp), grec sel as h = some (r, h1) → zG_GP l E d sel as h (fun r2 h2 => r = r2 ∧ h1 = h2)
def sh_Planner_yieldFrom_L50 (N : Nat) (grec : Nat → List Int → zHp → Option (Int × zHp)) : Nat → Int → Int → Int → Int → Int → zHp → Option (Int × Int × Int × Int × zHp)
  | 0, _, _, _, _, _, _ => none
  | n + 1, x1, x2, x3, x4, x5, h => (if sh_Herd_oxen_14 h ≤ x5 then some (x1, x2, x3, x4, h) else zb2 (grec 1 [x1, x2, x4, x5] h) fun r46 h47 => sh_Planner_yieldFrom_L50 N grec n x1 x2 x3 x4 (w32 (x5 + 1)) h47)
def sh_Planner_yieldFrom_L40 (N : Nat) (grec : Nat → List Int → zHp → Option (Int × zHp)) : Nat → Int → Int → Int → Int → zHp → Option (Int × zHp)
  | 0, _, _, _, _, _ => none
  | n + 1, x1, x2, x3, x4, h => (if sh_Herd_oxen_14 h ≤ x4 then some (x3, h) else zb5 (sh_Planner_yieldFrom_L50 N grec N x1 x2 x3 x4 (w32 (x4 + 1)) h) fun y50 y51 y52 y53 h54 => sh_Planner_yieldFrom_L40 N grec n y50 y51 y52 (w32 (y53 + 1)) h54)
def sh_b_Planner_yieldFrom (N : Nat) (grec : Nat → List Int → zHp → Option (Int × zHp)) (x1 x2 : Int) (h : zHp) : Option (Int × zHp) := (if sh_Herd_fields_14 h ≤ x1 then some (0, h) else (if x1 < 4 then (if rget h 72 1024 (w32 ((w32 (x1 * 256)) + x2)) = (-1) then zb2 (grec 0 [w32 (x1 + 1), x2] h) fun r21 h22 => zb2 (sh_Planner_yieldFrom_L40 N grec N x1 x2 (w32 ((w32 (x1 * 256)) + x2)) 0 (rput (rput h22 72 1024 (w32 ((w32 (x1 * 256)) + x2)) r21) 74 1024 (w32 ((w32 (x1 * 256)) + x2)) (-1))) fun y56 h57 => some (rget h57 72 1024 y56, h57) else some (rget h 72 1024 (w32 ((w32 (x1 * 256)) + x2)), h)) else some (0, h)))
set_option maxRecDepth 100000 in
set_option maxHeartbeats 4000000 in
theorem zl_Planner_yieldFrom_L50 {l : Launch} {E : zE} {d : Nat} (hd : 3 ≤ d) (N : Nat) {grec : Nat → List Int → zHp → Option (Int × zHp)} (hrec : zGh_GP l E (d - 1) grec) {Q : Int → zHp → Prop} {o1 o2 o3 o4 : Int} {oh : zHp} (K1 : zW l E d zm_Planner_yieldFrom 64 [.inr (.inr 68), .inl o1, .inl o2, .inl o3, .inl o4, zJk] [] oh Q) : ∀ (n : Nat) (x1 x2 x3 x4 x5 : Int) (h : zHp), sh_Planner_yieldFrom_L50 N grec n x1 x2 x3 x4 x5 h = some (o1, o2, o3, o4, oh) → zW l E d zm_Planner_yieldFrom 50 [.inr (.inr 68), .inl x1, .inl x2, .inl x3, .inl x4, .inl x5] [] h Q := by
  intro n
  induction n with
  | zero =>
    intro x1 x2 x3 x4 x5 h hF
    cases (show (none : Option (Int × Int × Int × Int × zHp)) = some (o1, o2, o3, o4, oh) from hF)
  | succ n ih =>
    intro x1 x2 x3 x4 x5 h hF
    rw [sh_Planner_yieldFrom_L50] at hF
    refine z_iload rfl rfl ?_
    refine z_aload rfl rfl rfl ?_
    refine z_getr (r := 1) rfl rfl rfl rfl ?_
    refine z_getr (r := 14) rfl rfl rfl rfl ?_
    refine z_inv1 (d' := d - 1) (As := []) rfl rfl (zf_Herd_oxen_14 (by omega)) rfl rfl rfl (by omega) rfl (fun r37 h38 hR39 hQ40 => ?_)
    obtain ⟨rfl, rfl⟩ := hQ40
    refine z_cge rfl (fun c41 => ?_) (fun c41 => ?_)
    · rw [if_pos c41] at hF
      refine zsubL (L' := [.inr (.inr 68), .inl x1, .inl x2, .inl x3, .inl x4, zJk]) ⟨Or.inl rfl, Or.inl rfl, Or.inl rfl, Or.inl rfl, Or.inl rfl, Or.inr rfl, trivial⟩ ?_
      obtain ⟨rfl, rfl, rfl, rfl, rfl⟩ := zinj5 hF
      exact K1
    · rw [if_neg c41] at hF
      refine z_aload rfl rfl rfl ?_
      refine z_iload rfl rfl ?_
      refine z_iload rfl rfl ?_
      refine z_iload rfl rfl ?_
      refine z_iload rfl rfl ?_
      obtain ⟨r46, h47, hc48, hF⟩ := zbind2 hF
      refine z_inv0 (d' := d - 1) (As := [.inl x1, .inl x2, .inl x4, .inl x5]) rfl rfl (hrec 1 [x1, x2, x4, x5] _ _ _ hc48) rfl rfl rfl (by omega) rfl (fun r42 h43 hR44 hQ45 => ?_)
      obtain ⟨rfl, rfl⟩ := hQ45
      refine z_iinc rfl rfl rfl ?_
      refine z_goto rfl ?_
      exact ih _ _ _ _ _ _ hF
set_option maxRecDepth 100000 in
set_option maxHeartbeats 4000000 in
theorem zl_Planner_yieldFrom_L40 {l : Launch} {E : zE} {d : Nat} (hd : 3 ≤ d) (N : Nat) {grec : Nat → List Int → zHp → Option (Int × zHp)} (hrec : zGh_GP l E (d - 1) grec) {Q : Int → zHp → Prop} {o3 : Int} {oh : zHp} (K1 : zW l E d zm_Planner_yieldFrom 66 [.inr (.inr 68), zJk, zJk, .inl o3, zJk, zJk] [] oh Q) : ∀ (n : Nat) (x1 x2 x3 x4 : Int) (h : zHp), sh_Planner_yieldFrom_L40 N grec n x1 x2 x3 x4 h = some (o3, oh) → zW l E d zm_Planner_yieldFrom 40 [.inr (.inr 68), .inl x1, .inl x2, .inl x3, .inl x4, zJk] [] h Q := by
  intro n
  induction n with
  | zero =>
    intro x1 x2 x3 x4 h hF
    cases (show (none : Option (Int × zHp)) = some (o3, oh) from hF)
  | succ n ih =>
    intro x1 x2 x3 x4 h hF
    rw [sh_Planner_yieldFrom_L40] at hF
    refine z_iload rfl rfl ?_
    refine z_aload rfl rfl rfl ?_
    refine z_getr (r := 1) rfl rfl rfl rfl ?_
    refine z_getr (r := 14) rfl rfl rfl rfl ?_
    refine z_inv1 (d' := d - 1) (As := []) rfl rfl (zf_Herd_oxen_14 (by omega)) rfl rfl rfl (by omega) rfl (fun r32 h33 hR34 hQ35 => ?_)
    obtain ⟨rfl, rfl⟩ := hQ35
    refine z_cge rfl (fun c36 => ?_) (fun c36 => ?_)
    · rw [if_pos c36] at hF
      refine zsubL (L' := [.inr (.inr 68), zJk, zJk, .inl x3, zJk, zJk]) ⟨Or.inl rfl, Or.inr rfl, Or.inr rfl, Or.inl rfl, Or.inr rfl, Or.inl rfl, trivial⟩ ?_
      obtain ⟨rfl, rfl⟩ := zinj2 hF
      exact K1
    · rw [if_neg c36] at hF
      refine z_iload rfl rfl ?_
      refine z_const rfl ?_
      refine z_iadd rfl ?_
      refine z_istore rfl rfl rfl ?_
      obtain ⟨y50, y51, y52, y53, h54, hL49, hF⟩ := zbind5 hF
      refine zl_Planner_yieldFrom_L50 (by omega) N hrec ?_ N _ _ _ _ _ _ hL49
      refine z_iinc rfl rfl rfl ?_
      refine z_goto rfl ?_
      exact ih _ _ _ _ _ hF
set_option maxRecDepth 100000 in
set_option maxHeartbeats 4000000 in
theorem zw_Planner_yieldFrom {l : Launch} {E : zE} {d : Nat} (hd : 3 ≤ d) (N : Nat) {grec : Nat → List Int → zHp → Option (Int × zHp)} (hrec : zGh_GP l E (d - 1) grec) (x1 x2 : Int) {h : zHp} {Q : Int → zHp → Prop} {r0 : Int} {h0 : zHp} (hF : sh_b_Planner_yieldFrom N grec x1 x2 h = some (r0, h0)) (K : Q r0 h0) : zW l E d zm_Planner_yieldFrom 0 [.inr (.inr 68), .inl x1, .inl x2, zJk, zJk, zJk] [] h Q := by
  rw [sh_b_Planner_yieldFrom] at hF
  refine z_iload rfl rfl ?_
  refine z_aload rfl rfl rfl ?_
  refine z_getr (r := 1) rfl rfl rfl rfl ?_
  refine z_getr (r := 14) rfl rfl rfl rfl ?_
  refine z_inv1 (d' := d - 1) (As := []) rfl rfl (zf_Herd_fields_14 (by omega)) rfl rfl rfl (by omega) rfl (fun r1 h2 hR3 hQ4 => ?_)
  obtain ⟨rfl, rfl⟩ := hQ4
  refine z_cge rfl (fun c5 => ?_) (fun c5 => ?_)
  · rw [if_pos c5] at hF
    refine z_const rfl ?_
    obtain ⟨rfl, rfl⟩ := zinj2 hF
    exact z_iret rfl rfl K
  · rw [if_neg c5] at hF
    refine z_iload rfl rfl ?_
    refine z_const rfl ?_
    refine z_clt rfl (fun c6 => ?_) (fun c6 => ?_)
    · rw [if_pos c6] at hF
      refine z_iload rfl rfl ?_
      refine z_const rfl ?_
      refine z_imul rfl ?_
      refine z_iload rfl rfl ?_
      refine z_iadd rfl ?_
      refine z_istore rfl rfl rfl ?_
      refine z_aload rfl rfl rfl ?_
      refine z_getr (r := 71) rfl rfl rfl rfl ?_
      refine z_iload rfl rfl ?_
      refine z_inv1 (d' := d - 1) (As := [.inl (w32 ((w32 (x1 * 256)) + x2))]) rfl rfl (zf_Row_get (r := 71) (a := 72) (n := 1024) rfl rfl _) rfl rfl rfl (by omega) rfl (fun r7 h8 hR9 hQ10 => ?_)
      obtain ⟨rfl, rfl⟩ := hQ10
      refine z_const rfl ?_
      refine z_cne rfl (fun c12 => ?_) (fun c12 => ?_)
      · rw [if_neg c12] at hF
        refine z_aload rfl rfl rfl ?_
        refine z_getr (r := 71) rfl rfl rfl rfl ?_
        refine z_iload rfl rfl ?_
        refine z_inv1 (d' := d - 1) (As := [.inl (w32 ((w32 (x1 * 256)) + x2))]) rfl rfl (zf_Row_get (r := 71) (a := 72) (n := 1024) rfl rfl _) rfl rfl rfl (by omega) rfl (fun r13 h14 hR15 hQ16 => ?_)
        obtain ⟨rfl, rfl⟩ := hQ16
        obtain ⟨rfl, rfl⟩ := zinj2 hF
        exact z_iret rfl rfl K
      · rw [if_pos c12] at hF
        refine z_aload rfl rfl rfl ?_
        refine z_getr (r := 71) rfl rfl rfl rfl ?_
        refine z_iload rfl rfl ?_
        refine z_aload rfl rfl rfl ?_
        refine z_iload rfl rfl ?_
        refine z_const rfl ?_
        refine z_iadd rfl ?_
        refine z_iload rfl rfl ?_
        obtain ⟨r21, h22, hc23, hF⟩ := zbind2 hF
        refine z_inv1 (d' := d - 1) (As := [.inl (w32 (x1 + 1)), .inl x2]) rfl rfl (hrec 0 [w32 (x1 + 1), x2] _ _ _ hc23) rfl rfl rfl (by omega) rfl (fun r17 h18 hR19 hQ20 => ?_)
        obtain ⟨rfl, rfl⟩ := hQ20
        refine z_inv0 (d' := d - 1) (As := [.inl (w32 ((w32 (x1 * 256)) + x2)), .inl r21]) rfl rfl (zf_Row_put (r := 71) (a := 72) (n := 1024) rfl rfl _ _) rfl rfl rfl (by omega) rfl (fun r24 h25 hR26 hQ27 => ?_)
        obtain ⟨rfl, rfl⟩ := hQ27
        refine z_aload rfl rfl rfl ?_
        refine z_getr (r := 73) rfl rfl rfl rfl ?_
        refine z_iload rfl rfl ?_
        refine z_const rfl ?_
        refine z_inv0 (d' := d - 1) (As := [.inl (w32 ((w32 (x1 * 256)) + x2)), .inl (-1)]) rfl rfl (zf_Row_put (r := 73) (a := 74) (n := 1024) rfl rfl _ _) rfl rfl rfl (by omega) rfl (fun r28 h29 hR30 hQ31 => ?_)
        obtain ⟨rfl, rfl⟩ := hQ31
        refine z_const rfl ?_
        refine z_istore rfl rfl rfl ?_
        obtain ⟨y56, h57, hL55, hF⟩ := zbind2 hF
        refine zl_Planner_yieldFrom_L40 (by omega) N hrec ?_ N _ _ _ _ _ hL55
        refine z_aload rfl rfl rfl ?_
        refine z_getr (r := 71) rfl rfl rfl rfl ?_
        refine z_iload rfl rfl ?_
        refine z_inv1 (d' := d - 1) (As := [.inl y56]) rfl rfl (zf_Row_get (r := 71) (a := 72) (n := 1024) rfl rfl _) rfl rfl rfl (by omega) rfl (fun r58 h59 hR60 hQ61 => ?_)
        obtain ⟨rfl, rfl⟩ := hQ61
        obtain ⟨rfl, rfl⟩ := zinj2 hF
        exact z_iret rfl rfl K
    · rw [if_neg c6] at hF
      refine z_const rfl ?_
      obtain ⟨rfl, rfl⟩ := zinj2 hF
      exact z_iret rfl rfl K
set_option maxRecDepth 100000 in
theorem zf_b_Planner_yieldFrom {l : Launch} {E : zE} {d : Nat} (hd : 3 ≤ d) (N : Nat) {grec : Nat → List Int → zHp → Option (Int × zHp)} (hrec : zGh_GP l E (d - 1) grec) (x1 x2 : Int) {h : zHp} {r0 : Int} {h0 : zHp} (hF : sh_b_Planner_yieldFrom N grec x1 x2 h = some (r0, h0)) : zC l E d zm_Planner_yieldFrom [.inr (.inr 68), .inl x1, .inl x2] h (fun r1 h1 => r0 = r1 ∧ h0 = h1) :=
  zC_of zk_Planner_yieldFrom (by decide) rfl rfl (Nat.le_of_ble_eq_true rfl) (zw_Planner_yieldFrom hd N hrec _ _ hF ⟨rfl, rfl⟩)
def sh_b_Planner_tryPair (N : Nat) (grec : Nat → List Int → zHp → Option (Int × zHp)) (x1 x2 x3 x4 : Int) (h : zHp) : Option (Int × zHp) := (if zand x2 (zor (zshl 1 x3) (zshl 1 x4)) = 0 then zb2 (grec 0 [w32 (x1 + 1), zor x2 (zor (zshl 1 x3) (zshl 1 x4))] h) fun r10 h11 => if w32 ((rget h 70 400 (w32 ((w32 (x1 * 100)) + (w32 ((w32 (x3 * 10)) + x4))))) + r10) ≤ rget h11 72 1024 (w32 ((w32 (x1 * 256)) + x2)) then some (0, h11) else some (0, rput (rput h11 72 1024 (w32 ((w32 (x1 * 256)) + x2)) (w32 ((rget h 70 400 (w32 ((w32 (x1 * 100)) + (w32 ((w32 (x3 * 10)) + x4))))) + r10))) 74 1024 (w32 ((w32 (x1 * 256)) + x2)) (w32 ((w32 (x3 * 10)) + x4))) else some (0, h))
set_option maxRecDepth 100000 in
set_option maxHeartbeats 4000000 in
theorem zw_Planner_tryPair {l : Launch} {E : zE} {d : Nat} (hd : 3 ≤ d) (N : Nat) {grec : Nat → List Int → zHp → Option (Int × zHp)} (hrec : zGh_GP l E (d - 1) grec) (x1 x2 x3 x4 : Int) {h : zHp} {Q : Int → zHp → Prop} {r0 : Int} {h0 : zHp} (hF : sh_b_Planner_tryPair N grec x1 x2 x3 x4 h = some (r0, h0)) (K : Q r0 h0) : zW l E d zm_Planner_tryPair 0 [.inr (.inr 68), .inl x1, .inl x2, .inl x3, .inl x4, zJk, zJk, zJk] [] h Q := by
  rw [sh_b_Planner_tryPair] at hF
  refine z_const rfl ?_
  refine z_iload rfl rfl ?_
  refine z_ishl rfl ?_
  refine z_const rfl ?_
  refine z_iload rfl rfl ?_
  refine z_ishl rfl ?_
  refine z_ior rfl ?_
  refine z_istore rfl rfl rfl ?_
  refine z_iload rfl rfl ?_
  refine z_iload rfl rfl ?_
  refine z_iand rfl ?_
  refine z_zeq rfl (fun c1 => ?_) (fun c1 => ?_)
  · rw [if_pos c1] at hF
    refine z_iload rfl rfl ?_
    refine z_const rfl ?_
    refine z_imul rfl ?_
    refine z_iload rfl rfl ?_
    refine z_iadd rfl ?_
    refine z_istore rfl rfl rfl ?_
    refine z_aload rfl rfl rfl ?_
    refine z_getr (r := 69) rfl rfl rfl rfl ?_
    refine z_iload rfl rfl ?_
    refine z_const rfl ?_
    refine z_imul rfl ?_
    refine z_iload rfl rfl ?_
    refine z_iadd rfl ?_
    refine z_inv1 (d' := d - 1) (As := [.inl (w32 ((w32 (x1 * 100)) + (w32 ((w32 (x3 * 10)) + x4))))]) rfl rfl (zf_Row_get (r := 69) (a := 70) (n := 400) rfl rfl _) rfl rfl rfl (by omega) rfl (fun r2 h3 hR4 hQ5 => ?_)
    obtain ⟨rfl, rfl⟩ := hQ5
    refine z_aload rfl rfl rfl ?_
    refine z_iload rfl rfl ?_
    refine z_const rfl ?_
    refine z_iadd rfl ?_
    refine z_iload rfl rfl ?_
    refine z_iload rfl rfl ?_
    refine z_ior rfl ?_
    obtain ⟨r10, h11, hc12, hF⟩ := zbind2 hF
    refine z_inv1 (d' := d - 1) (As := [.inl (w32 (x1 + 1)), .inl (zor x2 (zor (zshl 1 x3) (zshl 1 x4)))]) rfl rfl (hrec 0 [w32 (x1 + 1), zor x2 (zor (zshl 1 x3) (zshl 1 x4))] _ _ _ hc12) rfl rfl rfl (by omega) rfl (fun r6 h7 hR8 hQ9 => ?_)
    obtain ⟨rfl, rfl⟩ := hQ9
    refine z_iadd rfl ?_
    refine z_istore rfl rfl rfl ?_
    refine z_iload rfl rfl ?_
    refine z_aload rfl rfl rfl ?_
    refine z_getr (r := 71) rfl rfl rfl rfl ?_
    refine z_iload rfl rfl ?_
    refine z_const rfl ?_
    refine z_imul rfl ?_
    refine z_iload rfl rfl ?_
    refine z_iadd rfl ?_
    refine z_inv1 (d' := d - 1) (As := [.inl (w32 ((w32 (x1 * 256)) + x2))]) rfl rfl (zf_Row_get (r := 71) (a := 72) (n := 1024) rfl rfl _) rfl rfl rfl (by omega) rfl (fun r13 h14 hR15 hQ16 => ?_)
    obtain ⟨rfl, rfl⟩ := hQ16
    refine z_cle rfl (fun c18 => ?_) (fun c18 => ?_)
    · rw [if_pos c18] at hF
      obtain ⟨rfl, rfl⟩ := zinj2 hF
      exact z_ret rfl rfl rfl K
    · rw [if_neg c18] at hF
      refine z_aload rfl rfl rfl ?_
      refine z_getr (r := 71) rfl rfl rfl rfl ?_
      refine z_iload rfl rfl ?_
      refine z_const rfl ?_
      refine z_imul rfl ?_
      refine z_iload rfl rfl ?_
      refine z_iadd rfl ?_
      refine z_iload rfl rfl ?_
      refine z_inv0 (d' := d - 1) (As := [.inl (w32 ((w32 (x1 * 256)) + x2)), .inl (w32 ((rget h 70 400 (w32 ((w32 (x1 * 100)) + (w32 ((w32 (x3 * 10)) + x4))))) + r10))]) rfl rfl (zf_Row_put (r := 71) (a := 72) (n := 1024) rfl rfl _ _) rfl rfl rfl (by omega) rfl (fun r19 h20 hR21 hQ22 => ?_)
      obtain ⟨rfl, rfl⟩ := hQ22
      refine z_aload rfl rfl rfl ?_
      refine z_getr (r := 73) rfl rfl rfl rfl ?_
      refine z_iload rfl rfl ?_
      refine z_const rfl ?_
      refine z_imul rfl ?_
      refine z_iload rfl rfl ?_
      refine z_iadd rfl ?_
      refine z_iload rfl rfl ?_
      refine z_inv0 (d' := d - 1) (As := [.inl (w32 ((w32 (x1 * 256)) + x2)), .inl (w32 ((w32 (x3 * 10)) + x4))]) rfl rfl (zf_Row_put (r := 73) (a := 74) (n := 1024) rfl rfl _ _) rfl rfl rfl (by omega) rfl (fun r23 h24 hR25 hQ26 => ?_)
      obtain ⟨rfl, rfl⟩ := hQ26
      obtain ⟨rfl, rfl⟩ := zinj2 hF
      exact z_ret rfl rfl rfl K
  · rw [if_neg c1] at hF
    obtain ⟨rfl, rfl⟩ := zinj2 hF
    exact z_ret rfl rfl rfl K
set_option maxRecDepth 100000 in
theorem zf_b_Planner_tryPair {l : Launch} {E : zE} {d : Nat} (hd : 3 ≤ d) (N : Nat) {grec : Nat → List Int → zHp → Option (Int × zHp)} (hrec : zGh_GP l E (d - 1) grec) (x1 x2 x3 x4 : Int) {h : zHp} {r0 : Int} {h0 : zHp} (hF : sh_b_Planner_tryPair N grec x1 x2 x3 x4 h = some (r0, h0)) : zC l E d zm_Planner_tryPair [.inr (.inr 68), .inl x1, .inl x2, .inl x3, .inl x4] h (fun r1 h1 => r0 = r1 ∧ h0 = h1) :=
  zC_of zk_Planner_tryPair (by decide) rfl rfl (Nat.le_of_ble_eq_true rfl) (zw_Planner_tryPair hd N hrec _ _ _ _ hF ⟨rfl, rfl⟩)
def sh_GP (N : Nat) : Nat → Nat → List Int → zHp → Option (Int × zHp)
  | 0, _, _, _ => none
  | k + 1, 0, [x1, x2], h => sh_b_Planner_yieldFrom N (sh_GP N k) x1 x2 h
  | k + 1, 1, [x1, x2, x3, x4], h => sh_b_Planner_tryPair N (sh_GP N k) x1 x2 x3 x4 h
  | _ + 1, _, _, _ => none
set_option maxRecDepth 100000 in
theorem zg_GP {l : Launch} {E : zE} (N : Nat) : ∀ (k d : Nat), 3 + k ≤ d → ∀ (sel : Nat) (as : List Int) (h : zHp) (r : Int) (h1 : zHp), sh_GP N k sel as h = some (r, h1) → zG_GP l E d sel as h (fun r2 h2 => r = r2 ∧ h1 = h2) := by
  intro k
  induction k with
  | zero => intro d hd sel as h r h1 hF; cases (show (none : Option (Int × zHp)) = some (r, h1) from hF)
  | succ k ih =>
    intro d hd sel as h r h1 hF
    have hrec : zGh_GP l E (d - 1) (sh_GP N k) := fun sel as h r h1 q => ih (d - 1) (by omega) sel as h r h1 q
    match sel, as, hF with
    | 0, [], hF => cases (show (none : Option (Int × zHp)) = some (r, h1) from hF)
    | 0, [_], hF => cases (show (none : Option (Int × zHp)) = some (r, h1) from hF)
    | 0, [x1, x2], hF => exact zf_b_Planner_yieldFrom (by omega) N hrec _ _ hF
    | 0, _ :: _ :: _ :: _, hF => cases (show (none : Option (Int × zHp)) = some (r, h1) from hF)
    | 1, [], hF => cases (show (none : Option (Int × zHp)) = some (r, h1) from hF)
    | 1, [_], hF => cases (show (none : Option (Int × zHp)) = some (r, h1) from hF)
    | 1, [_, _], hF => cases (show (none : Option (Int × zHp)) = some (r, h1) from hF)
    | 1, [_, _, _], hF => cases (show (none : Option (Int × zHp)) = some (r, h1) from hF)
    | 1, [x1, x2, x3, x4], hF => exact zf_b_Planner_tryPair (by omega) N hrec _ _ _ _ hF
    | 1, _ :: _ :: _ :: _ :: _ :: _, hF => cases (show (none : Option (Int × zHp)) = some (r, h1) from hF)
    | _ + 2, _, hF => cases (show (none : Option (Int × zHp)) = some (r, h1) from hF)
def sh_Planner_yieldFrom (N : Nat) (x1 x2 : Int) (h : zHp) : Option (Int × zHp) := sh_GP N 20 0 [x1, x2] h
theorem zf_Planner_yieldFrom {l : Launch} {E : zE} {d : Nat} (hd : 23 ≤ d) (N : Nat) (x1 x2 : Int) {h : zHp} {r0 : Int} {h0 : zHp} (hF : sh_Planner_yieldFrom N x1 x2 h = some (r0, h0)) : zC l E d zm_Planner_yieldFrom [.inr (.inr 68), .inl x1, .inl x2] h (fun r1 h1 => r0 = r1 ∧ h0 = h1) := zg_GP N 20 d (by omega) 0 [x1, x2] h r0 h0 hF
def sh_Planner_tryPair (N : Nat) (x1 x2 x3 x4 : Int) (h : zHp) : Option (Int × zHp) := sh_GP N 20 1 [x1, x2, x3, x4] h
theorem zf_Planner_tryPair {l : Launch} {E : zE} {d : Nat} (hd : 23 ≤ d) (N : Nat) (x1 x2 x3 x4 : Int) {h : zHp} {r0 : Int} {h0 : zHp} (hF : sh_Planner_tryPair N x1 x2 x3 x4 h = some (r0, h0)) : zC l E d zm_Planner_tryPair [.inr (.inr 68), .inl x1, .inl x2, .inl x3, .inl x4] h (fun r1 h1 => r0 = r1 ∧ h0 = h1) := zg_GP N 20 d (by omega) 1 [x1, x2, x3, x4] h r0 h0 hF
def sh_Pitches_isFree_L2 (N : Nat) (h : zHp) : Nat → Int → Int → Int → Option ((Nat) ⊕ (Nat))
  | 0, _, _, _ => none
  | n + 1, x1, x2, x3 => (if x1 ≤ x3 then some (.inr 0) else (if h 78 5 ≤ zabs (w32 (x2 - (rget h 82 5 x3))) then sh_Pitches_isFree_L2 N h n x1 x2 (w32 (x3 + 1)) else some (.inl 0)))
def sh_Pitches_isFree (N : Nat) (x1 x2 : Int) (h : zHp) : Option Int := zb1 (sh_Pitches_isFree_L2 N h N x1 x2 0) fun w8 => zsum2 w8 (zcu1 fun y9 => some 0) (zcu1 fun y10 => some 1)
set_option maxRecDepth 100000 in
set_option maxHeartbeats 4000000 in
theorem zl_Pitches_isFree_L2 {l : Launch} {E : zE} {d : Nat} (hd : 2 ≤ d) (N : Nat) {h : zHp} {Q : Int → zHp → Prop} {res : (Nat) ⊕ (Nat)} (K1 : ∀ (on : Nat), res = .inl on → zW l E d zm_Pitches_isFree 15 [zJk, zJk, zJk, zJk] [] h Q) (K2 : ∀ (on : Nat), res = .inr on → zW l E d zm_Pitches_isFree 19 [zJk, zJk, zJk, zJk] [] h Q) : ∀ (n : Nat) (x1 x2 x3 : Int) , sh_Pitches_isFree_L2 N h n x1 x2 x3 = some res → zW l E d zm_Pitches_isFree 2 [.inr (.inr 78), .inl x1, .inl x2, .inl x3] [] h Q := by
  intro n
  induction n with
  | zero =>
    intro x1 x2 x3 hF
    cases (show (none : Option ((Nat) ⊕ (Nat))) = some res from hF)
  | succ n ih =>
    intro x1 x2 x3 hF
    rw [sh_Pitches_isFree_L2] at hF
    refine z_iload rfl rfl ?_
    refine z_iload rfl rfl ?_
    refine z_cge rfl (fun c1 => ?_) (fun c1 => ?_)
    · rw [if_pos c1] at hF
      refine zsubL (L' := [zJk, zJk, zJk, zJk]) ⟨Or.inr rfl, Or.inr rfl, Or.inr rfl, Or.inr rfl, trivial⟩ ?_
      exact K2 _ (Option.some.inj hF).symm
    · rw [if_neg c1] at hF
      refine z_iload rfl rfl ?_
      refine z_aload rfl rfl rfl ?_
      refine z_getr (r := 81) rfl rfl rfl rfl ?_
      refine z_iload rfl rfl ?_
      refine z_inv1 (d' := d - 1) (As := [.inl x3]) rfl rfl (zf_Row_get (r := 81) (a := 82) (n := 5) rfl rfl _) rfl rfl rfl (by omega) rfl (fun r2 h3 hR4 hQ5 => ?_)
      obtain ⟨rfl, rfl⟩ := hQ5
      refine z_isub rfl ?_
      refine z_mabs rfl (by decide) (by omega) rfl ?_
      refine z_aload rfl rfl rfl ?_
      refine z_geti rfl rfl rfl rfl ?_
      refine z_cge rfl (fun c6 => ?_) (fun c6 => ?_)
      · rw [if_pos c6] at hF
        refine z_iinc rfl rfl rfl ?_
        refine z_goto rfl ?_
        exact ih _ _ _ hF
      · rw [if_neg c6] at hF
        refine zsubL (L' := [zJk, zJk, zJk, zJk]) ⟨Or.inr rfl, Or.inr rfl, Or.inr rfl, Or.inr rfl, trivial⟩ ?_
        exact K1 _ (Option.some.inj hF).symm
set_option maxRecDepth 100000 in
set_option maxHeartbeats 4000000 in
theorem zw_Pitches_isFree {l : Launch} {E : zE} {d : Nat} (hd : 2 ≤ d) (N : Nat) (x1 x2 : Int) {h : zHp} {Q : Int → zHp → Prop} {r0 : Int} (hF : sh_Pitches_isFree N x1 x2 h = some r0) (K : Q r0 h) : zW l E d zm_Pitches_isFree 0 [.inr (.inr 78), .inl x1, .inl x2, zJk] [] h Q := by
  rw [sh_Pitches_isFree] at hF
  refine z_const rfl ?_
  refine z_istore rfl rfl rfl ?_
  obtain ⟨w8, hL7, hF⟩ := zbind1 hF
  rcases w8 with y9 | y10
  · refine zl_Pitches_isFree_L2 (by omega) N (fun q11 e12 => ?_) (fun _ z => by cases z) N _ _ _ hL7
    obtain rfl := zinl2_0_1 e12
    replace hF := zs2_0_1 hF
    refine z_const rfl ?_
    obtain rfl := Option.some.inj hF
    exact z_zret rfl rfl (Or.inl rfl) K
  · refine zl_Pitches_isFree_L2 (by omega) N (fun _ z => by cases z) (fun q13 e14 => ?_) N _ _ _ hL7
    obtain rfl := zinl2_1_1 e14
    replace hF := zs2_1_1 hF
    refine z_const rfl ?_
    obtain rfl := Option.some.inj hF
    exact z_zret rfl rfl (Or.inr rfl) K
set_option maxRecDepth 100000 in
theorem zf_Pitches_isFree {l : Launch} {E : zE} {d : Nat} (hd : 2 ≤ d) (N : Nat) (x1 x2 : Int) {h : zHp} {r0 : Int} (hF : sh_Pitches_isFree N x1 x2 h = some r0) : zC l E d zm_Pitches_isFree [.inr (.inr 78), .inl x1, .inl x2] h (fun r1 h1 => r0 = r1 ∧ h = h1) :=
  zC_of zk_Pitches_isFree (by decide) rfl rfl (Nat.le_of_ble_eq_true rfl) (zw_Pitches_isFree hd N _ _ hF ⟨rfl, rfl⟩)
/-- the group GC: its contract by number -/
def zG_GC (l : Launch) (E : zE) (d : Nat) : Nat → List Int → zHp → (Int → zHp → Prop) → Prop
  | 0, [x1, x2], h, Q => zC l E d zm_Pitches_choose [.inr (.inr 78), .inl x1, .inl x2] h Q
  | 1, [x1, x2, x3], h, Q => zC l E d zm_Pitches_pick [.inr (.inr 78), .inl x1, .inl x2, .inl x3] h Q
  | _, _, _, _ => True
def zGh_GC (l : Launch) (E : zE) (d : Nat) (grec : Nat → List Int → zHp → Option (Int × zHp)) : Prop := ∀ (sel : Nat) (as : List Int) (h : zHp) (r : Int) (h1 : zHp), grec sel as h = some (r, h1) → zG_GC l E d sel as h (fun r2 h2 => r = r2 ∧ h1 = h2)
def sh_Pitches_choose_L19 (N : Nat) (grec : Nat → List Int → zHp → Option (Int × zHp)) : Nat → Int → Int → Int → zHp → Option (zHp)
  | 0, _, _, _, _ => none
  | n + 1, x1, x2, x3, h => (if 10 ≤ x3 then some h else (if rget h 80 50 (w32 ((w32 (x1 * 10)) + x3)) = 0 then sh_Pitches_choose_L19 N grec n x1 x2 (w32 (x3 + 1)) h else zb1 (sh_Pitches_isFree N x1 x3 h) fun r19 => if r19 = 0 then sh_Pitches_choose_L19 N grec n x1 x2 (w32 (x3 + 1)) h else zb2 (grec 1 [x1, x3, w32 (x2 + (zabs (w32 (x3 - (rget h 7 5 x1)))))] h) fun r34 h35 => sh_Pitches_choose_L19 N grec n x1 x2 (w32 (x3 + 1)) h35))
def sh_b_Pitches_choose (N : Nat) (grec : Nat → List Int → zHp → Option (Int × zHp)) (x1 x2 : Int) (h : zHp) : Option (Int × zHp) := (if h 1 0 ≤ x1 then some (0, rcopy (zst h 78 6 x2) 84 5 82 5) else (if x1 < 5 then zb1 (sh_Pitches_choose_L19 N grec N x1 x2 0 h) fun h38 => some (0, h38) else some (0, rcopy (zst h 78 6 x2) 84 5 82 5)))
set_option maxRecDepth 100000 in
set_option maxHeartbeats 4000000 in
theorem zl_Pitches_choose_L19 {l : Launch} {E : zE} {d : Nat} (hd : 3 ≤ d) (N : Nat) {grec : Nat → List Int → zHp → Option (Int × zHp)} (hrec : zGh_GC l E (d - 1) grec) {Q : Int → zHp → Prop} {oh : zHp} (K1 : zW l E d zm_Pitches_choose 52 [zJk, zJk, zJk, zJk] [] oh Q) : ∀ (n : Nat) (x1 x2 x3 : Int) (h : zHp), sh_Pitches_choose_L19 N grec n x1 x2 x3 h = some oh → zW l E d zm_Pitches_choose 19 [.inr (.inr 78), .inl x1, .inl x2, .inl x3] [] h Q := by
  intro n
  induction n with
  | zero =>
    intro x1 x2 x3 h hF
    cases (show (none : Option (zHp)) = some oh from hF)
  | succ n ih =>
    intro x1 x2 x3 h hF
    rw [sh_Pitches_choose_L19] at hF
    refine z_iload rfl rfl ?_
    refine z_const rfl ?_
    refine z_cge rfl (fun c7 => ?_) (fun c7 => ?_)
    · rw [if_pos c7] at hF
      refine zsubL (L' := [zJk, zJk, zJk, zJk]) ⟨Or.inr rfl, Or.inr rfl, Or.inr rfl, Or.inr rfl, trivial⟩ ?_
      obtain rfl := Option.some.inj hF
      exact K1
    · rw [if_neg c7] at hF
      refine z_aload rfl rfl rfl ?_
      refine z_getr (r := 79) rfl rfl rfl rfl ?_
      refine z_iload rfl rfl ?_
      refine z_const rfl ?_
      refine z_imul rfl ?_
      refine z_iload rfl rfl ?_
      refine z_iadd rfl ?_
      refine z_inv1 (d' := d - 1) (As := [.inl (w32 ((w32 (x1 * 10)) + x3))]) rfl rfl (zf_Row_get (r := 79) (a := 80) (n := 50) rfl rfl _) rfl rfl rfl (by omega) rfl (fun r8 h9 hR10 hQ11 => ?_)
      obtain ⟨rfl, rfl⟩ := hQ11
      refine z_zeq rfl (fun c13 => ?_) (fun c13 => ?_)
      · rw [if_pos c13] at hF
        refine z_iinc rfl rfl rfl ?_
        refine z_goto rfl ?_
        exact ih _ _ _ _ hF
      · rw [if_neg c13] at hF
        refine z_aload rfl rfl rfl ?_
        refine z_iload rfl rfl ?_
        refine z_iload rfl rfl ?_
        obtain ⟨r19, hc18, hF⟩ := zbind1 hF
        refine z_inv1 (d' := d - 1) (As := [.inl x1, .inl x3]) rfl rfl (zf_Pitches_isFree (by omega) N _ _ hc18) rfl rfl rfl (by omega) rfl (fun r14 h15 hR16 hQ17 => ?_)
        obtain ⟨rfl, rfl⟩ := hQ17
        refine z_zeq rfl (fun c25 => ?_) (fun c25 => ?_)
        · rw [if_pos c25] at hF
          refine z_iinc rfl rfl rfl ?_
          refine z_goto rfl ?_
          exact ih _ _ _ _ hF
        · rw [if_neg c25] at hF
          refine z_aload rfl rfl rfl ?_
          refine z_iload rfl rfl ?_
          refine z_iload rfl rfl ?_
          refine z_iload rfl rfl ?_
          refine z_iload rfl rfl ?_
          refine z_aload rfl rfl rfl ?_
          refine z_getr (r := 1) rfl rfl rfl rfl ?_
          refine z_getr (r := 6) rfl rfl rfl rfl ?_
          refine z_iload rfl rfl ?_
          refine z_inv1 (d' := d - 1) (As := [.inl x1]) rfl rfl (zf_Row_get (r := 6) (a := 7) (n := 5) rfl rfl _) rfl rfl rfl (by omega) rfl (fun r26 h27 hR28 hQ29 => ?_)
          obtain ⟨rfl, rfl⟩ := hQ29
          refine z_isub rfl ?_
          refine z_mabs rfl (by decide) (by omega) rfl ?_
          refine z_iadd rfl ?_
          obtain ⟨r34, h35, hc36, hF⟩ := zbind2 hF
          refine z_inv0 (d' := d - 1) (As := [.inl x1, .inl x3, .inl (w32 (x2 + (zabs (w32 (x3 - (rget h 7 5 x1))))))]) rfl rfl (hrec 1 [x1, x3, w32 (x2 + (zabs (w32 (x3 - (rget h 7 5 x1)))))] _ _ _ hc36) rfl rfl rfl (by omega) rfl (fun r30 h31 hR32 hQ33 => ?_)
          obtain ⟨rfl, rfl⟩ := hQ33
          refine z_iinc rfl rfl rfl ?_
          refine z_goto rfl ?_
          exact ih _ _ _ _ hF
set_option maxRecDepth 100000 in
set_option maxHeartbeats 4000000 in
theorem zw_Pitches_choose {l : Launch} {E : zE} {d : Nat} (hd : 3 ≤ d) (N : Nat) {grec : Nat → List Int → zHp → Option (Int × zHp)} (hrec : zGh_GC l E (d - 1) grec) (x1 x2 : Int) {h : zHp} {Q : Int → zHp → Prop} {r0 : Int} {h0 : zHp} (hF : sh_b_Pitches_choose N grec x1 x2 h = some (r0, h0)) (K : Q r0 h0) : zW l E d zm_Pitches_choose 0 [.inr (.inr 78), .inl x1, .inl x2, zJk] [] h Q := by
  rw [sh_b_Pitches_choose] at hF
  refine z_iload rfl rfl ?_
  refine z_aload rfl rfl rfl ?_
  refine z_getr (r := 1) rfl rfl rfl rfl ?_
  refine z_geti rfl rfl rfl rfl ?_
  refine z_cge rfl (fun c1 => ?_) (fun c1 => ?_)
  · rw [if_pos c1] at hF
    refine z_aload rfl rfl rfl ?_
    refine z_iload rfl rfl ?_
    refine z_puti rfl rfl rfl rfl ?_
    refine z_aload rfl rfl rfl ?_
    refine z_getr (r := 83) rfl rfl rfl rfl ?_
    refine z_aload rfl rfl rfl ?_
    refine z_getr (r := 81) rfl rfl rfl rfl ?_
    refine z_inv0 (d' := d - 1) (As := [.inr (.inr 81)]) rfl rfl (zf_Row_copyFrom (r := 83) (a := 84) (n := 5) (r2 := 81) (b := 82) (m := 5) rfl rfl rfl rfl (by decide)) rfl rfl rfl (by omega) rfl (fun r2 h3 hR4 hQ5 => ?_)
    obtain ⟨rfl, rfl⟩ := hQ5
    obtain ⟨rfl, rfl⟩ := zinj2 hF
    exact z_ret rfl rfl rfl K
  · rw [if_neg c1] at hF
    refine z_iload rfl rfl ?_
    refine z_const rfl ?_
    refine z_clt rfl (fun c6 => ?_) (fun c6 => ?_)
    · rw [if_pos c6] at hF
      refine z_const rfl ?_
      refine z_istore rfl rfl rfl ?_
      obtain ⟨h38, hL37, hF⟩ := zbind1 hF
      refine zl_Pitches_choose_L19 (by omega) N hrec ?_ N _ _ _ _ hL37
      obtain ⟨rfl, rfl⟩ := zinj2 hF
      exact z_ret rfl rfl rfl K
    · rw [if_neg c6] at hF
      refine z_aload rfl rfl rfl ?_
      refine z_iload rfl rfl ?_
      refine z_puti rfl rfl rfl rfl ?_
      refine z_aload rfl rfl rfl ?_
      refine z_getr (r := 83) rfl rfl rfl rfl ?_
      refine z_aload rfl rfl rfl ?_
      refine z_getr (r := 81) rfl rfl rfl rfl ?_
      refine z_inv0 (d' := d - 1) (As := [.inr (.inr 81)]) rfl rfl (zf_Row_copyFrom (r := 83) (a := 84) (n := 5) (r2 := 81) (b := 82) (m := 5) rfl rfl rfl rfl (by decide)) rfl rfl rfl (by omega) rfl (fun r39 h40 hR41 hQ42 => ?_)
      obtain ⟨rfl, rfl⟩ := hQ42
      obtain ⟨rfl, rfl⟩ := zinj2 hF
      exact z_ret rfl rfl rfl K
set_option maxRecDepth 100000 in
theorem zf_b_Pitches_choose {l : Launch} {E : zE} {d : Nat} (hd : 3 ≤ d) (N : Nat) {grec : Nat → List Int → zHp → Option (Int × zHp)} (hrec : zGh_GC l E (d - 1) grec) (x1 x2 : Int) {h : zHp} {r0 : Int} {h0 : zHp} (hF : sh_b_Pitches_choose N grec x1 x2 h = some (r0, h0)) : zC l E d zm_Pitches_choose [.inr (.inr 78), .inl x1, .inl x2] h (fun r1 h1 => r0 = r1 ∧ h0 = h1) :=
  zC_of zk_Pitches_choose (by decide) rfl rfl (Nat.le_of_ble_eq_true rfl) (zw_Pitches_choose hd N hrec _ _ hF ⟨rfl, rfl⟩)
def sh_b_Pitches_pick (N : Nat) (grec : Nat → List Int → zHp → Option (Int × zHp)) (x1 x2 x3 : Int) (h : zHp) : Option (Int × zHp) := (if h 78 6 = (-1) then zb2 (grec 0 [w32 (x1 + 1), x3] (rput h 82 5 x1 x2)) fun r11 h12 => some (0, h12) else (if h 78 6 ≤ x3 then some (0, h) else zb2 (grec 0 [w32 (x1 + 1), x3] (rput h 82 5 x1 x2)) fun r24 h25 => some (0, h25)))
set_option maxRecDepth 100000 in
set_option maxHeartbeats 4000000 in
theorem zw_Pitches_pick {l : Launch} {E : zE} {d : Nat} (hd : 3 ≤ d) (N : Nat) {grec : Nat → List Int → zHp → Option (Int × zHp)} (hrec : zGh_GC l E (d - 1) grec) (x1 x2 x3 : Int) {h : zHp} {Q : Int → zHp → Prop} {r0 : Int} {h0 : zHp} (hF : sh_b_Pitches_pick N grec x1 x2 x3 h = some (r0, h0)) (K : Q r0 h0) : zW l E d zm_Pitches_pick 0 [.inr (.inr 78), .inl x1, .inl x2, .inl x3] [] h Q := by
  rw [sh_b_Pitches_pick] at hF
  refine z_aload rfl rfl rfl ?_
  refine z_geti rfl rfl rfl rfl ?_
  refine z_const rfl ?_
  refine z_ceq rfl (fun c2 => ?_) (fun c2 => ?_)
  · rw [if_pos c2] at hF
    refine z_aload rfl rfl rfl ?_
    refine z_getr (r := 81) rfl rfl rfl rfl ?_
    refine z_iload rfl rfl ?_
    refine z_iload rfl rfl ?_
    refine z_inv0 (d' := d - 1) (As := [.inl x1, .inl x2]) rfl rfl (zf_Row_put (r := 81) (a := 82) (n := 5) rfl rfl _ _) rfl rfl rfl (by omega) rfl (fun r3 h4 hR5 hQ6 => ?_)
    obtain ⟨rfl, rfl⟩ := hQ6
    refine z_aload rfl rfl rfl ?_
    refine z_iload rfl rfl ?_
    refine z_const rfl ?_
    refine z_iadd rfl ?_
    refine z_iload rfl rfl ?_
    obtain ⟨r11, h12, hc13, hF⟩ := zbind2 hF
    refine z_inv0 (d' := d - 1) (As := [.inl (w32 (x1 + 1)), .inl x3]) rfl rfl (hrec 0 [w32 (x1 + 1), x3] _ _ _ hc13) rfl rfl rfl (by omega) rfl (fun r7 h8 hR9 hQ10 => ?_)
    obtain ⟨rfl, rfl⟩ := hQ10
    obtain ⟨rfl, rfl⟩ := zinj2 hF
    exact z_ret rfl rfl rfl K
  · rw [if_neg c2] at hF
    refine z_iload rfl rfl ?_
    refine z_aload rfl rfl rfl ?_
    refine z_geti rfl rfl rfl rfl ?_
    refine z_cge rfl (fun c15 => ?_) (fun c15 => ?_)
    · rw [if_pos c15] at hF
      obtain ⟨rfl, rfl⟩ := zinj2 hF
      exact z_ret rfl rfl rfl K
    · rw [if_neg c15] at hF
      refine z_aload rfl rfl rfl ?_
      refine z_getr (r := 81) rfl rfl rfl rfl ?_
      refine z_iload rfl rfl ?_
      refine z_iload rfl rfl ?_
      refine z_inv0 (d' := d - 1) (As := [.inl x1, .inl x2]) rfl rfl (zf_Row_put (r := 81) (a := 82) (n := 5) rfl rfl _ _) rfl rfl rfl (by omega) rfl (fun r16 h17 hR18 hQ19 => ?_)
      obtain ⟨rfl, rfl⟩ := hQ19
      refine z_aload rfl rfl rfl ?_
      refine z_iload rfl rfl ?_
      refine z_const rfl ?_
      refine z_iadd rfl ?_
      refine z_iload rfl rfl ?_
      obtain ⟨r24, h25, hc26, hF⟩ := zbind2 hF
      refine z_inv0 (d' := d - 1) (As := [.inl (w32 (x1 + 1)), .inl x3]) rfl rfl (hrec 0 [w32 (x1 + 1), x3] _ _ _ hc26) rfl rfl rfl (by omega) rfl (fun r20 h21 hR22 hQ23 => ?_)
      obtain ⟨rfl, rfl⟩ := hQ23
      obtain ⟨rfl, rfl⟩ := zinj2 hF
      exact z_ret rfl rfl rfl K
set_option maxRecDepth 100000 in
theorem zf_b_Pitches_pick {l : Launch} {E : zE} {d : Nat} (hd : 3 ≤ d) (N : Nat) {grec : Nat → List Int → zHp → Option (Int × zHp)} (hrec : zGh_GC l E (d - 1) grec) (x1 x2 x3 : Int) {h : zHp} {r0 : Int} {h0 : zHp} (hF : sh_b_Pitches_pick N grec x1 x2 x3 h = some (r0, h0)) : zC l E d zm_Pitches_pick [.inr (.inr 78), .inl x1, .inl x2, .inl x3] h (fun r1 h1 => r0 = r1 ∧ h0 = h1) :=
  zC_of zk_Pitches_pick (by decide) rfl rfl (Nat.le_of_ble_eq_true rfl) (zw_Pitches_pick hd N hrec _ _ _ hF ⟨rfl, rfl⟩)
def sh_GC (N : Nat) : Nat → Nat → List Int → zHp → Option (Int × zHp)
  | 0, _, _, _ => none
  | k + 1, 0, [x1, x2], h => sh_b_Pitches_choose N (sh_GC N k) x1 x2 h
  | k + 1, 1, [x1, x2, x3], h => sh_b_Pitches_pick N (sh_GC N k) x1 x2 x3 h
  | _ + 1, _, _, _ => none
set_option maxRecDepth 100000 in
theorem zg_GC {l : Launch} {E : zE} (N : Nat) : ∀ (k d : Nat), 3 + k ≤ d → ∀ (sel : Nat) (as : List Int) (h : zHp) (r : Int) (h1 : zHp), sh_GC N k sel as h = some (r, h1) → zG_GC l E d sel as h (fun r2 h2 => r = r2 ∧ h1 = h2) := by
  intro k
  induction k with
  | zero => intro d hd sel as h r h1 hF; cases (show (none : Option (Int × zHp)) = some (r, h1) from hF)
  | succ k ih =>
    intro d hd sel as h r h1 hF
    have hrec : zGh_GC l E (d - 1) (sh_GC N k) := fun sel as h r h1 q => ih (d - 1) (by omega) sel as h r h1 q
    match sel, as, hF with
    | 0, [], hF => cases (show (none : Option (Int × zHp)) = some (r, h1) from hF)
    | 0, [_], hF => cases (show (none : Option (Int × zHp)) = some (r, h1) from hF)
    | 0, [x1, x2], hF => exact zf_b_Pitches_choose (by omega) N hrec _ _ hF
    | 0, _ :: _ :: _ :: _, hF => cases (show (none : Option (Int × zHp)) = some (r, h1) from hF)
    | 1, [], hF => cases (show (none : Option (Int × zHp)) = some (r, h1) from hF)
    | 1, [_], hF => cases (show (none : Option (Int × zHp)) = some (r, h1) from hF)
    | 1, [_, _], hF => cases (show (none : Option (Int × zHp)) = some (r, h1) from hF)
    | 1, [x1, x2, x3], hF => exact zf_b_Pitches_pick (by omega) N hrec _ _ _ hF
    | 1, _ :: _ :: _ :: _ :: _, hF => cases (show (none : Option (Int × zHp)) = some (r, h1) from hF)
    | _ + 2, _, hF => cases (show (none : Option (Int × zHp)) = some (r, h1) from hF)
def sh_Pitches_choose (N : Nat) (x1 x2 : Int) (h : zHp) : Option (Int × zHp) := sh_GC N 20 0 [x1, x2] h
theorem zf_Pitches_choose {l : Launch} {E : zE} {d : Nat} (hd : 23 ≤ d) (N : Nat) (x1 x2 : Int) {h : zHp} {r0 : Int} {h0 : zHp} (hF : sh_Pitches_choose N x1 x2 h = some (r0, h0)) : zC l E d zm_Pitches_choose [.inr (.inr 78), .inl x1, .inl x2] h (fun r1 h1 => r0 = r1 ∧ h0 = h1) := zg_GC N 20 d (by omega) 0 [x1, x2] h r0 h0 hF
def sh_Pitches_pick (N : Nat) (x1 x2 x3 : Int) (h : zHp) : Option (Int × zHp) := sh_GC N 20 1 [x1, x2, x3] h
theorem zf_Pitches_pick {l : Launch} {E : zE} {d : Nat} (hd : 23 ≤ d) (N : Nat) (x1 x2 x3 : Int) {h : zHp} {r0 : Int} {h0 : zHp} (hF : sh_Pitches_pick N x1 x2 x3 h = some (r0, h0)) : zC l E d zm_Pitches_pick [.inr (.inr 78), .inl x1, .inl x2, .inl x3] h (fun r1 h1 => r0 = r1 ∧ h0 = h1) := zg_GC N 20 d (by omega) 1 [x1, x2, x3] h r0 h0 hF
def sh_Ox_within (x0 x1 x2 : Int) : Int := (if x0 < x1 then 0 else (if x2 < x0 then 0 else 1 : Int) : Int)
set_option maxRecDepth 100000 in
set_option maxHeartbeats 4000000 in
theorem zw_Ox_within {l : Launch} {E : zE} {d : Nat} (hd : 1 ≤ d) (x0 x1 x2 : Int) {h : zHp} {Q : Int → zHp → Prop} {r0 : Int} (hF : sh_Ox_within x0 x1 x2 = r0) (K : Q r0 h) : zW l E d zm_Ox_within 0 [.inl x0, .inl x1, .inl x2] [] h Q := by
  rw [sh_Ox_within] at hF
  refine z_iload rfl rfl ?_
  refine z_iload rfl rfl ?_
  have hJ3 : zW l E d zm_Ox_within 9 [zJk, zJk, zJk] [.inl (if x0 < x1 then 0 else (if x2 < x0 then 0 else 1 : Int) : Int)] h Q := by
    subst hF
    exact z_zret rfl rfl (zor_ite (Or.inl rfl) (zor_ite (Or.inl rfl) (Or.inr rfl))) K
  refine z_clt rfl (fun c1 => ?_) (fun c1 => ?_)
  · refine z_const rfl ?_
    refine zsubL (L' := [zJk, zJk, zJk]) ⟨Or.inr rfl, Or.inr rfl, Or.inr rfl, trivial⟩ ?_
    exact zcast (by first | rfl | (simp only [if_pos c1] <;> rfl)) (by first | rfl | (simp only [if_pos c1] <;> rfl)) hJ3
  · refine z_iload rfl rfl ?_
    refine z_iload rfl rfl ?_
    refine z_cgt rfl (fun c2 => ?_) (fun c2 => ?_)
    · refine z_const rfl ?_
      refine zsubL (L' := [zJk, zJk, zJk]) ⟨Or.inr rfl, Or.inr rfl, Or.inr rfl, trivial⟩ ?_
      exact zcast (by first | rfl | (simp only [if_neg c1, if_pos c2] <;> rfl)) (by first | rfl | (simp only [if_neg c1, if_pos c2] <;> rfl)) hJ3
    · refine z_const rfl ?_
      refine z_goto rfl ?_
      refine zsubL (L' := [zJk, zJk, zJk]) ⟨Or.inr rfl, Or.inr rfl, Or.inr rfl, trivial⟩ ?_
      exact zcast (by first | rfl | (simp only [if_neg c1, if_neg c2] <;> rfl)) (by first | rfl | (simp only [if_neg c1, if_neg c2] <;> rfl)) hJ3
set_option maxRecDepth 100000 in
theorem zf_Ox_within {l : Launch} {E : zE} {d : Nat} (hd : 1 ≤ d) (x0 x1 x2 : Int) {h : zHp} : zC l E d zm_Ox_within [.inl x0, .inl x1, .inl x2] h (fun r1 h1 => sh_Ox_within x0 x1 x2 = r1 ∧ h = h1) :=
  zC_of zk_Ox_within (by decide) rfl rfl (Nat.le_of_ble_eq_true rfl) (zw_Ox_within hd _ _ _ rfl ⟨rfl, rfl⟩)
theorem zb_Ox_within (x0 x1 x2 : Int) : sh_Ox_within x0 x1 x2 = 0 ∨ sh_Ox_within x0 x1 x2 = 1 := by
  unfold sh_Ox_within
  exact zor_ite (Or.inl rfl) (zor_ite (Or.inl rfl) (Or.inr rfl))
def sh_Ox_isPlace (x0 x1 : Int) : Int := (if sh_Ox_within x0 0 19 = 0 then 0 else (if sh_Ox_within x1 0 19 = 0 then 0 else 1 : Int) : Int)
set_option maxRecDepth 100000 in
set_option maxHeartbeats 4000000 in
theorem zw_Ox_isPlace {l : Launch} {E : zE} {d : Nat} (hd : 2 ≤ d) (x0 x1 : Int) {h : zHp} {Q : Int → zHp → Prop} {r0 : Int} (hF : sh_Ox_isPlace x0 x1 = r0) (K : Q r0 h) : zW l E d zm_Ox_isPlace 0 [.inl x0, .inl x1] [] h Q := by
  rw [sh_Ox_isPlace] at hF
  refine z_iload rfl rfl ?_
  refine z_const rfl ?_
  refine z_const rfl ?_
  refine z_ivs1 (d' := d - 1) (As := [.inl x0, .inl 0, .inl 19]) rfl rfl (zf_Ox_within (by omega) _ _ _) rfl (by omega) rfl (fun r1 h2 hR3 hQ4 => ?_)
  obtain ⟨rfl, rfl⟩ := hQ4
  have hJ11 : zW l E d zm_Ox_isPlace 13 [zJk, zJk] [.inl (if sh_Ox_within x0 0 19 = 0 then 0 else (if sh_Ox_within x1 0 19 = 0 then 0 else 1 : Int) : Int)] h Q := by
    subst hF
    exact z_zret rfl rfl (zor_ite (Or.inl rfl) (zor_ite (Or.inl rfl) (Or.inr rfl))) K
  refine z_zeq rfl (fun c5 => ?_) (fun c5 => ?_)
  · refine z_const rfl ?_
    refine zsubL (L' := [zJk, zJk]) ⟨Or.inr rfl, Or.inr rfl, trivial⟩ ?_
    exact zcast (by first | rfl | (simp only [if_pos c5] <;> rfl)) (by first | rfl | (simp only [if_pos c5] <;> rfl)) hJ11
  · refine z_iload rfl rfl ?_
    refine z_const rfl ?_
    refine z_const rfl ?_
    refine z_ivs1 (d' := d - 1) (As := [.inl x1, .inl 0, .inl 19]) rfl rfl (zf_Ox_within (by omega) _ _ _) rfl (by omega) rfl (fun r6 h7 hR8 hQ9 => ?_)
    obtain ⟨rfl, rfl⟩ := hQ9
    refine z_zeq rfl (fun c10 => ?_) (fun c10 => ?_)
    · refine z_const rfl ?_
      refine zsubL (L' := [zJk, zJk]) ⟨Or.inr rfl, Or.inr rfl, trivial⟩ ?_
      exact zcast (by first | rfl | (simp only [if_neg c5, if_pos c10] <;> rfl)) (by first | rfl | (simp only [if_neg c5, if_pos c10] <;> rfl)) hJ11
    · refine z_const rfl ?_
      refine z_goto rfl ?_
      refine zsubL (L' := [zJk, zJk]) ⟨Or.inr rfl, Or.inr rfl, trivial⟩ ?_
      exact zcast (by first | rfl | (simp only [if_neg c5, if_neg c10] <;> rfl)) (by first | rfl | (simp only [if_neg c5, if_neg c10] <;> rfl)) hJ11
set_option maxRecDepth 100000 in
theorem zf_Ox_isPlace {l : Launch} {E : zE} {d : Nat} (hd : 2 ≤ d) (x0 x1 : Int) {h : zHp} : zC l E d zm_Ox_isPlace [.inl x0, .inl x1] h (fun r1 h1 => sh_Ox_isPlace x0 x1 = r1 ∧ h = h1) :=
  zC_of zk_Ox_isPlace (by decide) rfl rfl (Nat.le_of_ble_eq_true rfl) (zw_Ox_isPlace hd _ _ rfl ⟨rfl, rfl⟩)
theorem zb_Ox_isPlace (x0 x1 : Int) : sh_Ox_isPlace x0 x1 = 0 ∨ sh_Ox_isPlace x0 x1 = 1 := by
  unfold sh_Ox_isPlace
  exact zor_ite (Or.inl rfl) (zor_ite (Or.inl rfl) (Or.inr rfl))
def sh_Ox_isDigit (x0 : Int) : Int := sh_Ox_within x0 0 9
set_option maxRecDepth 100000 in
set_option maxHeartbeats 4000000 in
theorem zw_Ox_isDigit {l : Launch} {E : zE} {d : Nat} (hd : 2 ≤ d) (x0 : Int) {h : zHp} {Q : Int → zHp → Prop} {r0 : Int} (hF : sh_Ox_isDigit x0 = r0) (K : Q r0 h) : zW l E d zm_Ox_isDigit 0 [.inl x0] [] h Q := by
  rw [sh_Ox_isDigit] at hF
  refine z_iload rfl rfl ?_
  refine z_const rfl ?_
  refine z_const rfl ?_
  refine z_ivs1 (d' := d - 1) (As := [.inl x0, .inl 0, .inl 9]) rfl rfl (zf_Ox_within (by omega) _ _ _) rfl (by omega) rfl (fun r1 h2 hR3 hQ4 => ?_)
  obtain ⟨rfl, rfl⟩ := hQ4
  subst hF
  exact z_zret rfl rfl (zRr_z rfl hR3) K
set_option maxRecDepth 100000 in
theorem zf_Ox_isDigit {l : Launch} {E : zE} {d : Nat} (hd : 2 ≤ d) (x0 : Int) {h : zHp} : zC l E d zm_Ox_isDigit [.inl x0] h (fun r1 h1 => sh_Ox_isDigit x0 = r1 ∧ h = h1) :=
  zC_of zk_Ox_isDigit (by decide) rfl rfl (Nat.le_of_ble_eq_true rfl) (zw_Ox_isDigit hd _ rfl ⟨rfl, rfl⟩)
theorem zb_Ox_isDigit (x0 : Int) : sh_Ox_isDigit x0 = 0 ∨ sh_Ox_isDigit x0 = 1 := by
  unfold sh_Ox_isDigit
  exact zb_Ox_within _ _ _
def sh_Ox_farm (x1 x2 x3 : Int) (h : zHp) : Option (Int × zHp) := (if 5 ≤ h 1 0 then some ((-1), h) else (if sh_Ox_isPlace x1 x2 = 0 then some ((-1), h) else (if sh_Ox_isDigit x3 = 0 then some ((-1), h) else some (h 1 0, zst (rput (rput (rput h 3 5 (h 1 0) x1) 5 5 (h 1 0) x2) 7 5 (h 1 0) x3) 1 0 (w32 ((h 1 0) + 1))))))
set_option maxRecDepth 100000 in
set_option maxHeartbeats 4000000 in
theorem zw_Ox_farm {l : Launch} {E : zE} {d : Nat} (hd : 3 ≤ d) (x1 x2 x3 : Int) {h : zHp} {Q : Int → zHp → Prop} {r0 : Int} {h0 : zHp} (hF : sh_Ox_farm x1 x2 x3 h = some (r0, h0)) (K : Q r0 h0) : zW l E d zm_Ox_farm 0 [.inr (.inr 0), .inl x1, .inl x2, .inl x3, zJk] [] h Q := by
  rw [sh_Ox_farm] at hF
  refine z_aload rfl rfl rfl ?_
  refine z_getr (r := 1) rfl rfl rfl rfl ?_
  refine z_geti rfl rfl rfl rfl ?_
  refine z_istore rfl rfl rfl ?_
  refine z_iload rfl rfl ?_
  refine z_const rfl ?_
  refine z_cge rfl (fun c1 => ?_) (fun c1 => ?_)
  · rw [if_pos c1] at hF
    refine z_const rfl ?_
    obtain ⟨rfl, rfl⟩ := zinj2 hF
    exact z_iret rfl rfl K
  · rw [if_neg c1] at hF
    refine z_iload rfl rfl ?_
    refine z_iload rfl rfl ?_
    refine z_ivs1 (d' := d - 1) (As := [.inl x1, .inl x2]) rfl rfl (zf_Ox_isPlace (by omega) _ _) rfl (by omega) rfl (fun r2 h3 hR4 hQ5 => ?_)
    obtain ⟨rfl, rfl⟩ := hQ5
    refine z_zeq rfl (fun c6 => ?_) (fun c6 => ?_)
    · rw [if_pos c6] at hF
      refine z_const rfl ?_
      obtain ⟨rfl, rfl⟩ := zinj2 hF
      exact z_iret rfl rfl K
    · rw [if_neg c6] at hF
      refine z_iload rfl rfl ?_
      refine z_ivs1 (d' := d - 1) (As := [.inl x3]) rfl rfl (zf_Ox_isDigit (by omega) _) rfl (by omega) rfl (fun r7 h8 hR9 hQ10 => ?_)
      obtain ⟨rfl, rfl⟩ := hQ10
      refine z_zne rfl (fun c11 => ?_) (fun c11 => ?_)
      · rw [if_neg c11] at hF
        refine z_aload rfl rfl rfl ?_
        refine z_getr (r := 1) rfl rfl rfl rfl ?_
        refine z_getr (r := 2) rfl rfl rfl rfl ?_
        refine z_iload rfl rfl ?_
        refine z_iload rfl rfl ?_
        refine z_inv0 (d' := d - 1) (As := [.inl (h 1 0), .inl x1]) rfl rfl (zf_Row_put (r := 2) (a := 3) (n := 5) rfl rfl _ _) rfl rfl rfl (by omega) rfl (fun r12 h13 hR14 hQ15 => ?_)
        obtain ⟨rfl, rfl⟩ := hQ15
        refine z_aload rfl rfl rfl ?_
        refine z_getr (r := 1) rfl rfl rfl rfl ?_
        refine z_getr (r := 4) rfl rfl rfl rfl ?_
        refine z_iload rfl rfl ?_
        refine z_iload rfl rfl ?_
        refine z_inv0 (d' := d - 1) (As := [.inl (h 1 0), .inl x2]) rfl rfl (zf_Row_put (r := 4) (a := 5) (n := 5) rfl rfl _ _) rfl rfl rfl (by omega) rfl (fun r16 h17 hR18 hQ19 => ?_)
        obtain ⟨rfl, rfl⟩ := hQ19
        refine z_aload rfl rfl rfl ?_
        refine z_getr (r := 1) rfl rfl rfl rfl ?_
        refine z_getr (r := 6) rfl rfl rfl rfl ?_
        refine z_iload rfl rfl ?_
        refine z_iload rfl rfl ?_
        refine z_inv0 (d' := d - 1) (As := [.inl (h 1 0), .inl x3]) rfl rfl (zf_Row_put (r := 6) (a := 7) (n := 5) rfl rfl _ _) rfl rfl rfl (by omega) rfl (fun r20 h21 hR22 hQ23 => ?_)
        obtain ⟨rfl, rfl⟩ := hQ23
        refine z_aload rfl rfl rfl ?_
        refine z_getr (r := 1) rfl rfl rfl rfl ?_
        refine z_iload rfl rfl ?_
        refine z_const rfl ?_
        refine z_iadd rfl ?_
        refine z_puti rfl rfl rfl rfl ?_
        refine z_iload rfl rfl ?_
        obtain ⟨rfl, rfl⟩ := zinj2 hF
        exact z_iret rfl rfl K
      · rw [if_pos c11] at hF
        refine z_const rfl ?_
        obtain ⟨rfl, rfl⟩ := zinj2 hF
        exact z_iret rfl rfl K
set_option maxRecDepth 100000 in
theorem zf_Ox_farm {l : Launch} {E : zE} {d : Nat} (hd : 3 ≤ d) (x1 x2 x3 : Int) {h : zHp} {r0 : Int} {h0 : zHp} (hF : sh_Ox_farm x1 x2 x3 h = some (r0, h0)) : zC l E d zm_Ox_farm [.inr (.inr 0), .inl x1, .inl x2, .inl x3] h (fun r1 h1 => r0 = r1 ∧ h0 = h1) :=
  zC_of zk_Ox_farm (by decide) rfl rfl (Nat.le_of_ble_eq_true rfl) (zw_Ox_farm hd _ _ _ hF ⟨rfl, rfl⟩)
def sh_Mo_isIn (x0 x1 x2 : Int) : Int := (if x0 < x1 then 0 else (if x2 < x0 then 0 else 1 : Int) : Int)
set_option maxRecDepth 100000 in
set_option maxHeartbeats 4000000 in
theorem zw_Mo_isIn {l : Launch} {E : zE} {d : Nat} (hd : 1 ≤ d) (x0 x1 x2 : Int) {h : zHp} {Q : Int → zHp → Prop} {r0 : Int} (hF : sh_Mo_isIn x0 x1 x2 = r0) (K : Q r0 h) : zW l E d zm_Mo_isIn 0 [.inl x0, .inl x1, .inl x2] [] h Q := by
  rw [sh_Mo_isIn] at hF
  refine z_iload rfl rfl ?_
  refine z_iload rfl rfl ?_
  have hJ3 : zW l E d zm_Mo_isIn 9 [zJk, zJk, zJk] [.inl (if x0 < x1 then 0 else (if x2 < x0 then 0 else 1 : Int) : Int)] h Q := by
    subst hF
    exact z_zret rfl rfl (zor_ite (Or.inl rfl) (zor_ite (Or.inl rfl) (Or.inr rfl))) K
  refine z_clt rfl (fun c1 => ?_) (fun c1 => ?_)
  · refine z_const rfl ?_
    refine zsubL (L' := [zJk, zJk, zJk]) ⟨Or.inr rfl, Or.inr rfl, Or.inr rfl, trivial⟩ ?_
    exact zcast (by first | rfl | (simp only [if_pos c1] <;> rfl)) (by first | rfl | (simp only [if_pos c1] <;> rfl)) hJ3
  · refine z_iload rfl rfl ?_
    refine z_iload rfl rfl ?_
    refine z_cgt rfl (fun c2 => ?_) (fun c2 => ?_)
    · refine z_const rfl ?_
      refine zsubL (L' := [zJk, zJk, zJk]) ⟨Or.inr rfl, Or.inr rfl, Or.inr rfl, trivial⟩ ?_
      exact zcast (by first | rfl | (simp only [if_neg c1, if_pos c2] <;> rfl)) (by first | rfl | (simp only [if_neg c1, if_pos c2] <;> rfl)) hJ3
    · refine z_const rfl ?_
      refine z_goto rfl ?_
      refine zsubL (L' := [zJk, zJk, zJk]) ⟨Or.inr rfl, Or.inr rfl, Or.inr rfl, trivial⟩ ?_
      exact zcast (by first | rfl | (simp only [if_neg c1, if_neg c2] <;> rfl)) (by first | rfl | (simp only [if_neg c1, if_neg c2] <;> rfl)) hJ3
set_option maxRecDepth 100000 in
theorem zf_Mo_isIn {l : Launch} {E : zE} {d : Nat} (hd : 1 ≤ d) (x0 x1 x2 : Int) {h : zHp} : zC l E d zm_Mo_isIn [.inl x0, .inl x1, .inl x2] h (fun r1 h1 => sh_Mo_isIn x0 x1 x2 = r1 ∧ h = h1) :=
  zC_of zk_Mo_isIn (by decide) rfl rfl (Nat.le_of_ble_eq_true rfl) (zw_Mo_isIn hd _ _ _ rfl ⟨rfl, rfl⟩)
theorem zb_Mo_isIn (x0 x1 x2 : Int) : sh_Mo_isIn x0 x1 x2 = 0 ∨ sh_Mo_isIn x0 x1 x2 = 1 := by
  unfold sh_Mo_isIn
  exact zor_ite (Or.inl rfl) (zor_ite (Or.inl rfl) (Or.inr rfl))
def sh_Mo_farm (N : Nat) (x1 x2 x3 : Int) (h : zHp) : Option (Int × zHp) := (if sh_Mo_isIn x1 0 19 = 0 then some ((-1), h) else (if sh_Mo_isIn x2 0 19 = 0 then some ((-1), h) else (if sh_Mo_isIn x3 0 9 = 0 then some ((-1), h) else (if h 86 0 = 5 then some ((-1), h) else if 0 ≤ w32 (10 + (w32 (3 * (h 86 0)))) ∧ w32 (10 + (w32 (3 * (h 86 0)))) < 1061 then if 0 ≤ w32 ((w32 (10 + (w32 (3 * (h 86 0))))) + 1) ∧ w32 ((w32 (10 + (w32 (3 * (h 86 0))))) + 1) < 1061 then if 0 ≤ w32 ((w32 (10 + (w32 (3 * (h 86 0))))) + 2) ∧ w32 ((w32 (10 + (w32 (3 * (h 86 0))))) + 2) < 1061 then some (w32 (((zst (zst (zst (zst h 86 (w32 (10 + (w32 (3 * (h 86 0))))).toNat x1) 86 (w32 ((w32 (10 + (w32 (3 * (h 86 0))))) + 1)).toNat x2) 86 (w32 ((w32 (10 + (w32 (3 * (h 86 0))))) + 2)).toNat x3) 86 0 (w32 (((zst (zst (zst h 86 (w32 (10 + (w32 (3 * (h 86 0))))).toNat x1) 86 (w32 ((w32 (10 + (w32 (3 * (h 86 0))))) + 1)).toNat x2) 86 (w32 ((w32 (10 + (w32 (3 * (h 86 0))))) + 2)).toNat x3) 86 0) + 1))) 86 0) - 1), zst (zst (zst (zst h 86 (w32 (10 + (w32 (3 * (h 86 0))))).toNat x1) 86 (w32 ((w32 (10 + (w32 (3 * (h 86 0))))) + 1)).toNat x2) 86 (w32 ((w32 (10 + (w32 (3 * (h 86 0))))) + 2)).toNat x3) 86 0 (w32 (((zst (zst (zst h 86 (w32 (10 + (w32 (3 * (h 86 0))))).toNat x1) 86 (w32 ((w32 (10 + (w32 (3 * (h 86 0))))) + 1)).toNat x2) 86 (w32 ((w32 (10 + (w32 (3 * (h 86 0))))) + 2)).toNat x3) 86 0) + 1))) else none else none else none))))
set_option maxRecDepth 100000 in
set_option maxHeartbeats 4000000 in
theorem zw_Mo_farm {l : Launch} {E : zE} {d : Nat} (hd : 2 ≤ d) (N : Nat) (x1 x2 x3 : Int) {h : zHp} {Q : Int → zHp → Prop} {r0 : Int} {h0 : zHp} (hF : sh_Mo_farm N x1 x2 x3 h = some (r0, h0)) (K : Q r0 h0) : zW l E d zm_Mo_farm 0 [.inr (.inr 85), .inl x1, .inl x2, .inl x3, zJk] [] h Q := by
  rw [sh_Mo_farm] at hF
  refine z_iload rfl rfl ?_
  refine z_const rfl ?_
  refine z_const rfl ?_
  refine z_ivs1 (d' := d - 1) (As := [.inl x1, .inl 0, .inl 19]) rfl rfl (zf_Mo_isIn (by omega) _ _ _) rfl (by omega) rfl (fun r1 h2 hR3 hQ4 => ?_)
  obtain ⟨rfl, rfl⟩ := hQ4
  refine z_zeq rfl (fun c5 => ?_) (fun c5 => ?_)
  · rw [if_pos c5] at hF
    refine z_const rfl ?_
    obtain ⟨rfl, rfl⟩ := zinj2 hF
    exact z_iret rfl rfl K
  · rw [if_neg c5] at hF
    refine z_iload rfl rfl ?_
    refine z_const rfl ?_
    refine z_const rfl ?_
    refine z_ivs1 (d' := d - 1) (As := [.inl x2, .inl 0, .inl 19]) rfl rfl (zf_Mo_isIn (by omega) _ _ _) rfl (by omega) rfl (fun r6 h7 hR8 hQ9 => ?_)
    obtain ⟨rfl, rfl⟩ := hQ9
    refine z_zeq rfl (fun c10 => ?_) (fun c10 => ?_)
    · rw [if_pos c10] at hF
      refine z_const rfl ?_
      obtain ⟨rfl, rfl⟩ := zinj2 hF
      exact z_iret rfl rfl K
    · rw [if_neg c10] at hF
      refine z_iload rfl rfl ?_
      refine z_const rfl ?_
      refine z_const rfl ?_
      refine z_ivs1 (d' := d - 1) (As := [.inl x3, .inl 0, .inl 9]) rfl rfl (zf_Mo_isIn (by omega) _ _ _) rfl (by omega) rfl (fun r11 h12 hR13 hQ14 => ?_)
      obtain ⟨rfl, rfl⟩ := hQ14
      refine z_zeq rfl (fun c15 => ?_) (fun c15 => ?_)
      · rw [if_pos c15] at hF
        refine z_const rfl ?_
        obtain ⟨rfl, rfl⟩ := zinj2 hF
        exact z_iret rfl rfl K
      · rw [if_neg c15] at hF
        refine z_aload rfl rfl rfl ?_
        refine z_getr (r := 86) rfl rfl rfl rfl ?_
        refine z_const rfl ?_
        refine z_ialdc 0 rfl rfl rfl (by decide) ?_
        refine z_const rfl ?_
        refine z_cne rfl (fun c16 => ?_) (fun c16 => ?_)
        · rw [if_neg c16] at hF
          refine z_const rfl ?_
          refine z_const rfl ?_
          refine z_aload rfl rfl rfl ?_
          refine z_getr (r := 86) rfl rfl rfl rfl ?_
          refine z_const rfl ?_
          refine z_ialdc 0 rfl rfl rfl (by decide) ?_
          refine z_imul rfl ?_
          refine z_iadd rfl ?_
          refine z_istore rfl rfl rfl ?_
          refine z_aload rfl rfl rfl ?_
          refine z_getr (r := 86) rfl rfl rfl rfl ?_
          refine z_iload rfl rfl ?_
          refine z_iload rfl rfl ?_
          obtain ⟨g17, hF⟩ := zguard hF
          refine z_iast rfl rfl g17.1 g17.2 ?_
          refine z_aload rfl rfl rfl ?_
          refine z_getr (r := 86) rfl rfl rfl rfl ?_
          refine z_iload rfl rfl ?_
          refine z_const rfl ?_
          refine z_iadd rfl ?_
          refine z_iload rfl rfl ?_
          obtain ⟨g18, hF⟩ := zguard hF
          refine z_iast rfl rfl g18.1 g18.2 ?_
          refine z_aload rfl rfl rfl ?_
          refine z_getr (r := 86) rfl rfl rfl rfl ?_
          refine z_iload rfl rfl ?_
          refine z_const rfl ?_
          refine z_iadd rfl ?_
          refine z_iload rfl rfl ?_
          obtain ⟨g19, hF⟩ := zguard hF
          refine z_iast rfl rfl g19.1 g19.2 ?_
          refine z_aload rfl rfl rfl ?_
          refine z_getr (r := 86) rfl rfl rfl rfl ?_
          refine z_const rfl ?_
          refine z_dup2 rfl rfl rfl ?_
          refine z_ialdc 0 rfl rfl rfl (by decide) ?_
          refine z_const rfl ?_
          refine z_iadd rfl ?_
          refine z_iastc 0 rfl rfl rfl (by decide) ?_
          refine z_aload rfl rfl rfl ?_
          refine z_getr (r := 86) rfl rfl rfl rfl ?_
          refine z_const rfl ?_
          refine z_ialdc 0 rfl rfl rfl (by decide) ?_
          refine z_const rfl ?_
          refine z_isub rfl ?_
          obtain ⟨rfl, rfl⟩ := zinj2 hF
          exact z_iret rfl rfl K
        · rw [if_pos c16] at hF
          refine z_const rfl ?_
          obtain ⟨rfl, rfl⟩ := zinj2 hF
          exact z_iret rfl rfl K
set_option maxRecDepth 100000 in
theorem zf_Mo_farm {l : Launch} {E : zE} {d : Nat} (hd : 2 ≤ d) (N : Nat) (x1 x2 x3 : Int) {h : zHp} {r0 : Int} {h0 : zHp} (hF : sh_Mo_farm N x1 x2 x3 h = some (r0, h0)) : zC l E d zm_Mo_farm [.inr (.inr 85), .inl x1, .inl x2, .inl x3] h (fun r1 h1 => r0 = r1 ∧ h0 = h1) :=
  zC_of zk_Mo_farm (by decide) rfl rfl (Nat.le_of_ble_eq_true rfl) (zw_Mo_farm hd N _ _ _ hF ⟨rfl, rfl⟩)
def sh_Herd_setFurrows_14 (x1 x2 : Int) (h : zHp) : zHp := rput h 16 71 (w32 (3 + x1)) x2
set_option maxRecDepth 100000 in
set_option maxHeartbeats 4000000 in
theorem zw_Herd_setFurrows_14 {l : Launch} {E : zE} {d : Nat} (hd : 2 ≤ d) (x1 x2 : Int) {h : zHp} {Q : Int → zHp → Prop} {h0 : zHp} (hF : sh_Herd_setFurrows_14 x1 x2 h = h0) (K : Q 0 h0) : zW l E d zm_Herd_setFurrows 0 [.inr (.inr 14), .inl x1, .inl x2] [] h Q := by
  rw [sh_Herd_setFurrows_14] at hF
  refine z_aload rfl rfl rfl ?_
  refine z_getr (r := 15) rfl rfl rfl rfl ?_
  refine z_const rfl ?_
  refine z_iload rfl rfl ?_
  refine z_iadd rfl ?_
  refine z_iload rfl rfl ?_
  refine z_inv0 (d' := d - 1) (As := [.inl (w32 (3 + x1)), .inl x2]) rfl rfl (zf_Row_put (r := 15) (a := 16) (n := 71) rfl rfl _ _) rfl rfl rfl (by omega) rfl (fun r1 h2 hR3 hQ4 => ?_)
  obtain ⟨rfl, rfl⟩ := hQ4
  subst hF
  exact z_ret rfl rfl rfl K
set_option maxRecDepth 100000 in
theorem zf_Herd_setFurrows_14 {l : Launch} {E : zE} {d : Nat} (hd : 2 ≤ d) (x1 x2 : Int) {h : zHp} : zC l E d zm_Herd_setFurrows [.inr (.inr 14), .inl x1, .inl x2] h (fun r1 h1 => 0 = r1 ∧ sh_Herd_setFurrows_14 x1 x2 h = h1) :=
  zC_of zk_Herd_setFurrows (by decide) rfl rfl (Nat.le_of_ble_eq_true rfl) (zw_Herd_setFurrows_14 hd _ _ rfl ⟨rfl, rfl⟩)
def sh_Herd_addField_14 (x1 : Int) (h : zHp) : zHp := rput (sh_Herd_setFurrows_14 (sh_Herd_fields_14 h) x1 h) 16 71 1 (w32 ((sh_Herd_fields_14 (sh_Herd_setFurrows_14 (sh_Herd_fields_14 h) x1 h)) + 1))
set_option maxRecDepth 100000 in
set_option maxHeartbeats 4000000 in
theorem zw_Herd_addField_14 {l : Launch} {E : zE} {d : Nat} (hd : 3 ≤ d) (x1 : Int) {h : zHp} {Q : Int → zHp → Prop} {h0 : zHp} (hF : sh_Herd_addField_14 x1 h = h0) (K : Q 0 h0) : zW l E d zm_Herd_addField 0 [.inr (.inr 14), .inl x1] [] h Q := by
  rw [sh_Herd_addField_14] at hF
  refine z_aload rfl rfl rfl ?_
  refine z_aload rfl rfl rfl ?_
  refine z_inv1 (d' := d - 1) (As := []) rfl rfl (zf_Herd_fields_14 (by omega)) rfl rfl rfl (by omega) rfl (fun r1 h2 hR3 hQ4 => ?_)
  obtain ⟨rfl, rfl⟩ := hQ4
  refine z_iload rfl rfl ?_
  refine z_inv0 (d' := d - 1) (As := [.inl (sh_Herd_fields_14 h), .inl x1]) rfl rfl (zf_Herd_setFurrows_14 (by omega) _ _) rfl rfl rfl (by omega) rfl (fun r5 h6 hR7 hQ8 => ?_)
  obtain ⟨rfl, rfl⟩ := hQ8
  refine z_aload rfl rfl rfl ?_
  refine z_getr (r := 15) rfl rfl rfl rfl ?_
  refine z_const rfl ?_
  refine z_aload rfl rfl rfl ?_
  refine z_inv1 (d' := d - 1) (As := []) rfl rfl (zf_Herd_fields_14 (by omega)) rfl rfl rfl (by omega) rfl (fun r9 h10 hR11 hQ12 => ?_)
  obtain ⟨rfl, rfl⟩ := hQ12
  refine z_const rfl ?_
  refine z_iadd rfl ?_
  refine z_inv0 (d' := d - 1) (As := [.inl 1, .inl (w32 ((sh_Herd_fields_14 (sh_Herd_setFurrows_14 (sh_Herd_fields_14 h) x1 h)) + 1))]) rfl rfl (zf_Row_put (r := 15) (a := 16) (n := 71) rfl rfl _ _) rfl rfl rfl (by omega) rfl (fun r13 h14 hR15 hQ16 => ?_)
  obtain ⟨rfl, rfl⟩ := hQ16
  subst hF
  exact z_ret rfl rfl rfl K
set_option maxRecDepth 100000 in
theorem zf_Herd_addField_14 {l : Launch} {E : zE} {d : Nat} (hd : 3 ≤ d) (x1 : Int) {h : zHp} : zC l E d zm_Herd_addField [.inr (.inr 14), .inl x1] h (fun r1 h1 => 0 = r1 ∧ sh_Herd_addField_14 x1 h = h1) :=
  zC_of zk_Herd_addField (by decide) rfl rfl (Nat.le_of_ble_eq_true rfl) (zw_Herd_addField_14 hd _ rfl ⟨rfl, rfl⟩)
def sh_Ox_field (x1 x2 x3 x4 : Int) (h : zHp) : Option (Int × zHp) := (if 4 ≤ sh_Herd_fields_14 h then some ((-1), h) else (if sh_Ox_isPlace x1 x2 = 0 then some ((-1), h) else (if sh_Ox_isDigit x3 = 0 then some ((-1), h) else (if sh_Ox_within x4 0 99 = 0 then some ((-1), h) else some (sh_Herd_fields_14 h, sh_Herd_addField_14 x4 (rput (rput (rput h 9 4 (sh_Herd_fields_14 h) x1) 11 4 (sh_Herd_fields_14 h) x2) 13 4 (sh_Herd_fields_14 h) x3))))))
set_option maxRecDepth 100000 in
set_option maxHeartbeats 4000000 in
theorem zw_Ox_field {l : Launch} {E : zE} {d : Nat} (hd : 4 ≤ d) (x1 x2 x3 x4 : Int) {h : zHp} {Q : Int → zHp → Prop} {r0 : Int} {h0 : zHp} (hF : sh_Ox_field x1 x2 x3 x4 h = some (r0, h0)) (K : Q r0 h0) : zW l E d zm_Ox_field 0 [.inr (.inr 0), .inl x1, .inl x2, .inl x3, .inl x4, zJk] [] h Q := by
  rw [sh_Ox_field] at hF
  refine z_aload rfl rfl rfl ?_
  refine z_getr (r := 1) rfl rfl rfl rfl ?_
  refine z_getr (r := 14) rfl rfl rfl rfl ?_
  refine z_inv1 (d' := d - 1) (As := []) rfl rfl (zf_Herd_fields_14 (by omega)) rfl rfl rfl (by omega) rfl (fun r1 h2 hR3 hQ4 => ?_)
  obtain ⟨rfl, rfl⟩ := hQ4
  refine z_istore rfl rfl rfl ?_
  refine z_iload rfl rfl ?_
  refine z_const rfl ?_
  refine z_cge rfl (fun c5 => ?_) (fun c5 => ?_)
  · rw [if_pos c5] at hF
    refine z_const rfl ?_
    obtain ⟨rfl, rfl⟩ := zinj2 hF
    exact z_iret rfl rfl K
  · rw [if_neg c5] at hF
    refine z_iload rfl rfl ?_
    refine z_iload rfl rfl ?_
    refine z_ivs1 (d' := d - 1) (As := [.inl x1, .inl x2]) rfl rfl (zf_Ox_isPlace (by omega) _ _) rfl (by omega) rfl (fun r6 h7 hR8 hQ9 => ?_)
    obtain ⟨rfl, rfl⟩ := hQ9
    refine z_zeq rfl (fun c10 => ?_) (fun c10 => ?_)
    · rw [if_pos c10] at hF
      refine z_const rfl ?_
      obtain ⟨rfl, rfl⟩ := zinj2 hF
      exact z_iret rfl rfl K
    · rw [if_neg c10] at hF
      refine z_iload rfl rfl ?_
      refine z_ivs1 (d' := d - 1) (As := [.inl x3]) rfl rfl (zf_Ox_isDigit (by omega) _) rfl (by omega) rfl (fun r11 h12 hR13 hQ14 => ?_)
      obtain ⟨rfl, rfl⟩ := hQ14
      refine z_zeq rfl (fun c15 => ?_) (fun c15 => ?_)
      · rw [if_pos c15] at hF
        refine z_const rfl ?_
        obtain ⟨rfl, rfl⟩ := zinj2 hF
        exact z_iret rfl rfl K
      · rw [if_neg c15] at hF
        refine z_iload rfl rfl ?_
        refine z_const rfl ?_
        refine z_const rfl ?_
        refine z_ivs1 (d' := d - 1) (As := [.inl x4, .inl 0, .inl 99]) rfl rfl (zf_Ox_within (by omega) _ _ _) rfl (by omega) rfl (fun r16 h17 hR18 hQ19 => ?_)
        obtain ⟨rfl, rfl⟩ := hQ19
        refine z_zne rfl (fun c20 => ?_) (fun c20 => ?_)
        · rw [if_neg c20] at hF
          refine z_aload rfl rfl rfl ?_
          refine z_getr (r := 1) rfl rfl rfl rfl ?_
          refine z_getr (r := 8) rfl rfl rfl rfl ?_
          refine z_iload rfl rfl ?_
          refine z_iload rfl rfl ?_
          refine z_inv0 (d' := d - 1) (As := [.inl (sh_Herd_fields_14 h), .inl x1]) rfl rfl (zf_Row_put (r := 8) (a := 9) (n := 4) rfl rfl _ _) rfl rfl rfl (by omega) rfl (fun r21 h22 hR23 hQ24 => ?_)
          obtain ⟨rfl, rfl⟩ := hQ24
          refine z_aload rfl rfl rfl ?_
          refine z_getr (r := 1) rfl rfl rfl rfl ?_
          refine z_getr (r := 10) rfl rfl rfl rfl ?_
          refine z_iload rfl rfl ?_
          refine z_iload rfl rfl ?_
          refine z_inv0 (d' := d - 1) (As := [.inl (sh_Herd_fields_14 h), .inl x2]) rfl rfl (zf_Row_put (r := 10) (a := 11) (n := 4) rfl rfl _ _) rfl rfl rfl (by omega) rfl (fun r25 h26 hR27 hQ28 => ?_)
          obtain ⟨rfl, rfl⟩ := hQ28
          refine z_aload rfl rfl rfl ?_
          refine z_getr (r := 1) rfl rfl rfl rfl ?_
          refine z_getr (r := 12) rfl rfl rfl rfl ?_
          refine z_iload rfl rfl ?_
          refine z_iload rfl rfl ?_
          refine z_inv0 (d' := d - 1) (As := [.inl (sh_Herd_fields_14 h), .inl x3]) rfl rfl (zf_Row_put (r := 12) (a := 13) (n := 4) rfl rfl _ _) rfl rfl rfl (by omega) rfl (fun r29 h30 hR31 hQ32 => ?_)
          obtain ⟨rfl, rfl⟩ := hQ32
          refine z_aload rfl rfl rfl ?_
          refine z_getr (r := 1) rfl rfl rfl rfl ?_
          refine z_getr (r := 14) rfl rfl rfl rfl ?_
          refine z_iload rfl rfl ?_
          refine z_inv0 (d' := d - 1) (As := [.inl x4]) rfl rfl (zf_Herd_addField_14 (by omega) _) rfl rfl rfl (by omega) rfl (fun r33 h34 hR35 hQ36 => ?_)
          obtain ⟨rfl, rfl⟩ := hQ36
          refine z_iload rfl rfl ?_
          obtain ⟨rfl, rfl⟩ := zinj2 hF
          exact z_iret rfl rfl K
        · rw [if_pos c20] at hF
          refine z_const rfl ?_
          obtain ⟨rfl, rfl⟩ := zinj2 hF
          exact z_iret rfl rfl K
set_option maxRecDepth 100000 in
theorem zf_Ox_field {l : Launch} {E : zE} {d : Nat} (hd : 4 ≤ d) (x1 x2 x3 x4 : Int) {h : zHp} {r0 : Int} {h0 : zHp} (hF : sh_Ox_field x1 x2 x3 x4 h = some (r0, h0)) : zC l E d zm_Ox_field [.inr (.inr 0), .inl x1, .inl x2, .inl x3, .inl x4] h (fun r1 h1 => r0 = r1 ∧ h0 = h1) :=
  zC_of zk_Ox_field (by decide) rfl rfl (Nat.le_of_ble_eq_true rfl) (zw_Ox_field hd _ _ _ _ hF ⟨rfl, rfl⟩)
def sh_Mo_field (N : Nat) (x1 x2 x3 x4 : Int) (h : zHp) : Option (Int × zHp) := (if sh_Mo_isIn x1 0 19 = 0 then some ((-1), h) else (if sh_Mo_isIn x2 0 19 = 0 then some ((-1), h) else (if sh_Mo_isIn x3 0 9 = 0 then some ((-1), h) else (if sh_Mo_isIn x4 0 99 = 0 then some ((-1), h) else (if h 86 1 = 4 then some ((-1), h) else if 0 ≤ w32 (25 + (w32 (4 * (h 86 1)))) ∧ w32 (25 + (w32 (4 * (h 86 1)))) < 1061 then if 0 ≤ w32 ((w32 (25 + (w32 (4 * (h 86 1))))) + 1) ∧ w32 ((w32 (25 + (w32 (4 * (h 86 1))))) + 1) < 1061 then if 0 ≤ w32 ((w32 (25 + (w32 (4 * (h 86 1))))) + 2) ∧ w32 ((w32 (25 + (w32 (4 * (h 86 1))))) + 2) < 1061 then if 0 ≤ w32 ((w32 (25 + (w32 (4 * (h 86 1))))) + 3) ∧ w32 ((w32 (25 + (w32 (4 * (h 86 1))))) + 3) < 1061 then some (w32 (((zst (zst (zst (zst (zst h 86 (w32 (25 + (w32 (4 * (h 86 1))))).toNat x1) 86 (w32 ((w32 (25 + (w32 (4 * (h 86 1))))) + 1)).toNat x2) 86 (w32 ((w32 (25 + (w32 (4 * (h 86 1))))) + 2)).toNat x3) 86 (w32 ((w32 (25 + (w32 (4 * (h 86 1))))) + 3)).toNat x4) 86 1 (w32 (((zst (zst (zst (zst h 86 (w32 (25 + (w32 (4 * (h 86 1))))).toNat x1) 86 (w32 ((w32 (25 + (w32 (4 * (h 86 1))))) + 1)).toNat x2) 86 (w32 ((w32 (25 + (w32 (4 * (h 86 1))))) + 2)).toNat x3) 86 (w32 ((w32 (25 + (w32 (4 * (h 86 1))))) + 3)).toNat x4) 86 1) + 1))) 86 1) - 1), zst (zst (zst (zst (zst h 86 (w32 (25 + (w32 (4 * (h 86 1))))).toNat x1) 86 (w32 ((w32 (25 + (w32 (4 * (h 86 1))))) + 1)).toNat x2) 86 (w32 ((w32 (25 + (w32 (4 * (h 86 1))))) + 2)).toNat x3) 86 (w32 ((w32 (25 + (w32 (4 * (h 86 1))))) + 3)).toNat x4) 86 1 (w32 (((zst (zst (zst (zst h 86 (w32 (25 + (w32 (4 * (h 86 1))))).toNat x1) 86 (w32 ((w32 (25 + (w32 (4 * (h 86 1))))) + 1)).toNat x2) 86 (w32 ((w32 (25 + (w32 (4 * (h 86 1))))) + 2)).toNat x3) 86 (w32 ((w32 (25 + (w32 (4 * (h 86 1))))) + 3)).toNat x4) 86 1) + 1))) else none else none else none else none)))))
set_option maxRecDepth 100000 in
set_option maxHeartbeats 4000000 in
theorem zw_Mo_field {l : Launch} {E : zE} {d : Nat} (hd : 2 ≤ d) (N : Nat) (x1 x2 x3 x4 : Int) {h : zHp} {Q : Int → zHp → Prop} {r0 : Int} {h0 : zHp} (hF : sh_Mo_field N x1 x2 x3 x4 h = some (r0, h0)) (K : Q r0 h0) : zW l E d zm_Mo_field 0 [.inr (.inr 85), .inl x1, .inl x2, .inl x3, .inl x4, zJk] [] h Q := by
  rw [sh_Mo_field] at hF
  refine z_iload rfl rfl ?_
  refine z_const rfl ?_
  refine z_const rfl ?_
  refine z_ivs1 (d' := d - 1) (As := [.inl x1, .inl 0, .inl 19]) rfl rfl (zf_Mo_isIn (by omega) _ _ _) rfl (by omega) rfl (fun r1 h2 hR3 hQ4 => ?_)
  obtain ⟨rfl, rfl⟩ := hQ4
  refine z_zeq rfl (fun c5 => ?_) (fun c5 => ?_)
  · rw [if_pos c5] at hF
    refine z_const rfl ?_
    obtain ⟨rfl, rfl⟩ := zinj2 hF
    exact z_iret rfl rfl K
  · rw [if_neg c5] at hF
    refine z_iload rfl rfl ?_
    refine z_const rfl ?_
    refine z_const rfl ?_
    refine z_ivs1 (d' := d - 1) (As := [.inl x2, .inl 0, .inl 19]) rfl rfl (zf_Mo_isIn (by omega) _ _ _) rfl (by omega) rfl (fun r6 h7 hR8 hQ9 => ?_)
    obtain ⟨rfl, rfl⟩ := hQ9
    refine z_zeq rfl (fun c10 => ?_) (fun c10 => ?_)
    · rw [if_pos c10] at hF
      refine z_const rfl ?_
      obtain ⟨rfl, rfl⟩ := zinj2 hF
      exact z_iret rfl rfl K
    · rw [if_neg c10] at hF
      refine z_iload rfl rfl ?_
      refine z_const rfl ?_
      refine z_const rfl ?_
      refine z_ivs1 (d' := d - 1) (As := [.inl x3, .inl 0, .inl 9]) rfl rfl (zf_Mo_isIn (by omega) _ _ _) rfl (by omega) rfl (fun r11 h12 hR13 hQ14 => ?_)
      obtain ⟨rfl, rfl⟩ := hQ14
      refine z_zeq rfl (fun c15 => ?_) (fun c15 => ?_)
      · rw [if_pos c15] at hF
        refine z_const rfl ?_
        obtain ⟨rfl, rfl⟩ := zinj2 hF
        exact z_iret rfl rfl K
      · rw [if_neg c15] at hF
        refine z_iload rfl rfl ?_
        refine z_const rfl ?_
        refine z_const rfl ?_
        refine z_ivs1 (d' := d - 1) (As := [.inl x4, .inl 0, .inl 99]) rfl rfl (zf_Mo_isIn (by omega) _ _ _) rfl (by omega) rfl (fun r16 h17 hR18 hQ19 => ?_)
        obtain ⟨rfl, rfl⟩ := hQ19
        refine z_zeq rfl (fun c20 => ?_) (fun c20 => ?_)
        · rw [if_pos c20] at hF
          refine z_const rfl ?_
          obtain ⟨rfl, rfl⟩ := zinj2 hF
          exact z_iret rfl rfl K
        · rw [if_neg c20] at hF
          refine z_aload rfl rfl rfl ?_
          refine z_getr (r := 86) rfl rfl rfl rfl ?_
          refine z_const rfl ?_
          refine z_ialdc 1 rfl rfl rfl (by decide) ?_
          refine z_const rfl ?_
          refine z_cne rfl (fun c21 => ?_) (fun c21 => ?_)
          · rw [if_neg c21] at hF
            refine z_const rfl ?_
            refine z_const rfl ?_
            refine z_aload rfl rfl rfl ?_
            refine z_getr (r := 86) rfl rfl rfl rfl ?_
            refine z_const rfl ?_
            refine z_ialdc 1 rfl rfl rfl (by decide) ?_
            refine z_imul rfl ?_
            refine z_iadd rfl ?_
            refine z_istore rfl rfl rfl ?_
            refine z_aload rfl rfl rfl ?_
            refine z_getr (r := 86) rfl rfl rfl rfl ?_
            refine z_iload rfl rfl ?_
            refine z_iload rfl rfl ?_
            obtain ⟨g22, hF⟩ := zguard hF
            refine z_iast rfl rfl g22.1 g22.2 ?_
            refine z_aload rfl rfl rfl ?_
            refine z_getr (r := 86) rfl rfl rfl rfl ?_
            refine z_iload rfl rfl ?_
            refine z_const rfl ?_
            refine z_iadd rfl ?_
            refine z_iload rfl rfl ?_
            obtain ⟨g23, hF⟩ := zguard hF
            refine z_iast rfl rfl g23.1 g23.2 ?_
            refine z_aload rfl rfl rfl ?_
            refine z_getr (r := 86) rfl rfl rfl rfl ?_
            refine z_iload rfl rfl ?_
            refine z_const rfl ?_
            refine z_iadd rfl ?_
            refine z_iload rfl rfl ?_
            obtain ⟨g24, hF⟩ := zguard hF
            refine z_iast rfl rfl g24.1 g24.2 ?_
            refine z_aload rfl rfl rfl ?_
            refine z_getr (r := 86) rfl rfl rfl rfl ?_
            refine z_iload rfl rfl ?_
            refine z_const rfl ?_
            refine z_iadd rfl ?_
            refine z_iload rfl rfl ?_
            obtain ⟨g25, hF⟩ := zguard hF
            refine z_iast rfl rfl g25.1 g25.2 ?_
            refine z_aload rfl rfl rfl ?_
            refine z_getr (r := 86) rfl rfl rfl rfl ?_
            refine z_const rfl ?_
            refine z_dup2 rfl rfl rfl ?_
            refine z_ialdc 1 rfl rfl rfl (by decide) ?_
            refine z_const rfl ?_
            refine z_iadd rfl ?_
            refine z_iastc 1 rfl rfl rfl (by decide) ?_
            refine z_aload rfl rfl rfl ?_
            refine z_getr (r := 86) rfl rfl rfl rfl ?_
            refine z_const rfl ?_
            refine z_ialdc 1 rfl rfl rfl (by decide) ?_
            refine z_const rfl ?_
            refine z_isub rfl ?_
            obtain ⟨rfl, rfl⟩ := zinj2 hF
            exact z_iret rfl rfl K
          · rw [if_pos c21] at hF
            refine z_const rfl ?_
            obtain ⟨rfl, rfl⟩ := zinj2 hF
            exact z_iret rfl rfl K
set_option maxRecDepth 100000 in
theorem zf_Mo_field {l : Launch} {E : zE} {d : Nat} (hd : 2 ≤ d) (N : Nat) (x1 x2 x3 x4 : Int) {h : zHp} {r0 : Int} {h0 : zHp} (hF : sh_Mo_field N x1 x2 x3 x4 h = some (r0, h0)) : zC l E d zm_Mo_field [.inr (.inr 85), .inl x1, .inl x2, .inl x3, .inl x4] h (fun r1 h1 => r0 = r1 ∧ h0 = h1) :=
  zC_of zk_Mo_field (by decide) rfl rfl (Nat.le_of_ble_eq_true rfl) (zw_Mo_field hd N _ _ _ _ hF ⟨rfl, rfl⟩)
def sh_Ox_isFarm (x1 : Int) (h : zHp) : Int := sh_Ox_within x1 0 (w32 ((h 1 0) - 1))
set_option maxRecDepth 100000 in
set_option maxHeartbeats 4000000 in
theorem zw_Ox_isFarm {l : Launch} {E : zE} {d : Nat} (hd : 2 ≤ d) (x1 : Int) {h : zHp} {Q : Int → zHp → Prop} {r0 : Int} (hF : sh_Ox_isFarm x1 h = r0) (K : Q r0 h) : zW l E d zm_Ox_isFarm 0 [.inr (.inr 0), .inl x1] [] h Q := by
  rw [sh_Ox_isFarm] at hF
  refine z_iload rfl rfl ?_
  refine z_const rfl ?_
  refine z_aload rfl rfl rfl ?_
  refine z_getr (r := 1) rfl rfl rfl rfl ?_
  refine z_geti rfl rfl rfl rfl ?_
  refine z_const rfl ?_
  refine z_isub rfl ?_
  refine z_ivs1 (d' := d - 1) (As := [.inl x1, .inl 0, .inl (w32 ((h 1 0) - 1))]) rfl rfl (zf_Ox_within (by omega) _ _ _) rfl (by omega) rfl (fun r1 h2 hR3 hQ4 => ?_)
  obtain ⟨rfl, rfl⟩ := hQ4
  subst hF
  exact z_zret rfl rfl (zRr_z rfl hR3) K
set_option maxRecDepth 100000 in
theorem zf_Ox_isFarm {l : Launch} {E : zE} {d : Nat} (hd : 2 ≤ d) (x1 : Int) {h : zHp} : zC l E d zm_Ox_isFarm [.inr (.inr 0), .inl x1] h (fun r1 h1 => sh_Ox_isFarm x1 h = r1 ∧ h = h1) :=
  zC_of zk_Ox_isFarm (by decide) rfl rfl (Nat.le_of_ble_eq_true rfl) (zw_Ox_isFarm hd _ rfl ⟨rfl, rfl⟩)
theorem zb_Ox_isFarm (x1 : Int) (h : zHp) : sh_Ox_isFarm x1 h = 0 ∨ sh_Ox_isFarm x1 h = 1 := by
  unfold sh_Ox_isFarm
  exact zb_Ox_within _ _ _
def sh_Ox_isFarmOrNone (x1 : Int) (h : zHp) : Int := (if x1 = (-1) then 1 else (if sh_Ox_isFarm x1 h = 0 then 0 else 1 : Int) : Int)
set_option maxRecDepth 100000 in
set_option maxHeartbeats 4000000 in
theorem zw_Ox_isFarmOrNone {l : Launch} {E : zE} {d : Nat} (hd : 3 ≤ d) (x1 : Int) {h : zHp} {Q : Int → zHp → Prop} {r0 : Int} (hF : sh_Ox_isFarmOrNone x1 h = r0) (K : Q r0 h) : zW l E d zm_Ox_isFarmOrNone 0 [.inr (.inr 0), .inl x1] [] h Q := by
  rw [sh_Ox_isFarmOrNone] at hF
  refine z_iload rfl rfl ?_
  refine z_const rfl ?_
  have hJ7 : zW l E d zm_Ox_isFarmOrNone 10 [zJk, zJk] [.inl (if x1 = (-1) then 1 else (if sh_Ox_isFarm x1 h = 0 then 0 else 1 : Int) : Int)] h Q := by
    subst hF
    exact z_zret rfl rfl (zor_ite (Or.inr rfl) (zor_ite (Or.inl rfl) (Or.inr rfl))) K
  refine z_ceq rfl (fun c1 => ?_) (fun c1 => ?_)
  · refine z_const rfl ?_
    refine z_goto rfl ?_
    refine zsubL (L' := [zJk, zJk]) ⟨Or.inr rfl, Or.inr rfl, trivial⟩ ?_
    exact zcast (by first | rfl | (simp only [if_pos c1] <;> rfl)) (by first | rfl | (simp only [if_pos c1] <;> rfl)) hJ7
  · refine z_aload rfl rfl rfl ?_
    refine z_iload rfl rfl ?_
    refine z_inv1 (d' := d - 1) (As := [.inl x1]) rfl rfl (zf_Ox_isFarm (by omega) _) rfl rfl rfl (by omega) rfl (fun r2 h3 hR4 hQ5 => ?_)
    obtain ⟨rfl, rfl⟩ := hQ5
    refine z_zeq rfl (fun c6 => ?_) (fun c6 => ?_)
    · refine z_const rfl ?_
      refine zsubL (L' := [zJk, zJk]) ⟨Or.inr rfl, Or.inr rfl, trivial⟩ ?_
      exact zcast (by first | rfl | (simp only [if_neg c1, if_pos c6] <;> rfl)) (by first | rfl | (simp only [if_neg c1, if_pos c6] <;> rfl)) hJ7
    · refine z_const rfl ?_
      refine z_goto rfl ?_
      refine zsubL (L' := [zJk, zJk]) ⟨Or.inr rfl, Or.inr rfl, trivial⟩ ?_
      exact zcast (by first | rfl | (simp only [if_neg c1, if_neg c6] <;> rfl)) (by first | rfl | (simp only [if_neg c1, if_neg c6] <;> rfl)) hJ7
set_option maxRecDepth 100000 in
theorem zf_Ox_isFarmOrNone {l : Launch} {E : zE} {d : Nat} (hd : 3 ≤ d) (x1 : Int) {h : zHp} : zC l E d zm_Ox_isFarmOrNone [.inr (.inr 0), .inl x1] h (fun r1 h1 => sh_Ox_isFarmOrNone x1 h = r1 ∧ h = h1) :=
  zC_of zk_Ox_isFarmOrNone (by decide) rfl rfl (Nat.le_of_ble_eq_true rfl) (zw_Ox_isFarmOrNone hd _ rfl ⟨rfl, rfl⟩)
theorem zb_Ox_isFarmOrNone (x1 : Int) (h : zHp) : sh_Ox_isFarmOrNone x1 h = 0 ∨ sh_Ox_isFarmOrNone x1 h = 1 := by
  unfold sh_Ox_isFarmOrNone
  exact zor_ite (Or.inr rfl) (zor_ite (Or.inl rfl) (Or.inr rfl))
def sh_Herd_put_14 (x1 x2 x3 : Int) (h : zHp) : zHp := rput h 16 71 (w32 ((w32 (7 + (w32 (x1 * 8)))) + x2)) x3
set_option maxRecDepth 100000 in
set_option maxHeartbeats 4000000 in
theorem zw_Herd_put_14 {l : Launch} {E : zE} {d : Nat} (hd : 2 ≤ d) (x1 x2 x3 : Int) {h : zHp} {Q : Int → zHp → Prop} {h0 : zHp} (hF : sh_Herd_put_14 x1 x2 x3 h = h0) (K : Q 0 h0) : zW l E d zm_Herd_put 0 [.inr (.inr 14), .inl x1, .inl x2, .inl x3] [] h Q := by
  rw [sh_Herd_put_14] at hF
  refine z_aload rfl rfl rfl ?_
  refine z_getr (r := 15) rfl rfl rfl rfl ?_
  refine z_const rfl ?_
  refine z_iload rfl rfl ?_
  refine z_const rfl ?_
  refine z_imul rfl ?_
  refine z_iadd rfl ?_
  refine z_iload rfl rfl ?_
  refine z_iadd rfl ?_
  refine z_iload rfl rfl ?_
  refine z_inv0 (d' := d - 1) (As := [.inl (w32 ((w32 (7 + (w32 (x1 * 8)))) + x2)), .inl x3]) rfl rfl (zf_Row_put (r := 15) (a := 16) (n := 71) rfl rfl _ _) rfl rfl rfl (by omega) rfl (fun r1 h2 hR3 hQ4 => ?_)
  obtain ⟨rfl, rfl⟩ := hQ4
  subst hF
  exact z_ret rfl rfl rfl K
set_option maxRecDepth 100000 in
theorem zf_Herd_put_14 {l : Launch} {E : zE} {d : Nat} (hd : 2 ≤ d) (x1 x2 x3 : Int) {h : zHp} : zC l E d zm_Herd_put [.inr (.inr 14), .inl x1, .inl x2, .inl x3] h (fun r1 h1 => 0 = r1 ∧ sh_Herd_put_14 x1 x2 x3 h = h1) :=
  zC_of zk_Herd_put (by decide) rfl rfl (Nat.le_of_ble_eq_true rfl) (zw_Herd_put_14 hd _ _ _ rfl ⟨rfl, rfl⟩)
def sh_Herd_addOx_14 (x1 x2 x3 x4 : Int) (h : zHp) : zHp := rput (sh_Herd_put_14 (sh_Herd_oxen_14 h) 7 (-1) (sh_Herd_put_14 (sh_Herd_oxen_14 h) 6 x1 (sh_Herd_put_14 (sh_Herd_oxen_14 h) 5 0 (sh_Herd_put_14 (sh_Herd_oxen_14 h) 4 x1 (sh_Herd_put_14 (sh_Herd_oxen_14 h) 3 x4 (sh_Herd_put_14 (sh_Herd_oxen_14 h) 2 x3 (sh_Herd_put_14 (sh_Herd_oxen_14 h) 1 x2 (sh_Herd_put_14 (sh_Herd_oxen_14 h) 0 x1 h)))))))) 16 71 2 (w32 ((sh_Herd_oxen_14 h) + 1))
set_option maxRecDepth 100000 in
set_option maxHeartbeats 4000000 in
theorem zw_Herd_addOx_14 {l : Launch} {E : zE} {d : Nat} (hd : 3 ≤ d) (x1 x2 x3 x4 : Int) {h : zHp} {Q : Int → zHp → Prop} {h0 : zHp} (hF : sh_Herd_addOx_14 x1 x2 x3 x4 h = h0) (K : Q 0 h0) : zW l E d zm_Herd_addOx 0 [.inr (.inr 14), .inl x1, .inl x2, .inl x3, .inl x4, zJk] [] h Q := by
  rw [sh_Herd_addOx_14] at hF
  refine z_aload rfl rfl rfl ?_
  refine z_inv1 (d' := d - 1) (As := []) rfl rfl (zf_Herd_oxen_14 (by omega)) rfl rfl rfl (by omega) rfl (fun r1 h2 hR3 hQ4 => ?_)
  obtain ⟨rfl, rfl⟩ := hQ4
  refine z_istore rfl rfl rfl ?_
  refine z_aload rfl rfl rfl ?_
  refine z_iload rfl rfl ?_
  refine z_const rfl ?_
  refine z_iload rfl rfl ?_
  refine z_inv0 (d' := d - 1) (As := [.inl (sh_Herd_oxen_14 h), .inl 0, .inl x1]) rfl rfl (zf_Herd_put_14 (by omega) _ _ _) rfl rfl rfl (by omega) rfl (fun r5 h6 hR7 hQ8 => ?_)
  obtain ⟨rfl, rfl⟩ := hQ8
  refine z_aload rfl rfl rfl ?_
  refine z_iload rfl rfl ?_
  refine z_const rfl ?_
  refine z_iload rfl rfl ?_
  refine z_inv0 (d' := d - 1) (As := [.inl (sh_Herd_oxen_14 h), .inl 1, .inl x2]) rfl rfl (zf_Herd_put_14 (by omega) _ _ _) rfl rfl rfl (by omega) rfl (fun r9 h10 hR11 hQ12 => ?_)
  obtain ⟨rfl, rfl⟩ := hQ12
  refine z_aload rfl rfl rfl ?_
  refine z_iload rfl rfl ?_
  refine z_const rfl ?_
  refine z_iload rfl rfl ?_
  refine z_inv0 (d' := d - 1) (As := [.inl (sh_Herd_oxen_14 h), .inl 2, .inl x3]) rfl rfl (zf_Herd_put_14 (by omega) _ _ _) rfl rfl rfl (by omega) rfl (fun r13 h14 hR15 hQ16 => ?_)
  obtain ⟨rfl, rfl⟩ := hQ16
  refine z_aload rfl rfl rfl ?_
  refine z_iload rfl rfl ?_
  refine z_const rfl ?_
  refine z_iload rfl rfl ?_
  refine z_inv0 (d' := d - 1) (As := [.inl (sh_Herd_oxen_14 h), .inl 3, .inl x4]) rfl rfl (zf_Herd_put_14 (by omega) _ _ _) rfl rfl rfl (by omega) rfl (fun r17 h18 hR19 hQ20 => ?_)
  obtain ⟨rfl, rfl⟩ := hQ20
  refine z_aload rfl rfl rfl ?_
  refine z_iload rfl rfl ?_
  refine z_const rfl ?_
  refine z_iload rfl rfl ?_
  refine z_inv0 (d' := d - 1) (As := [.inl (sh_Herd_oxen_14 h), .inl 4, .inl x1]) rfl rfl (zf_Herd_put_14 (by omega) _ _ _) rfl rfl rfl (by omega) rfl (fun r21 h22 hR23 hQ24 => ?_)
  obtain ⟨rfl, rfl⟩ := hQ24
  refine z_aload rfl rfl rfl ?_
  refine z_iload rfl rfl ?_
  refine z_const rfl ?_
  refine z_const rfl ?_
  refine z_inv0 (d' := d - 1) (As := [.inl (sh_Herd_oxen_14 h), .inl 5, .inl 0]) rfl rfl (zf_Herd_put_14 (by omega) _ _ _) rfl rfl rfl (by omega) rfl (fun r25 h26 hR27 hQ28 => ?_)
  obtain ⟨rfl, rfl⟩ := hQ28
  refine z_aload rfl rfl rfl ?_
  refine z_iload rfl rfl ?_
  refine z_const rfl ?_
  refine z_iload rfl rfl ?_
  refine z_inv0 (d' := d - 1) (As := [.inl (sh_Herd_oxen_14 h), .inl 6, .inl x1]) rfl rfl (zf_Herd_put_14 (by omega) _ _ _) rfl rfl rfl (by omega) rfl (fun r29 h30 hR31 hQ32 => ?_)
  obtain ⟨rfl, rfl⟩ := hQ32
  refine z_aload rfl rfl rfl ?_
  refine z_iload rfl rfl ?_
  refine z_const rfl ?_
  refine z_const rfl ?_
  refine z_inv0 (d' := d - 1) (As := [.inl (sh_Herd_oxen_14 h), .inl 7, .inl (-1)]) rfl rfl (zf_Herd_put_14 (by omega) _ _ _) rfl rfl rfl (by omega) rfl (fun r33 h34 hR35 hQ36 => ?_)
  obtain ⟨rfl, rfl⟩ := hQ36
  refine z_aload rfl rfl rfl ?_
  refine z_getr (r := 15) rfl rfl rfl rfl ?_
  refine z_const rfl ?_
  refine z_iload rfl rfl ?_
  refine z_const rfl ?_
  refine z_iadd rfl ?_
  refine z_inv0 (d' := d - 1) (As := [.inl 2, .inl (w32 ((sh_Herd_oxen_14 h) + 1))]) rfl rfl (zf_Row_put (r := 15) (a := 16) (n := 71) rfl rfl _ _) rfl rfl rfl (by omega) rfl (fun r37 h38 hR39 hQ40 => ?_)
  obtain ⟨rfl, rfl⟩ := hQ40
  subst hF
  exact z_ret rfl rfl rfl K
set_option maxRecDepth 100000 in
theorem zf_Herd_addOx_14 {l : Launch} {E : zE} {d : Nat} (hd : 3 ≤ d) (x1 x2 x3 x4 : Int) {h : zHp} : zC l E d zm_Herd_addOx [.inr (.inr 14), .inl x1, .inl x2, .inl x3, .inl x4] h (fun r1 h1 => 0 = r1 ∧ sh_Herd_addOx_14 x1 x2 x3 x4 h = h1) :=
  zC_of zk_Herd_addOx (by decide) rfl rfl (Nat.le_of_ble_eq_true rfl) (zw_Herd_addOx_14 hd _ _ _ _ rfl ⟨rfl, rfl⟩)
def sh_Ox_ox (x1 x2 x3 x4 : Int) (h : zHp) : Option (Int × zHp) := (if 8 ≤ sh_Herd_oxen_14 h then some ((-1), h) else (if sh_Ox_isFarm x1 h = 0 then some ((-1), h) else (if sh_Ox_isFarmOrNone x2 h = 0 then some ((-1), h) else (if sh_Ox_within x3 1 9 = 0 then some ((-1), h) else (if sh_Ox_isDigit x4 = 0 then some ((-1), h) else some (sh_Herd_oxen_14 h, sh_Herd_addOx_14 x1 x2 x3 x4 h))))))
set_option maxRecDepth 100000 in
set_option maxHeartbeats 4000000 in
theorem zw_Ox_ox {l : Launch} {E : zE} {d : Nat} (hd : 4 ≤ d) (x1 x2 x3 x4 : Int) {h : zHp} {Q : Int → zHp → Prop} {r0 : Int} {h0 : zHp} (hF : sh_Ox_ox x1 x2 x3 x4 h = some (r0, h0)) (K : Q r0 h0) : zW l E d zm_Ox_ox 0 [.inr (.inr 0), .inl x1, .inl x2, .inl x3, .inl x4, zJk] [] h Q := by
  rw [sh_Ox_ox] at hF
  refine z_aload rfl rfl rfl ?_
  refine z_getr (r := 1) rfl rfl rfl rfl ?_
  refine z_getr (r := 14) rfl rfl rfl rfl ?_
  refine z_inv1 (d' := d - 1) (As := []) rfl rfl (zf_Herd_oxen_14 (by omega)) rfl rfl rfl (by omega) rfl (fun r1 h2 hR3 hQ4 => ?_)
  obtain ⟨rfl, rfl⟩ := hQ4
  refine z_istore rfl rfl rfl ?_
  refine z_iload rfl rfl ?_
  refine z_const rfl ?_
  refine z_cge rfl (fun c5 => ?_) (fun c5 => ?_)
  · rw [if_pos c5] at hF
    refine z_const rfl ?_
    obtain ⟨rfl, rfl⟩ := zinj2 hF
    exact z_iret rfl rfl K
  · rw [if_neg c5] at hF
    refine z_aload rfl rfl rfl ?_
    refine z_iload rfl rfl ?_
    refine z_inv1 (d' := d - 1) (As := [.inl x1]) rfl rfl (zf_Ox_isFarm (by omega) _) rfl rfl rfl (by omega) rfl (fun r6 h7 hR8 hQ9 => ?_)
    obtain ⟨rfl, rfl⟩ := hQ9
    refine z_zeq rfl (fun c10 => ?_) (fun c10 => ?_)
    · rw [if_pos c10] at hF
      refine z_const rfl ?_
      obtain ⟨rfl, rfl⟩ := zinj2 hF
      exact z_iret rfl rfl K
    · rw [if_neg c10] at hF
      refine z_aload rfl rfl rfl ?_
      refine z_iload rfl rfl ?_
      refine z_inv1 (d' := d - 1) (As := [.inl x2]) rfl rfl (zf_Ox_isFarmOrNone (by omega) _) rfl rfl rfl (by omega) rfl (fun r11 h12 hR13 hQ14 => ?_)
      obtain ⟨rfl, rfl⟩ := hQ14
      refine z_zne rfl (fun c15 => ?_) (fun c15 => ?_)
      · rw [if_neg c15] at hF
        refine z_iload rfl rfl ?_
        refine z_const rfl ?_
        refine z_const rfl ?_
        refine z_ivs1 (d' := d - 1) (As := [.inl x3, .inl 1, .inl 9]) rfl rfl (zf_Ox_within (by omega) _ _ _) rfl (by omega) rfl (fun r16 h17 hR18 hQ19 => ?_)
        obtain ⟨rfl, rfl⟩ := hQ19
        refine z_zeq rfl (fun c20 => ?_) (fun c20 => ?_)
        · rw [if_pos c20] at hF
          refine z_const rfl ?_
          obtain ⟨rfl, rfl⟩ := zinj2 hF
          exact z_iret rfl rfl K
        · rw [if_neg c20] at hF
          refine z_iload rfl rfl ?_
          refine z_ivs1 (d' := d - 1) (As := [.inl x4]) rfl rfl (zf_Ox_isDigit (by omega) _) rfl (by omega) rfl (fun r21 h22 hR23 hQ24 => ?_)
          obtain ⟨rfl, rfl⟩ := hQ24
          refine z_zne rfl (fun c25 => ?_) (fun c25 => ?_)
          · rw [if_neg c25] at hF
            refine z_aload rfl rfl rfl ?_
            refine z_getr (r := 1) rfl rfl rfl rfl ?_
            refine z_getr (r := 14) rfl rfl rfl rfl ?_
            refine z_iload rfl rfl ?_
            refine z_iload rfl rfl ?_
            refine z_iload rfl rfl ?_
            refine z_iload rfl rfl ?_
            refine z_inv0 (d' := d - 1) (As := [.inl x1, .inl x2, .inl x3, .inl x4]) rfl rfl (zf_Herd_addOx_14 (by omega) _ _ _ _) rfl rfl rfl (by omega) rfl (fun r26 h27 hR28 hQ29 => ?_)
            obtain ⟨rfl, rfl⟩ := hQ29
            refine z_iload rfl rfl ?_
            obtain ⟨rfl, rfl⟩ := zinj2 hF
            exact z_iret rfl rfl K
          · rw [if_pos c25] at hF
            refine z_const rfl ?_
            obtain ⟨rfl, rfl⟩ := zinj2 hF
            exact z_iret rfl rfl K
      · rw [if_pos c15] at hF
        refine z_const rfl ?_
        obtain ⟨rfl, rfl⟩ := zinj2 hF
        exact z_iret rfl rfl K
set_option maxRecDepth 100000 in
theorem zf_Ox_ox {l : Launch} {E : zE} {d : Nat} (hd : 4 ≤ d) (x1 x2 x3 x4 : Int) {h : zHp} {r0 : Int} {h0 : zHp} (hF : sh_Ox_ox x1 x2 x3 x4 h = some (r0, h0)) : zC l E d zm_Ox_ox [.inr (.inr 0), .inl x1, .inl x2, .inl x3, .inl x4] h (fun r1 h1 => r0 = r1 ∧ h0 = h1) :=
  zC_of zk_Ox_ox (by decide) rfl rfl (Nat.le_of_ble_eq_true rfl) (zw_Ox_ox hd _ _ _ _ hF ⟨rfl, rfl⟩)
