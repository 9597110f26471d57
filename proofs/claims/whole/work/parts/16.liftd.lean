/-! by program (wip/whole/emit.py) out of the claim's listing -/
def sh_Ox_whistle (N : Nat) (x1 : Int) (h : zHp) : Option (Int × zHp) := (if sh_Ox_isFarm x1 h = 0 then some ((-1), h) else zb2 (sh_Ox_blow_14 N x1 (rget (sh_Yard_keepStep_1 h) 7 5 x1) (sh_Yard_keepStep_1 h)) fun r19 h20 => some (r19, h20))
set_option maxRecDepth 100000 in
set_option maxHeartbeats 4000000 in
theorem zw_Ox_whistle {l : Launch} {E : zE} {d : Nat} (hd : 6 ≤ d) (N : Nat) (x1 : Int) {h : zHp} {Q : Int → zHp → Prop} {r0 : Int} {h0 : zHp} (hF : sh_Ox_whistle N x1 h = some (r0, h0)) (K : Q r0 h0) : zW l E d zm_Ox_whistle 0 [.inr (.inr 0), .inl x1] [] h Q := by
  rw [sh_Ox_whistle] at hF
  refine z_aload rfl rfl rfl ?_
  refine z_iload rfl rfl ?_
  refine z_inv1 (d' := d - 1) (As := [.inl x1]) rfl rfl (zf_Ox_isFarm (by omega) _) rfl rfl rfl (by omega) rfl (fun r1 h2 hR3 hQ4 => ?_)
  obtain ⟨rfl, rfl⟩ := hQ4
  refine z_zne rfl (fun c5 => ?_) (fun c5 => ?_)
  · rw [if_neg c5] at hF
    refine z_aload rfl rfl rfl ?_
    refine z_getr (r := 1) rfl rfl rfl rfl ?_
    refine z_inv0 (d' := d - 1) (As := []) rfl rfl (zf_Yard_keepStep_1 (by omega)) rfl rfl rfl (by omega) rfl (fun r6 h7 hR8 hQ9 => ?_)
    obtain ⟨rfl, rfl⟩ := hQ9
    refine z_aload rfl rfl rfl ?_
    refine z_aload rfl rfl rfl ?_
    refine z_getr (r := 1) rfl rfl rfl rfl ?_
    refine z_getr (r := 14) rfl rfl rfl rfl ?_
    refine z_iload rfl rfl ?_
    refine z_aload rfl rfl rfl ?_
    refine z_getr (r := 1) rfl rfl rfl rfl ?_
    refine z_getr (r := 6) rfl rfl rfl rfl ?_
    refine z_iload rfl rfl ?_
    refine z_inv1 (d' := d - 1) (As := [.inl x1]) rfl rfl (zf_Row_get (r := 6) (a := 7) (n := 5) rfl rfl _) rfl rfl rfl (by omega) rfl (fun r10 h11 hR12 hQ13 => ?_)
    obtain ⟨rfl, rfl⟩ := hQ13
    obtain ⟨r19, h20, hc18, hF⟩ := zbind2 hF
    refine z_inv1 (d' := d - 1) (As := [.inr (.inr 14), .inl x1, .inl (rget (sh_Yard_keepStep_1 h) 7 5 x1)]) rfl rfl (zf_Ox_blow_14 (by omega) N _ _ hc18) rfl rfl rfl (by omega) rfl (fun r14 h15 hR16 hQ17 => ?_)
    obtain ⟨rfl, rfl⟩ := hQ17
    obtain ⟨rfl, rfl⟩ := zinj2 hF
    exact z_iret rfl rfl K
  · rw [if_pos c5] at hF
    refine z_const rfl ?_
    obtain ⟨rfl, rfl⟩ := zinj2 hF
    exact z_iret rfl rfl K
set_option maxRecDepth 100000 in
theorem zf_Ox_whistle {l : Launch} {E : zE} {d : Nat} (hd : 6 ≤ d) (N : Nat) (x1 : Int) {h : zHp} {r0 : Int} {h0 : zHp} (hF : sh_Ox_whistle N x1 h = some (r0, h0)) : zC l E d zm_Ox_whistle [.inr (.inr 0), .inl x1] h (fun r1 h1 => r0 = r1 ∧ h0 = h1) :=
  zC_of zk_Ox_whistle (by decide) rfl rfl (Nat.le_of_ble_eq_true rfl) (zw_Ox_whistle hd N _ hF ⟨rfl, rfl⟩)
def sh_Mo_pitchOf (N : Nat) (x1 : Int) (h : zHp) : Option Int := if 0 ≤ w32 ((w32 (10 + (w32 (3 * x1)))) + 2) ∧ w32 ((w32 (10 + (w32 (3 * x1)))) + 2) < 1061 then some (h 86 (w32 ((w32 (10 + (w32 (3 * x1)))) + 2)).toNat) else none
set_option maxRecDepth 100000 in
set_option maxHeartbeats 4000000 in
theorem zw_Mo_pitchOf {l : Launch} {E : zE} {d : Nat} (hd : 1 ≤ d) (N : Nat) (x1 : Int) {h : zHp} {Q : Int → zHp → Prop} {r0 : Int} (hF : sh_Mo_pitchOf N x1 h = some r0) (K : Q r0 h) : zW l E d zm_Mo_pitchOf 0 [.inr (.inr 85), .inl x1] [] h Q := by
  rw [sh_Mo_pitchOf] at hF
  refine z_aload rfl rfl rfl ?_
  refine z_getr (r := 86) rfl rfl rfl rfl ?_
  refine z_const rfl ?_
  refine z_const rfl ?_
  refine z_iload rfl rfl ?_
  refine z_imul rfl ?_
  refine z_iadd rfl ?_
  refine z_const rfl ?_
  refine z_iadd rfl ?_
  obtain ⟨g1, hF⟩ := zguard hF
  refine z_iald rfl rfl g1.1 g1.2 ?_
  obtain rfl := Option.some.inj hF
  exact z_iret rfl rfl K
set_option maxRecDepth 100000 in
theorem zf_Mo_pitchOf {l : Launch} {E : zE} {d : Nat} (hd : 1 ≤ d) (N : Nat) (x1 : Int) {h : zHp} {r0 : Int} (hF : sh_Mo_pitchOf N x1 h = some r0) : zC l E d zm_Mo_pitchOf [.inr (.inr 85), .inl x1] h (fun r1 h1 => r0 = r1 ∧ h = h1) :=
  zC_of zk_Mo_pitchOf (by decide) rfl rfl (Nat.le_of_ble_eq_true rfl) (zw_Mo_pitchOf hd N _ hF ⟨rfl, rfl⟩)
def sh_Mo_gap (x0 x1 : Int) : Int := (if x1 ≤ x0 then w32 (x0 - x1) else w32 (x1 - x0) : Int)
set_option maxRecDepth 100000 in
set_option maxHeartbeats 4000000 in
theorem zw_Mo_gap {l : Launch} {E : zE} {d : Nat} (hd : 1 ≤ d) (x0 x1 : Int) {h : zHp} {Q : Int → zHp → Prop} {r0 : Int} (hF : sh_Mo_gap x0 x1 = r0) (K : Q r0 h) : zW l E d zm_Mo_gap 0 [.inl x0, .inl x1] [] h Q := by
  rw [sh_Mo_gap] at hF
  refine z_iload rfl rfl ?_
  refine z_iload rfl rfl ?_
  have hJ2 : zW l E d zm_Mo_gap 10 [zJk, zJk] [.inl (if x1 ≤ x0 then w32 (x0 - x1) else w32 (x1 - x0) : Int)] h Q := by
    subst hF
    exact z_iret rfl rfl K
  refine z_cge rfl (fun c1 => ?_) (fun c1 => ?_)
  · refine z_iload rfl rfl ?_
    refine z_iload rfl rfl ?_
    refine z_isub rfl ?_
    refine zsubL (L' := [zJk, zJk]) ⟨Or.inr rfl, Or.inr rfl, trivial⟩ ?_
    exact zcast (by first | rfl | (simp only [if_pos c1] <;> rfl)) (by first | rfl | (simp only [if_pos c1] <;> rfl)) hJ2
  · refine z_iload rfl rfl ?_
    refine z_iload rfl rfl ?_
    refine z_isub rfl ?_
    refine z_goto rfl ?_
    refine zsubL (L' := [zJk, zJk]) ⟨Or.inr rfl, Or.inr rfl, trivial⟩ ?_
    exact zcast (by first | rfl | (simp only [if_neg c1] <;> rfl)) (by first | rfl | (simp only [if_neg c1] <;> rfl)) hJ2
set_option maxRecDepth 100000 in
theorem zf_Mo_gap {l : Launch} {E : zE} {d : Nat} (hd : 1 ≤ d) (x0 x1 : Int) {h : zHp} : zC l E d zm_Mo_gap [.inl x0, .inl x1] h (fun r1 h1 => sh_Mo_gap x0 x1 = r1 ∧ h = h1) :=
  zC_of zk_Mo_gap (by decide) rfl rfl (Nat.le_of_ble_eq_true rfl) (zw_Mo_gap hd _ _ rfl ⟨rfl, rfl⟩)
def sh_Mo_far (N : Nat) (x1 x2 : Int) (h : zHp) : Option Int := if 0 ≤ w32 (10 + (w32 (3 * x1))) ∧ w32 (10 + (w32 (3 * x1))) < 1061 then if 0 ≤ w32 (25 + (w32 (4 * x2))) ∧ w32 (25 + (w32 (4 * x2))) < 1061 then if 0 ≤ w32 ((w32 (10 + (w32 (3 * x1)))) + 1) ∧ w32 ((w32 (10 + (w32 (3 * x1)))) + 1) < 1061 then if 0 ≤ w32 ((w32 (25 + (w32 (4 * x2)))) + 1) ∧ w32 ((w32 (25 + (w32 (4 * x2)))) + 1) < 1061 then some (w32 ((sh_Mo_gap (h 86 (w32 (10 + (w32 (3 * x1)))).toNat) (h 86 (w32 (25 + (w32 (4 * x2)))).toNat)) + (sh_Mo_gap (h 86 (w32 ((w32 (10 + (w32 (3 * x1)))) + 1)).toNat) (h 86 (w32 ((w32 (25 + (w32 (4 * x2)))) + 1)).toNat)))) else none else none else none else none
set_option maxRecDepth 100000 in
set_option maxHeartbeats 4000000 in
theorem zw_Mo_far {l : Launch} {E : zE} {d : Nat} (hd : 2 ≤ d) (N : Nat) (x1 x2 : Int) {h : zHp} {Q : Int → zHp → Prop} {r0 : Int} (hF : sh_Mo_far N x1 x2 h = some r0) (K : Q r0 h) : zW l E d zm_Mo_far 0 [.inr (.inr 85), .inl x1, .inl x2] [] h Q := by
  rw [sh_Mo_far] at hF
  refine z_aload rfl rfl rfl ?_
  refine z_getr (r := 86) rfl rfl rfl rfl ?_
  refine z_const rfl ?_
  refine z_const rfl ?_
  refine z_iload rfl rfl ?_
  refine z_imul rfl ?_
  refine z_iadd rfl ?_
  obtain ⟨g1, hF⟩ := zguard hF
  refine z_iald rfl rfl g1.1 g1.2 ?_
  refine z_aload rfl rfl rfl ?_
  refine z_getr (r := 86) rfl rfl rfl rfl ?_
  refine z_const rfl ?_
  refine z_const rfl ?_
  refine z_iload rfl rfl ?_
  refine z_imul rfl ?_
  refine z_iadd rfl ?_
  obtain ⟨g2, hF⟩ := zguard hF
  refine z_iald rfl rfl g2.1 g2.2 ?_
  refine z_ivs1 (d' := d - 1) (As := [.inl (h 86 (w32 (10 + (w32 (3 * x1)))).toNat), .inl (h 86 (w32 (25 + (w32 (4 * x2)))).toNat)]) rfl rfl (zf_Mo_gap (by omega) _ _) rfl (by omega) rfl (fun r3 h4 hR5 hQ6 => ?_)
  obtain ⟨rfl, rfl⟩ := hQ6
  refine z_aload rfl rfl rfl ?_
  refine z_getr (r := 86) rfl rfl rfl rfl ?_
  refine z_const rfl ?_
  refine z_const rfl ?_
  refine z_iload rfl rfl ?_
  refine z_imul rfl ?_
  refine z_iadd rfl ?_
  refine z_const rfl ?_
  refine z_iadd rfl ?_
  obtain ⟨g7, hF⟩ := zguard hF
  refine z_iald rfl rfl g7.1 g7.2 ?_
  refine z_aload rfl rfl rfl ?_
  refine z_getr (r := 86) rfl rfl rfl rfl ?_
  refine z_const rfl ?_
  refine z_const rfl ?_
  refine z_iload rfl rfl ?_
  refine z_imul rfl ?_
  refine z_iadd rfl ?_
  refine z_const rfl ?_
  refine z_iadd rfl ?_
  obtain ⟨g8, hF⟩ := zguard hF
  refine z_iald rfl rfl g8.1 g8.2 ?_
  refine z_ivs1 (d' := d - 1) (As := [.inl (h 86 (w32 ((w32 (10 + (w32 (3 * x1)))) + 1)).toNat), .inl (h 86 (w32 ((w32 (25 + (w32 (4 * x2)))) + 1)).toNat)]) rfl rfl (zf_Mo_gap (by omega) _ _) rfl (by omega) rfl (fun r9 h10 hR11 hQ12 => ?_)
  obtain ⟨rfl, rfl⟩ := hQ12
  refine z_iadd rfl ?_
  obtain rfl := Option.some.inj hF
  exact z_iret rfl rfl K
set_option maxRecDepth 100000 in
theorem zf_Mo_far {l : Launch} {E : zE} {d : Nat} (hd : 2 ≤ d) (N : Nat) (x1 x2 : Int) {h : zHp} {r0 : Int} (hF : sh_Mo_far N x1 x2 h = some r0) : zC l E d zm_Mo_far [.inr (.inr 85), .inl x1, .inl x2] h (fun r1 h1 => r0 = r1 ∧ h = h1) :=
  zC_of zk_Mo_far (by decide) rfl rfl (Nat.le_of_ble_eq_true rfl) (zw_Mo_far hd N _ _ hF ⟨rfl, rfl⟩)
def sh_Mo_name_J55 (N : Nat) (a1 a5 s1 s2 : Int) (hj : zHp) : Option zHp := if 0 ≤ s1 ∧ s1 < 11 then zb1 (sh_Mo_told N a1 2 (zst (zst (zst hj 91 s1.toNat s2) 91 6 a5) 91 7 a1)) fun r20 => some (zst (zst (zst (zst hj 91 s1.toNat s2) 91 6 a5) 91 7 a1) 91 8 r20) else none
def sh_Mo_name_J43 (N : Nat) (a1 a2 a4 a5 s1 s2 : Int) (hj : zHp) : Option zHp := if 0 ≤ s1 ∧ s1 < 11 then if 0 ≤ a2 then zb1 (sh_Mo_far N a2 a4 (zst hj 91 s1.toNat s2)) fun r26 => sh_Mo_name_J55 N a1 a5 5 r26 (zst hj 91 s1.toNat s2) else sh_Mo_name_J55 N a1 a5 5 0 (zst hj 91 s1.toNat s2) else none
def sh_Mo_name (N : Nat) (x1 x2 x3 x4 x5 x6 : Int) (h : zHp) : Option zHp := zb1 (sh_Mo_told N x1 3 (zst (zst (zst h 91 0 x6) 91 1 x3) 91 2 x2)) fun r6 => if x2 < 0 then sh_Mo_name_J43 N x1 x2 x4 x5 4 0 (zst (zst (zst (zst h 91 0 x6) 91 1 x3) 91 2 x2) 91 3 r6) else zb1 (sh_Mo_told N x1 0 (zst (zst (zst (zst h 91 0 x6) 91 1 x3) 91 2 x2) 91 3 r6)) fun r32 => if r32 = x2 then sh_Mo_name_J43 N x1 x2 x4 x5 4 1 (zst (zst (zst (zst h 91 0 x6) 91 1 x3) 91 2 x2) 91 3 r6) else zb1 (sh_Mo_told N x1 1 (zst (zst (zst (zst h 91 0 x6) 91 1 x3) 91 2 x2) 91 3 r6)) fun r40 => sh_Mo_name_J43 N x1 x2 x4 x5 4 (if r40 = x2 then 1 else 0 : Int) (zst (zst (zst (zst h 91 0 x6) 91 1 x3) 91 2 x2) 91 3 r6)
set_option maxRecDepth 100000 in
set_option maxHeartbeats 4000000 in
theorem zw_Mo_name {l : Launch} {E : zE} {d : Nat} (hd : 3 ≤ d) (N : Nat) (x1 x2 x3 x4 x5 x6 : Int) {h : zHp} {Q : Int → zHp → Prop} {h0 : zHp} (hF : sh_Mo_name N x1 x2 x3 x4 x5 x6 h = some h0) (K : Q 0 h0) : zW l E d zm_Mo_name 0 [.inr (.inr 85), .inl x1, .inl x2, .inl x3, .inl x4, .inl x5, .inl x6] [] h Q := by
  rw [sh_Mo_name] at hF
  refine z_aload rfl rfl rfl ?_
  refine z_getr (r := 91) rfl rfl rfl rfl ?_
  refine z_const rfl ?_
  refine z_iload rfl rfl ?_
  refine z_iastc 0 rfl rfl rfl (by decide) ?_
  refine z_aload rfl rfl rfl ?_
  refine z_getr (r := 91) rfl rfl rfl rfl ?_
  refine z_const rfl ?_
  refine z_iload rfl rfl ?_
  refine z_iastc 1 rfl rfl rfl (by decide) ?_
  refine z_aload rfl rfl rfl ?_
  refine z_getr (r := 91) rfl rfl rfl rfl ?_
  refine z_const rfl ?_
  refine z_iload rfl rfl ?_
  refine z_iastc 2 rfl rfl rfl (by decide) ?_
  refine z_aload rfl rfl rfl ?_
  refine z_getr (r := 91) rfl rfl rfl rfl ?_
  refine z_const rfl ?_
  refine z_aload rfl rfl rfl ?_
  refine z_iload rfl rfl ?_
  refine z_const rfl ?_
  obtain ⟨r6, hc5, hF⟩ := zbind1 hF
  refine z_inv1 (d' := d - 1) (As := [.inl x1, .inl 3]) rfl rfl (zf_Mo_told (by omega) N _ _ hc5) rfl rfl rfl (by omega) rfl (fun r1 h2 hR3 hQ4 => ?_)
  obtain ⟨rfl, rfl⟩ := hQ4
  refine z_iastc 3 rfl rfl rfl (by decide) ?_
  refine z_aload rfl rfl rfl ?_
  refine z_getr (r := 91) rfl rfl rfl rfl ?_
  refine z_const rfl ?_
  refine z_iload rfl rfl ?_
  have hJ9 : ∀ (a1 a2 a4 a5 s1 s2 : Int) (hj : zHp), sh_Mo_name_J43 N a1 a2 a4 a5 s1 s2 hj = some h0 → zW l E d zm_Mo_name 43 [.inr (.inr 85), .inl a1, .inl a2, zJk, .inl a4, .inl a5, zJk] [.inl s2, .inl s1, .inr (.inr 91)] hj Q := by
    intro a1 a2 a4 a5 s1 s2 hj hF
    rw [sh_Mo_name_J43] at hF
    obtain ⟨g10, hF⟩ := zguard hF
    refine z_iast rfl rfl g10.1 g10.2 ?_
    refine z_aload rfl rfl rfl ?_
    refine z_getr (r := 91) rfl rfl rfl rfl ?_
    refine z_const rfl ?_
    refine z_iload rfl rfl ?_
    have hJ13 : ∀ (a1 a5 s1 s2 : Int) (hj : zHp), sh_Mo_name_J55 N a1 a5 s1 s2 hj = some h0 → zW l E d zm_Mo_name 55 [.inr (.inr 85), .inl a1, zJk, zJk, zJk, .inl a5, zJk] [.inl s2, .inl s1, .inr (.inr 91)] hj Q := by
      intro a1 a5 s1 s2 hj hF
      rw [sh_Mo_name_J55] at hF
      obtain ⟨g14, hF⟩ := zguard hF
      refine z_iast rfl rfl g14.1 g14.2 ?_
      refine z_aload rfl rfl rfl ?_
      refine z_getr (r := 91) rfl rfl rfl rfl ?_
      refine z_const rfl ?_
      refine z_iload rfl rfl ?_
      refine z_iastc 6 rfl rfl rfl (by decide) ?_
      refine z_aload rfl rfl rfl ?_
      refine z_getr (r := 91) rfl rfl rfl rfl ?_
      refine z_const rfl ?_
      refine z_iload rfl rfl ?_
      refine z_iastc 7 rfl rfl rfl (by decide) ?_
      refine z_aload rfl rfl rfl ?_
      refine z_getr (r := 91) rfl rfl rfl rfl ?_
      refine z_const rfl ?_
      refine z_aload rfl rfl rfl ?_
      refine z_iload rfl rfl ?_
      refine z_const rfl ?_
      obtain ⟨r20, hc19, hF⟩ := zbind1 hF
      refine z_inv1 (d' := d - 1) (As := [.inl a1, .inl 2]) rfl rfl (zf_Mo_told (by omega) N _ _ hc19) rfl rfl rfl (by omega) rfl (fun r15 h16 hR17 hQ18 => ?_)
      obtain ⟨rfl, rfl⟩ := hQ18
      refine z_iastc 8 rfl rfl rfl (by decide) ?_
      obtain rfl := Option.some.inj hF
      exact z_ret rfl rfl rfl K
    refine z_zge rfl (fun c12 => ?_) (fun c12 => ?_)
    · rw [if_pos c12] at hF
      refine z_aload rfl rfl rfl ?_
      refine z_iload rfl rfl ?_
      refine z_iload rfl rfl ?_
      obtain ⟨r26, hc25, hF⟩ := zbind1 hF
      refine z_inv1 (d' := d - 1) (As := [.inl a2, .inl a4]) rfl rfl (zf_Mo_far (by omega) N _ _ hc25) rfl rfl rfl (by omega) rfl (fun r21 h22 hR23 hQ24 => ?_)
      obtain ⟨rfl, rfl⟩ := hQ24
      refine zsubL (L' := [.inr (.inr 85), .inl a1, zJk, zJk, zJk, .inl a5, zJk]) ⟨Or.inl rfl, Or.inl rfl, Or.inr rfl, Or.inl rfl, Or.inr rfl, Or.inl rfl, Or.inl rfl, trivial⟩ ?_
      exact hJ13 _ _ _ _ _ hF
    · rw [if_neg c12] at hF
      refine z_const rfl ?_
      refine z_goto rfl ?_
      refine zsubL (L' := [.inr (.inr 85), .inl a1, zJk, zJk, zJk, .inl a5, zJk]) ⟨Or.inl rfl, Or.inl rfl, Or.inr rfl, Or.inl rfl, Or.inr rfl, Or.inl rfl, Or.inl rfl, trivial⟩ ?_
      exact hJ13 _ _ _ _ _ hF
  refine z_zlt rfl (fun c8 => ?_) (fun c8 => ?_)
  · rw [if_pos c8] at hF
    refine z_const rfl ?_
    refine zsubL (L' := [.inr (.inr 85), .inl x1, .inl x2, zJk, .inl x4, .inl x5, zJk]) ⟨Or.inl rfl, Or.inl rfl, Or.inl rfl, Or.inr rfl, Or.inl rfl, Or.inl rfl, Or.inr rfl, trivial⟩ ?_
    exact hJ9 _ _ _ _ _ _ _ hF
  · rw [if_neg c8] at hF
    refine z_aload rfl rfl rfl ?_
    refine z_iload rfl rfl ?_
    refine z_const rfl ?_
    obtain ⟨r32, hc31, hF⟩ := zbind1 hF
    refine z_inv1 (d' := d - 1) (As := [.inl x1, .inl 0]) rfl rfl (zf_Mo_told (by omega) N _ _ hc31) rfl rfl rfl (by omega) rfl (fun r27 h28 hR29 hQ30 => ?_)
    obtain ⟨rfl, rfl⟩ := hQ30
    refine z_iload rfl rfl ?_
    refine z_ceq rfl (fun c34 => ?_) (fun c34 => ?_)
    · rw [if_pos c34] at hF
      refine z_const rfl ?_
      refine z_goto rfl ?_
      refine zsubL (L' := [.inr (.inr 85), .inl x1, .inl x2, zJk, .inl x4, .inl x5, zJk]) ⟨Or.inl rfl, Or.inl rfl, Or.inl rfl, Or.inr rfl, Or.inl rfl, Or.inl rfl, Or.inr rfl, trivial⟩ ?_
      exact hJ9 _ _ _ _ _ _ _ hF
    · rw [if_neg c34] at hF
      refine z_aload rfl rfl rfl ?_
      refine z_iload rfl rfl ?_
      refine z_const rfl ?_
      obtain ⟨r40, hc39, hF⟩ := zbind1 hF
      refine z_inv1 (d' := d - 1) (As := [.inl x1, .inl 1]) rfl rfl (zf_Mo_told (by omega) N _ _ hc39) rfl rfl rfl (by omega) rfl (fun r35 h36 hR37 hQ38 => ?_)
      obtain ⟨rfl, rfl⟩ := hQ38
      refine z_iload rfl rfl ?_
      have hJ42 : zW l E d zm_Mo_name 43 [.inr (.inr 85), .inl x1, .inl x2, zJk, .inl x4, .inl x5, zJk] [.inl (if r40 = x2 then 1 else 0 : Int), .inl 4, .inr (.inr 91)] (zst (zst (zst (zst h 91 0 x6) 91 1 x3) 91 2 x2) 91 3 r6) Q := by
        exact hJ9 _ _ _ _ _ _ _ hF
      refine z_cne rfl (fun c41 => ?_) (fun c41 => ?_)
      · refine z_const rfl ?_
        refine zsubL (L' := [.inr (.inr 85), .inl x1, .inl x2, zJk, .inl x4, .inl x5, zJk]) ⟨Or.inl rfl, Or.inl rfl, Or.inl rfl, Or.inr rfl, Or.inl rfl, Or.inl rfl, Or.inr rfl, trivial⟩ ?_
        exact zcast (by first | rfl | (simp only [if_neg c41] <;> rfl)) (by first | rfl | (simp only [if_neg c41] <;> rfl)) hJ42
      · refine z_const rfl ?_
        refine z_goto rfl ?_
        refine zsubL (L' := [.inr (.inr 85), .inl x1, .inl x2, zJk, .inl x4, .inl x5, zJk]) ⟨Or.inl rfl, Or.inl rfl, Or.inl rfl, Or.inr rfl, Or.inl rfl, Or.inl rfl, Or.inr rfl, trivial⟩ ?_
        exact zcast (by first | rfl | (simp only [if_pos c41] <;> rfl)) (by first | rfl | (simp only [if_pos c41] <;> rfl)) hJ42
set_option maxRecDepth 100000 in
theorem zf_Mo_name {l : Launch} {E : zE} {d : Nat} (hd : 3 ≤ d) (N : Nat) (x1 x2 x3 x4 x5 x6 : Int) {h : zHp} {h0 : zHp} (hF : sh_Mo_name N x1 x2 x3 x4 x5 x6 h = some h0) : zC l E d zm_Mo_name [.inr (.inr 85), .inl x1, .inl x2, .inl x3, .inl x4, .inl x5, .inl x6] h (fun r1 h1 => 0 = r1 ∧ h0 = h1) :=
  zC_of zk_Mo_name (by decide) rfl rfl (Nat.le_of_ble_eq_true rfl) (zw_Mo_name hd N _ _ _ _ _ _ hF ⟨rfl, rfl⟩)
def sh_Mo_clauseOf_L2 (N : Nat) (h : zHp) : Nat → Int → Int → Option ((Int) ⊕ (Nat))
  | 0, _, _ => none
  | n + 1, x1, x2 => (if h 86 5 < 0 then some (.inr 0) else if 0 ≤ w32 (625 * (h 86 5)) ∧ w32 (625 * (h 86 5)) < 2500 then if h 88 (w32 (625 * (h 86 5))).toNat ≤ x2 then some (.inr 0) else if 0 ≤ w32 ((w32 ((w32 (625 * (h 86 5))) + 1)) + (w32 (3 * x2))) ∧ w32 ((w32 ((w32 (625 * (h 86 5))) + 1)) + (w32 (3 * x2))) < 2500 then if h 88 (w32 ((w32 ((w32 (625 * (h 86 5))) + 1)) + (w32 (3 * x2)))).toNat = x1 then some (.inl x2) else sh_Mo_clauseOf_L2 N h n x1 (w32 (x2 + 1)) else none else none)
def sh_Mo_clauseOf (N : Nat) (x1 : Int) (h : zHp) : Option Int := zb1 (sh_Mo_clauseOf_L2 N h N x1 0) fun w7 => zsum2 w7 (zcu1 fun y8 => some y8) (zcu1 fun y9 => some (-1))
set_option maxRecDepth 100000 in
set_option maxHeartbeats 4000000 in
theorem zl_Mo_clauseOf_L2 {l : Launch} {E : zE} {d : Nat} (hd : 1 ≤ d) (N : Nat) {h : zHp} {Q : Int → zHp → Prop} {res : (Int) ⊕ (Nat)} (K1 : ∀ (o2 : Int), res = .inl o2 → zW l E d zm_Mo_clauseOf 35 [zJk, zJk, .inl o2] [] h Q) (K2 : ∀ (on : Nat), res = .inr on → zW l E d zm_Mo_clauseOf 39 [zJk, zJk, zJk] [] h Q) : ∀ (n : Nat) (x1 x2 : Int) , sh_Mo_clauseOf_L2 N h n x1 x2 = some res → zW l E d zm_Mo_clauseOf 2 [.inr (.inr 85), .inl x1, .inl x2] [] h Q := by
  intro n
  induction n with
  | zero =>
    intro x1 x2 hF
    cases (show (none : Option ((Int) ⊕ (Nat))) = some res from hF)
  | succ n ih =>
    intro x1 x2 hF
    rw [sh_Mo_clauseOf_L2] at hF
    refine z_aload rfl rfl rfl ?_
    refine z_getr (r := 86) rfl rfl rfl rfl ?_
    refine z_const rfl ?_
    refine z_ialdc 5 rfl rfl rfl (by decide) ?_
    refine z_zlt rfl (fun c1 => ?_) (fun c1 => ?_)
    · rw [if_pos c1] at hF
      refine zsubL (L' := [zJk, zJk, zJk]) ⟨Or.inr rfl, Or.inr rfl, Or.inr rfl, trivial⟩ ?_
      exact K2 _ (Option.some.inj hF).symm
    · rw [if_neg c1] at hF
      refine z_iload rfl rfl ?_
      refine z_aload rfl rfl rfl ?_
      refine z_getr (r := 88) rfl rfl rfl rfl ?_
      refine z_const rfl ?_
      refine z_aload rfl rfl rfl ?_
      refine z_getr (r := 86) rfl rfl rfl rfl ?_
      refine z_const rfl ?_
      refine z_ialdc 5 rfl rfl rfl (by decide) ?_
      refine z_imul rfl ?_
      obtain ⟨g2, hF⟩ := zguard hF
      refine z_iald rfl rfl g2.1 g2.2 ?_
      refine z_cge rfl (fun c3 => ?_) (fun c3 => ?_)
      · rw [if_pos c3] at hF
        refine zsubL (L' := [zJk, zJk, zJk]) ⟨Or.inr rfl, Or.inr rfl, Or.inr rfl, trivial⟩ ?_
        exact K2 _ (Option.some.inj hF).symm
      · rw [if_neg c3] at hF
        refine z_aload rfl rfl rfl ?_
        refine z_getr (r := 88) rfl rfl rfl rfl ?_
        refine z_const rfl ?_
        refine z_aload rfl rfl rfl ?_
        refine z_getr (r := 86) rfl rfl rfl rfl ?_
        refine z_const rfl ?_
        refine z_ialdc 5 rfl rfl rfl (by decide) ?_
        refine z_imul rfl ?_
        refine z_const rfl ?_
        refine z_iadd rfl ?_
        refine z_const rfl ?_
        refine z_iload rfl rfl ?_
        refine z_imul rfl ?_
        refine z_iadd rfl ?_
        obtain ⟨g4, hF⟩ := zguard hF
        refine z_iald rfl rfl g4.1 g4.2 ?_
        refine z_iload rfl rfl ?_
        refine z_cne rfl (fun c5 => ?_) (fun c5 => ?_)
        · rw [if_neg c5] at hF
          refine z_iinc rfl rfl rfl ?_
          refine z_goto rfl ?_
          exact ih _ _ hF
        · rw [if_pos c5] at hF
          refine zsubL (L' := [zJk, zJk, .inl x2]) ⟨Or.inr rfl, Or.inr rfl, Or.inl rfl, trivial⟩ ?_
          exact K1 _ (Option.some.inj hF).symm
set_option maxRecDepth 100000 in
set_option maxHeartbeats 4000000 in
theorem zw_Mo_clauseOf {l : Launch} {E : zE} {d : Nat} (hd : 1 ≤ d) (N : Nat) (x1 : Int) {h : zHp} {Q : Int → zHp → Prop} {r0 : Int} (hF : sh_Mo_clauseOf N x1 h = some r0) (K : Q r0 h) : zW l E d zm_Mo_clauseOf 0 [.inr (.inr 85), .inl x1, zJk] [] h Q := by
  rw [sh_Mo_clauseOf] at hF
  refine z_const rfl ?_
  refine z_istore rfl rfl rfl ?_
  obtain ⟨w7, hL6, hF⟩ := zbind1 hF
  rcases w7 with y8 | y9
  · refine zl_Mo_clauseOf_L2 (by omega) N (fun q10 e11 => ?_) (fun _ z => by cases z) N _ _ hL6
    obtain rfl := zinl2_0_1 e11
    replace hF := zs2_0_1 hF
    refine z_iload rfl rfl ?_
    obtain rfl := Option.some.inj hF
    exact z_iret rfl rfl K
  · refine zl_Mo_clauseOf_L2 (by omega) N (fun _ z => by cases z) (fun q12 e13 => ?_) N _ _ hL6
    obtain rfl := zinl2_1_1 e13
    replace hF := zs2_1_1 hF
    refine z_const rfl ?_
    obtain rfl := Option.some.inj hF
    exact z_iret rfl rfl K
set_option maxRecDepth 100000 in
theorem zf_Mo_clauseOf {l : Launch} {E : zE} {d : Nat} (hd : 1 ≤ d) (N : Nat) (x1 : Int) {h : zHp} {r0 : Int} (hF : sh_Mo_clauseOf N x1 h = some r0) : zC l E d zm_Mo_clauseOf [.inr (.inr 85), .inl x1] h (fun r1 h1 => r0 = r1 ∧ h = h1) :=
  zC_of zk_Mo_clauseOf (by decide) rfl rfl (Nat.le_of_ble_eq_true rfl) (zw_Mo_clauseOf hd N _ hF ⟨rfl, rfl⟩)
def sh_Mo_clip (x0 : Int) : Int := (if zcmp x0 1000000 ≤ 0 then (if 0 ≤ zcmp x0 (-1000000) then x0 else (-1000000) : Int) else 1000000 : Int)
set_option maxRecDepth 100000 in
set_option maxHeartbeats 4000000 in
theorem zw_Mo_clip {l : Launch} {E : zE} {d : Nat} (hd : 1 ≤ d) (x0 : Int) {h : zHp} {Q : Int → zHp → Prop} {r0 : Int} (hF : sh_Mo_clip x0 = r0) (K : Q r0 h) : zW l E d zm_Mo_clip 0 [.inr (.inl x0), zJk] [] h Q := by
  rw [sh_Mo_clip] at hF
  refine z_lload rfl rfl ?_
  refine z_lconst rfl ?_
  refine z_lcmp rfl ?_
  have hJ3 : zW l E d zm_Mo_clip 13 [zJk, zJk] [.inr (.inl (if zcmp x0 1000000 ≤ 0 then (if 0 ≤ zcmp x0 (-1000000) then x0 else (-1000000) : Int) else 1000000 : Int))] h Q := by
    subst hF
    exact z_lret rfl rfl K
  refine z_zle rfl (fun c1 => ?_) (fun c1 => ?_)
  · refine z_lload rfl rfl ?_
    refine z_lconst rfl ?_
    refine z_lcmp rfl ?_
    refine z_zge rfl (fun c2 => ?_) (fun c2 => ?_)
    · refine z_lload rfl rfl ?_
      refine zsubL (L' := [zJk, zJk]) ⟨Or.inr rfl, Or.inl rfl, trivial⟩ ?_
      exact zcast (by first | rfl | (simp only [if_pos c1, if_pos c2] <;> rfl)) (by first | rfl | (simp only [if_pos c1, if_pos c2] <;> rfl)) hJ3
    · refine z_lconst rfl ?_
      refine z_goto rfl ?_
      refine zsubL (L' := [zJk, zJk]) ⟨Or.inr rfl, Or.inl rfl, trivial⟩ ?_
      exact zcast (by first | rfl | (simp only [if_pos c1, if_neg c2] <;> rfl)) (by first | rfl | (simp only [if_pos c1, if_neg c2] <;> rfl)) hJ3
  · refine z_lconst rfl ?_
    refine z_goto rfl ?_
    refine zsubL (L' := [zJk, zJk]) ⟨Or.inr rfl, Or.inl rfl, trivial⟩ ?_
    exact zcast (by first | rfl | (simp only [if_neg c1] <;> rfl)) (by first | rfl | (simp only [if_neg c1] <;> rfl)) hJ3
set_option maxRecDepth 100000 in
theorem zf_Mo_clip {l : Launch} {E : zE} {d : Nat} (hd : 1 ≤ d) (x0 : Int) {h : zHp} : zC l E d zm_Mo_clip [.inr (.inl x0)] h (fun r1 h1 => sh_Mo_clip x0 = r1 ∧ h = h1) :=
  zC_of zk_Mo_clip (by decide) rfl rfl (Nat.le_of_ble_eq_true rfl) (zw_Mo_clip hd _ rfl ⟨rfl, rfl⟩)
def sh_Mo_two (N : Nat) (x0 x1 x3 : Int) (h : zHp) : Option Int := (if x0 = 3 then some (sh_Mo_clip (w64 (x1 + x3))) else if x0 = 4 then some (sh_Mo_clip (w64 (x1 - x3))) else if x0 = 5 then some (sh_Mo_clip (w64 (x1 * x3))) else (if zcmp x3 0 = 0 then some 0 else if ¬ x3 = 0 then some (sh_Mo_clip (w64 ((x1).tdiv x3))) else none))
set_option maxRecDepth 100000 in
set_option maxHeartbeats 4000000 in
theorem zw_Mo_two {l : Launch} {E : zE} {d : Nat} (hd : 2 ≤ d) (N : Nat) (x0 x1 x3 : Int) {h : zHp} {Q : Int → zHp → Prop} {r0 : Int} (hF : sh_Mo_two N x0 x1 x3 h = some r0) (K : Q r0 h) : zW l E d zm_Mo_two 0 [.inl x0, .inr (.inl x1), zJk, .inr (.inl x3), zJk] [] h Q := by
  rw [sh_Mo_two] at hF
  refine z_iload rfl rfl ?_
  refine z_switch rfl (by unfold zI32; omega) (by decide) (fun c1 => ?_) (fun j t ht e => ?_)
  · simp only [List.length_cons, List.length_nil] at c1
    rw [if_neg (by omega), if_neg (by omega), if_neg (by omega)] at hF
    refine z_lload rfl rfl ?_
    refine z_lconst rfl ?_
    refine z_lcmp rfl ?_
    refine z_zne rfl (fun c3 => ?_) (fun c3 => ?_)
    · rw [if_neg c3] at hF
      refine z_lload rfl rfl ?_
      refine z_lload rfl rfl ?_
      obtain ⟨g4, hF⟩ := zguard hF
      refine z_ldiv rfl g4 ?_
      refine z_ivs2 (d' := d - 1) (As := [.inr (.inl (w64 ((x1).tdiv x3)))]) rfl rfl (zf_Mo_clip (by omega) _) rfl (by omega) rfl (fun r5 h6 hR7 hQ8 => ?_)
      obtain ⟨rfl, rfl⟩ := hQ8
      obtain rfl := Option.some.inj hF
      exact z_lret rfl rfl K
    · rw [if_pos c3] at hF
      refine z_lconst rfl ?_
      refine z_goto rfl ?_
      obtain rfl := Option.some.inj hF
      exact z_lret rfl rfl K
  · match j, ht, e with
    | 0, ht, e =>
      obtain rfl : 2 = t := Option.some.inj ht
      rw [if_pos (by omega)] at hF
      refine z_lload rfl rfl ?_
      refine z_lload rfl rfl ?_
      refine z_ladd rfl ?_
      refine z_ivs2 (d' := d - 1) (As := [.inr (.inl (w64 (x1 + x3)))]) rfl rfl (zf_Mo_clip (by omega) _) rfl (by omega) rfl (fun r9 h10 hR11 hQ12 => ?_)
      obtain ⟨rfl, rfl⟩ := hQ12
      obtain rfl := Option.some.inj hF
      exact z_lret rfl rfl K
    | 1, ht, e =>
      obtain rfl : 7 = t := Option.some.inj ht
      rw [if_neg (by omega), if_pos (by omega)] at hF
      refine z_lload rfl rfl ?_
      refine z_lload rfl rfl ?_
      refine z_lsub rfl ?_
      refine z_ivs2 (d' := d - 1) (As := [.inr (.inl (w64 (x1 - x3)))]) rfl rfl (zf_Mo_clip (by omega) _) rfl (by omega) rfl (fun r13 h14 hR15 hQ16 => ?_)
      obtain ⟨rfl, rfl⟩ := hQ16
      obtain rfl := Option.some.inj hF
      exact z_lret rfl rfl K
    | 2, ht, e =>
      obtain rfl : 12 = t := Option.some.inj ht
      rw [if_neg (by omega), if_neg (by omega), if_pos (by omega)] at hF
      refine z_lload rfl rfl ?_
      refine z_lload rfl rfl ?_
      refine z_lmul rfl ?_
      refine z_ivs2 (d' := d - 1) (As := [.inr (.inl (w64 (x1 * x3)))]) rfl rfl (zf_Mo_clip (by omega) _) rfl (by omega) rfl (fun r17 h18 hR19 hQ20 => ?_)
      obtain ⟨rfl, rfl⟩ := hQ20
      obtain rfl := Option.some.inj hF
      exact z_lret rfl rfl K
    | j + 3, ht, e => cases ht
set_option maxRecDepth 100000 in
theorem zf_Mo_two {l : Launch} {E : zE} {d : Nat} (hd : 2 ≤ d) (N : Nat) (x0 x1 x3 : Int) {h : zHp} {r0 : Int} (hF : sh_Mo_two N x0 x1 x3 h = some r0) : zC l E d zm_Mo_two [.inl x0, .inr (.inl x1), .inr (.inl x3)] h (fun r1 h1 => r0 = r1 ∧ h = h1) :=
  zC_of zk_Mo_two (by decide) rfl rfl (Nat.le_of_ble_eq_true rfl) (zw_Mo_two hd N _ _ _ hF ⟨rfl, rfl⟩)
def sh_Mo_isAsked (x0 x1 x3 : Int) : Int := (if x0 = 10 then (if 0 ≤ zcmp x1 x3 then 0 else 1 : Int) else (if x0 = 11 then (if 0 < zcmp x1 x3 then 0 else 1 : Int) else (if x0 = 12 then (if zcmp x1 x3 ≤ 0 then 0 else 1 : Int) else (if x0 = 13 then (if zcmp x1 x3 < 0 then 0 else 1 : Int) else (if x0 = 14 then (if zcmp x1 x3 = 0 then 1 else 0 : Int) else (if zcmp x1 x3 = 0 then 0 else 1 : Int) : Int) : Int) : Int) : Int) : Int)
set_option maxRecDepth 100000 in
set_option maxHeartbeats 4000000 in
theorem zw_Mo_isAsked {l : Launch} {E : zE} {d : Nat} (hd : 1 ≤ d) (x0 x1 x3 : Int) {h : zHp} {Q : Int → zHp → Prop} {r0 : Int} (hF : sh_Mo_isAsked x0 x1 x3 = r0) (K : Q r0 h) : zW l E d zm_Mo_isAsked 0 [.inl x0, .inr (.inl x1), zJk, .inr (.inl x3), zJk] [] h Q := by
  rw [sh_Mo_isAsked] at hF
  refine z_iload rfl rfl ?_
  refine z_const rfl ?_
  have hJ12 : zW l E d zm_Mo_isAsked 62 [zJk, zJk, zJk, zJk, zJk] [.inl (if x0 = 10 then (if 0 ≤ zcmp x1 x3 then 0 else 1 : Int) else (if x0 = 11 then (if 0 < zcmp x1 x3 then 0 else 1 : Int) else (if x0 = 12 then (if zcmp x1 x3 ≤ 0 then 0 else 1 : Int) else (if x0 = 13 then (if zcmp x1 x3 < 0 then 0 else 1 : Int) else (if x0 = 14 then (if zcmp x1 x3 = 0 then 1 else 0 : Int) else (if zcmp x1 x3 = 0 then 0 else 1 : Int) : Int) : Int) : Int) : Int) : Int)] h Q := by
    subst hF
    exact z_zret rfl rfl (zor_ite (zor_ite (Or.inl rfl) (Or.inr rfl)) (zor_ite (zor_ite (Or.inl rfl) (Or.inr rfl)) (zor_ite (zor_ite (Or.inl rfl) (Or.inr rfl)) (zor_ite (zor_ite (Or.inl rfl) (Or.inr rfl)) (zor_ite (zor_ite (Or.inr rfl) (Or.inl rfl)) (zor_ite (Or.inl rfl) (Or.inr rfl))))))) K
  refine z_cne rfl (fun c1 => ?_) (fun c1 => ?_)
  · refine z_iload rfl rfl ?_
    refine z_const rfl ?_
    refine z_cne rfl (fun c2 => ?_) (fun c2 => ?_)
    · refine z_iload rfl rfl ?_
      refine z_const rfl ?_
      refine z_cne rfl (fun c3 => ?_) (fun c3 => ?_)
      · refine z_iload rfl rfl ?_
        refine z_const rfl ?_
        refine z_cne rfl (fun c4 => ?_) (fun c4 => ?_)
        · refine z_iload rfl rfl ?_
          refine z_const rfl ?_
          refine z_cne rfl (fun c5 => ?_) (fun c5 => ?_)
          · refine z_lload rfl rfl ?_
            refine z_lload rfl rfl ?_
            refine z_lcmp rfl ?_
            refine z_zeq rfl (fun c6 => ?_) (fun c6 => ?_)
            · refine z_const rfl ?_
              refine zsubL (L' := [zJk, zJk, zJk, zJk, zJk]) ⟨Or.inr rfl, Or.inr rfl, Or.inl rfl, Or.inr rfl, Or.inl rfl, trivial⟩ ?_
              exact zcast (by first | rfl | (simp only [if_neg c1, if_neg c2, if_neg c3, if_neg c4, if_neg c5, if_pos c6] <;> rfl)) (by first | rfl | (simp only [if_neg c1, if_neg c2, if_neg c3, if_neg c4, if_neg c5, if_pos c6] <;> rfl)) hJ12
            · refine z_const rfl ?_
              refine z_goto rfl ?_
              refine zsubL (L' := [zJk, zJk, zJk, zJk, zJk]) ⟨Or.inr rfl, Or.inr rfl, Or.inl rfl, Or.inr rfl, Or.inl rfl, trivial⟩ ?_
              exact zcast (by first | rfl | (simp only [if_neg c1, if_neg c2, if_neg c3, if_neg c4, if_neg c5, if_neg c6] <;> rfl)) (by first | rfl | (simp only [if_neg c1, if_neg c2, if_neg c3, if_neg c4, if_neg c5, if_neg c6] <;> rfl)) hJ12
          · refine z_lload rfl rfl ?_
            refine z_lload rfl rfl ?_
            refine z_lcmp rfl ?_
            refine z_zne rfl (fun c7 => ?_) (fun c7 => ?_)
            · refine z_const rfl ?_
              refine z_goto rfl ?_
              refine zsubL (L' := [zJk, zJk, zJk, zJk, zJk]) ⟨Or.inr rfl, Or.inr rfl, Or.inl rfl, Or.inr rfl, Or.inl rfl, trivial⟩ ?_
              exact zcast (by first | rfl | (simp only [if_neg c1, if_neg c2, if_neg c3, if_neg c4, if_pos c5, if_neg c7] <;> rfl)) (by first | rfl | (simp only [if_neg c1, if_neg c2, if_neg c3, if_neg c4, if_pos c5, if_neg c7] <;> rfl)) hJ12
            · refine z_const rfl ?_
              refine z_goto rfl ?_
              refine zsubL (L' := [zJk, zJk, zJk, zJk, zJk]) ⟨Or.inr rfl, Or.inr rfl, Or.inl rfl, Or.inr rfl, Or.inl rfl, trivial⟩ ?_
              exact zcast (by first | rfl | (simp only [if_neg c1, if_neg c2, if_neg c3, if_neg c4, if_pos c5, if_pos c7] <;> rfl)) (by first | rfl | (simp only [if_neg c1, if_neg c2, if_neg c3, if_neg c4, if_pos c5, if_pos c7] <;> rfl)) hJ12
        · refine z_lload rfl rfl ?_
          refine z_lload rfl rfl ?_
          refine z_lcmp rfl ?_
          refine z_zlt rfl (fun c8 => ?_) (fun c8 => ?_)
          · refine z_const rfl ?_
            refine z_goto rfl ?_
            refine zsubL (L' := [zJk, zJk, zJk, zJk, zJk]) ⟨Or.inr rfl, Or.inr rfl, Or.inl rfl, Or.inr rfl, Or.inl rfl, trivial⟩ ?_
            exact zcast (by first | rfl | (simp only [if_neg c1, if_neg c2, if_neg c3, if_pos c4, if_pos c8] <;> rfl)) (by first | rfl | (simp only [if_neg c1, if_neg c2, if_neg c3, if_pos c4, if_pos c8] <;> rfl)) hJ12
          · refine z_const rfl ?_
            refine z_goto rfl ?_
            refine zsubL (L' := [zJk, zJk, zJk, zJk, zJk]) ⟨Or.inr rfl, Or.inr rfl, Or.inl rfl, Or.inr rfl, Or.inl rfl, trivial⟩ ?_
            exact zcast (by first | rfl | (simp only [if_neg c1, if_neg c2, if_neg c3, if_pos c4, if_neg c8] <;> rfl)) (by first | rfl | (simp only [if_neg c1, if_neg c2, if_neg c3, if_pos c4, if_neg c8] <;> rfl)) hJ12
      · refine z_lload rfl rfl ?_
        refine z_lload rfl rfl ?_
        refine z_lcmp rfl ?_
        refine z_zle rfl (fun c9 => ?_) (fun c9 => ?_)
        · refine z_const rfl ?_
          refine z_goto rfl ?_
          refine zsubL (L' := [zJk, zJk, zJk, zJk, zJk]) ⟨Or.inr rfl, Or.inr rfl, Or.inl rfl, Or.inr rfl, Or.inl rfl, trivial⟩ ?_
          exact zcast (by first | rfl | (simp only [if_neg c1, if_neg c2, if_pos c3, if_pos c9] <;> rfl)) (by first | rfl | (simp only [if_neg c1, if_neg c2, if_pos c3, if_pos c9] <;> rfl)) hJ12
        · refine z_const rfl ?_
          refine z_goto rfl ?_
          refine zsubL (L' := [zJk, zJk, zJk, zJk, zJk]) ⟨Or.inr rfl, Or.inr rfl, Or.inl rfl, Or.inr rfl, Or.inl rfl, trivial⟩ ?_
          exact zcast (by first | rfl | (simp only [if_neg c1, if_neg c2, if_pos c3, if_neg c9] <;> rfl)) (by first | rfl | (simp only [if_neg c1, if_neg c2, if_pos c3, if_neg c9] <;> rfl)) hJ12
    · refine z_lload rfl rfl ?_
      refine z_lload rfl rfl ?_
      refine z_lcmp rfl ?_
      refine z_zgt rfl (fun c10 => ?_) (fun c10 => ?_)
      · refine z_const rfl ?_
        refine z_goto rfl ?_
        refine zsubL (L' := [zJk, zJk, zJk, zJk, zJk]) ⟨Or.inr rfl, Or.inr rfl, Or.inl rfl, Or.inr rfl, Or.inl rfl, trivial⟩ ?_
        exact zcast (by first | rfl | (simp only [if_neg c1, if_pos c2, if_pos c10] <;> rfl)) (by first | rfl | (simp only [if_neg c1, if_pos c2, if_pos c10] <;> rfl)) hJ12
      · refine z_const rfl ?_
        refine z_goto rfl ?_
        refine zsubL (L' := [zJk, zJk, zJk, zJk, zJk]) ⟨Or.inr rfl, Or.inr rfl, Or.inl rfl, Or.inr rfl, Or.inl rfl, trivial⟩ ?_
        exact zcast (by first | rfl | (simp only [if_neg c1, if_pos c2, if_neg c10] <;> rfl)) (by first | rfl | (simp only [if_neg c1, if_pos c2, if_neg c10] <;> rfl)) hJ12
  · refine z_lload rfl rfl ?_
    refine z_lload rfl rfl ?_
    refine z_lcmp rfl ?_
    refine z_zge rfl (fun c11 => ?_) (fun c11 => ?_)
    · refine z_const rfl ?_
      refine z_goto rfl ?_
      refine zsubL (L' := [zJk, zJk, zJk, zJk, zJk]) ⟨Or.inr rfl, Or.inr rfl, Or.inl rfl, Or.inr rfl, Or.inl rfl, trivial⟩ ?_
      exact zcast (by first | rfl | (simp only [if_pos c1, if_pos c11] <;> rfl)) (by first | rfl | (simp only [if_pos c1, if_pos c11] <;> rfl)) hJ12
    · refine z_const rfl ?_
      refine z_goto rfl ?_
      refine zsubL (L' := [zJk, zJk, zJk, zJk, zJk]) ⟨Or.inr rfl, Or.inr rfl, Or.inl rfl, Or.inr rfl, Or.inl rfl, trivial⟩ ?_
      exact zcast (by first | rfl | (simp only [if_pos c1, if_neg c11] <;> rfl)) (by first | rfl | (simp only [if_pos c1, if_neg c11] <;> rfl)) hJ12
set_option maxRecDepth 100000 in
theorem zf_Mo_isAsked {l : Launch} {E : zE} {d : Nat} (hd : 1 ≤ d) (x0 x1 x3 : Int) {h : zHp} : zC l E d zm_Mo_isAsked [.inl x0, .inr (.inl x1), .inr (.inl x3)] h (fun r1 h1 => sh_Mo_isAsked x0 x1 x3 = r1 ∧ h = h1) :=
  zC_of zk_Mo_isAsked (by decide) rfl rfl (Nat.le_of_ble_eq_true rfl) (zw_Mo_isAsked hd _ _ _ rfl ⟨rfl, rfl⟩)
theorem zb_Mo_isAsked (x0 x1 x3 : Int) : sh_Mo_isAsked x0 x1 x3 = 0 ∨ sh_Mo_isAsked x0 x1 x3 = 1 := by
  unfold sh_Mo_isAsked
  exact zor_ite (zor_ite (Or.inl rfl) (Or.inr rfl)) (zor_ite (zor_ite (Or.inl rfl) (Or.inr rfl)) (zor_ite (zor_ite (Or.inl rfl) (Or.inr rfl)) (zor_ite (zor_ite (Or.inl rfl) (Or.inr rfl)) (zor_ite (zor_ite (Or.inr rfl) (Or.inl rfl)) (zor_ite (Or.inl rfl) (Or.inr rfl))))))
def sh_Mo_work_L33 (N : Nat) : Nat → Int → Int → Int → Int → Int → zHp → Option (zHp)
  | 0, _, _, _, _, _, _ => none
  | n + 1, x2, x3, x4, x5, x6, h => if 0 ≤ w32 (x2 + 2) ∧ w32 (x2 + 2) < 2500 then if h 88 (w32 (x2 + 2)).toNat ≤ x6 then some h else if 0 ≤ w32 (x3 + (w32 (2 * x6))) ∧ w32 (x3 + (w32 (2 * x6))) < 2500 then if 0 ≤ w32 ((w32 (x3 + (w32 (2 * x6)))) + 1) ∧ w32 ((w32 (x3 + (w32 (2 * x6)))) + 1) < 2500 then if 1 < h 88 (w32 (x3 + (w32 (2 * x6)))).toNat then (if h 88 (w32 (x3 + (w32 (2 * x6)))).toNat = 2 then if 0 ≤ w32 (x4 - 1) ∧ w32 (x4 - 1) < 330 then if 0 ≤ w32 (x4 - 1) ∧ w32 (x4 - 1) < 330 then sh_Mo_work_L33 N n x2 x3 x4 x5 (w32 (x6 + 1)) (zst h 92 (w32 (x4 - 1)).toNat (w64 (-(h 92 (w32 (x4 - 1)).toNat)))) else none else none else (if 10 ≤ h 88 (w32 (x3 + (w32 (2 * x6)))).toNat then (if 20 ≤ h 88 (w32 (x3 + (w32 (2 * x6)))).toNat then (if h 88 (w32 (x3 + (w32 (2 * x6)))).toNat = 20 then if 0 ≤ w32 (x5 - 1) ∧ w32 (x5 - 1) < 330 then if 0 ≤ w32 (x5 - 1) ∧ w32 (x5 - 1) < 330 then sh_Mo_work_L33 N n x2 x3 x4 x5 (w32 (x6 + 1)) (zst h 93 (w32 (x5 - 1)).toNat (if h 93 (w32 (x5 - 1)).toNat = 0 then 1 else 0 : Int)) else none else none else (if h 88 (w32 (x3 + (w32 (2 * x6)))).toNat = 21 then if 0 ≤ w32 ((w32 (x5 + (-1))) - 1) ∧ w32 ((w32 (x5 + (-1))) - 1) < 330 then if h 93 (w32 ((w32 (x5 + (-1))) - 1)).toNat = 0 then if 0 ≤ w32 ((w32 (x5 + (-1))) - 1) ∧ w32 ((w32 (x5 + (-1))) - 1) < 330 then sh_Mo_work_L33 N n x2 x3 x4 (w32 (x5 + (-1))) (w32 (x6 + 1)) (zst h 93 (w32 ((w32 (x5 + (-1))) - 1)).toNat 0) else none else if 0 ≤ w32 (x5 + (-1)) ∧ w32 (x5 + (-1)) < 330 then if 0 ≤ w32 ((w32 (x5 + (-1))) - 1) ∧ w32 ((w32 (x5 + (-1))) - 1) < 330 then sh_Mo_work_L33 N n x2 x3 x4 (w32 (x5 + (-1))) (w32 (x6 + 1)) (zst h 93 (w32 ((w32 (x5 + (-1))) - 1)).toNat (if h 93 (w32 (x5 + (-1))).toNat = 0 then 0 else 1 : Int)) else none else none else none else if 0 ≤ w32 ((w32 (x5 + (-1))) - 1) ∧ w32 ((w32 (x5 + (-1))) - 1) < 330 then if h 93 (w32 ((w32 (x5 + (-1))) - 1)).toNat = 0 then if 0 ≤ w32 (x5 + (-1)) ∧ w32 (x5 + (-1)) < 330 then if 0 ≤ w32 ((w32 (x5 + (-1))) - 1) ∧ w32 ((w32 (x5 + (-1))) - 1) < 330 then sh_Mo_work_L33 N n x2 x3 x4 (w32 (x5 + (-1))) (w32 (x6 + 1)) (zst h 93 (w32 ((w32 (x5 + (-1))) - 1)).toNat (if h 93 (w32 (x5 + (-1))).toNat = 0 then 0 else 1 : Int)) else none else none else if 0 ≤ w32 ((w32 (x5 + (-1))) - 1) ∧ w32 ((w32 (x5 + (-1))) - 1) < 330 then sh_Mo_work_L33 N n x2 x3 x4 (w32 (x5 + (-1))) (w32 (x6 + 1)) (zst h 93 (w32 ((w32 (x5 + (-1))) - 1)).toNat 1) else none else none)) else if 0 ≤ w32 (x4 + (-2)) ∧ w32 (x4 + (-2)) < 330 then if 0 ≤ w32 ((w32 (x4 + (-2))) + 1) ∧ w32 ((w32 (x4 + (-2))) + 1) < 330 then if 0 ≤ x5 ∧ x5 < 330 then sh_Mo_work_L33 N n x2 x3 (w32 (x4 + (-2))) (w32 (x5 + 1)) (w32 (x6 + 1)) (zst h 93 x5.toNat (sh_Mo_isAsked (h 88 (w32 (x3 + (w32 (2 * x6)))).toNat) (h 92 (w32 (x4 + (-2))).toNat) (h 92 (w32 ((w32 (x4 + (-2))) + 1)).toNat))) else none else none else none) else if 0 ≤ w32 ((w32 (x4 + (-1))) - 1) ∧ w32 ((w32 (x4 + (-1))) - 1) < 330 then if 0 ≤ w32 (x4 + (-1)) ∧ w32 (x4 + (-1)) < 330 then zb1 (sh_Mo_two N (h 88 (w32 (x3 + (w32 (2 * x6)))).toNat) (h 92 (w32 ((w32 (x4 + (-1))) - 1)).toNat) (h 92 (w32 (x4 + (-1))).toNat) h) fun r72 => if 0 ≤ w32 ((w32 (x4 + (-1))) - 1) ∧ w32 ((w32 (x4 + (-1))) - 1) < 330 then sh_Mo_work_L33 N n x2 x3 (w32 (x4 + (-1))) x5 (w32 (x6 + 1)) (zst h 92 (w32 ((w32 (x4 + (-1))) - 1)).toNat r72) else none else none else none)) else (if h 88 (w32 (x3 + (w32 (2 * x6)))).toNat = 0 then if 0 ≤ x4 ∧ x4 < 330 then sh_Mo_work_L33 N n x2 x3 (w32 (x4 + 1)) x5 (w32 (x6 + 1)) (zst h 92 x4.toNat (h 88 (w32 ((w32 (x3 + (w32 (2 * x6)))) + 1)).toNat)) else none else if 0 ≤ h 88 (w32 ((w32 (x3 + (w32 (2 * x6)))) + 1)).toNat ∧ h 88 (w32 ((w32 (x3 + (w32 (2 * x6)))) + 1)).toNat < 11 then if 0 ≤ x4 ∧ x4 < 330 then sh_Mo_work_L33 N n x2 x3 (w32 (x4 + 1)) x5 (w32 (x6 + 1)) (zst h 92 x4.toNat (h 91 (h 88 (w32 ((w32 (x3 + (w32 (2 * x6)))) + 1)).toNat).toNat)) else none else none) else none else none else none
def sh_Mo_work (N : Nat) (x1 : Int) (h : zHp) : Option zHp := if 0 ≤ w32 ((w32 ((w32 ((w32 (625 * (h 86 5))) + 1)) + (w32 (3 * x1)))) + 1) ∧ w32 ((w32 ((w32 ((w32 (625 * (h 86 5))) + 1)) + (w32 (3 * x1)))) + 1) < 2500 then zb1 (sh_Mo_work_L33 N N (w32 ((w32 ((w32 (625 * (h 86 5))) + 1)) + (w32 (3 * x1)))) (w32 ((w32 (625 * (h 86 5))) + 20)) 0 0 (h 88 (w32 ((w32 ((w32 ((w32 (625 * (h 86 5))) + 1)) + (w32 (3 * x1)))) + 1)).toNat) h) fun h82 => some h82 else none
set_option maxRecDepth 100000 in
set_option maxHeartbeats 4000000 in
theorem zl_Mo_work_L33 {l : Launch} {E : zE} {d : Nat} (hd : 3 ≤ d) (N : Nat) {Q : Int → zHp → Prop} {oh : zHp} (K1 : zW l E d zm_Mo_work 205 [zJk, zJk, zJk, zJk, zJk, zJk, zJk, zJk, zJk] [] oh Q) : ∀ (n : Nat) (x2 x3 x4 x5 x6 : Int) (h : zHp), sh_Mo_work_L33 N n x2 x3 x4 x5 x6 h = some oh → zW l E d zm_Mo_work 33 [.inr (.inr 85), zJk, .inl x2, .inl x3, .inl x4, .inl x5, .inl x6, zJk, zJk] [] h Q := by
  intro n
  induction n with
  | zero =>
    intro x2 x3 x4 x5 x6 h hF
    cases (show (none : Option (zHp)) = some oh from hF)
  | succ n ih =>
    intro x2 x3 x4 x5 x6 h hF
    rw [sh_Mo_work_L33] at hF
    refine z_iload rfl rfl ?_
    refine z_aload rfl rfl rfl ?_
    refine z_getr (r := 88) rfl rfl rfl rfl ?_
    refine z_iload rfl rfl ?_
    refine z_const rfl ?_
    refine z_iadd rfl ?_
    obtain ⟨g2, hF⟩ := zguard hF
    refine z_iald rfl rfl g2.1 g2.2 ?_
    refine z_cge rfl (fun c3 => ?_) (fun c3 => ?_)
    · rw [if_pos c3] at hF
      refine zsubL (L' := [zJk, zJk, zJk, zJk, zJk, zJk, zJk, zJk, zJk]) ⟨Or.inr rfl, Or.inl rfl, Or.inr rfl, Or.inr rfl, Or.inr rfl, Or.inr rfl, Or.inr rfl, Or.inl rfl, Or.inl rfl, trivial⟩ ?_
      obtain rfl := Option.some.inj hF
      exact K1
    · rw [if_neg c3] at hF
      refine z_aload rfl rfl rfl ?_
      refine z_getr (r := 88) rfl rfl rfl rfl ?_
      refine z_iload rfl rfl ?_
      refine z_const rfl ?_
      refine z_iload rfl rfl ?_
      refine z_imul rfl ?_
      refine z_iadd rfl ?_
      obtain ⟨g4, hF⟩ := zguard hF
      refine z_iald rfl rfl g4.1 g4.2 ?_
      refine z_istore rfl rfl rfl ?_
      refine z_aload rfl rfl rfl ?_
      refine z_getr (r := 88) rfl rfl rfl rfl ?_
      refine z_iload rfl rfl ?_
      refine z_const rfl ?_
      refine z_iload rfl rfl ?_
      refine z_imul rfl ?_
      refine z_iadd rfl ?_
      refine z_const rfl ?_
      refine z_iadd rfl ?_
      obtain ⟨g5, hF⟩ := zguard hF
      refine z_iald rfl rfl g5.1 g5.2 ?_
      refine z_istore rfl rfl rfl ?_
      refine z_iload rfl rfl ?_
      refine z_const rfl ?_
      refine z_cgt rfl (fun c12 => ?_) (fun c12 => ?_)
      · rw [if_pos c12] at hF
        refine z_iload rfl rfl ?_
        refine z_const rfl ?_
        refine z_cne rfl (fun c18 => ?_) (fun c18 => ?_)
        · rw [if_neg c18] at hF
          refine z_iload rfl rfl ?_
          refine z_const rfl ?_
          refine z_cge rfl (fun c23 => ?_) (fun c23 => ?_)
          · rw [if_pos c23] at hF
            refine z_iload rfl rfl ?_
            refine z_const rfl ?_
            refine z_cge rfl (fun c27 => ?_) (fun c27 => ?_)
            · rw [if_pos c27] at hF
              refine z_iload rfl rfl ?_
              refine z_const rfl ?_
              refine z_cne rfl (fun c30 => ?_) (fun c30 => ?_)
              · rw [if_neg c30] at hF
                refine z_iinc rfl rfl rfl ?_
                refine z_aload rfl rfl rfl ?_
                refine z_getr (r := 93) rfl rfl rfl rfl ?_
                refine z_iload rfl rfl ?_
                refine z_const rfl ?_
                refine z_isub rfl ?_
                refine z_iload rfl rfl ?_
                refine z_const rfl ?_
                refine z_cne rfl (fun c32 => ?_) (fun c32 => ?_)
                · rw [if_neg c32] at hF
                  refine z_aload rfl rfl rfl ?_
                  refine z_getr (r := 93) rfl rfl rfl rfl ?_
                  refine z_iload rfl rfl ?_
                  refine z_const rfl ?_
                  refine z_isub rfl ?_
                  obtain ⟨g33, hF⟩ := zguard hF
                  refine z_bald rfl rfl g33.1 g33.2 (fun z34 => ?_)
                  refine z_zne rfl (fun c36 => ?_) (fun c36 => ?_)
                  · rw [if_neg c36] at hF
                    refine z_const rfl ?_
                    refine z_goto rfl ?_
                    obtain ⟨g37, hF⟩ := zguard hF
                    refine z_bast rfl rfl g37.1 g37.2 (Or.inr rfl) ?_
                    refine z_iinc rfl rfl rfl ?_
                    refine z_goto rfl ?_
                    refine zsubL (L' := [.inr (.inr 85), zJk, .inl x2, .inl x3, .inl x4, .inl (w32 (x5 + (-1))), .inl (w32 (x6 + 1)), zJk, zJk]) ⟨Or.inl rfl, Or.inl rfl, Or.inl rfl, Or.inl rfl, Or.inl rfl, Or.inl rfl, Or.inl rfl, Or.inr rfl, Or.inr rfl, trivial⟩ ?_
                    exact ih _ _ _ _ _ _ hF
                  · rw [if_pos c36] at hF
                    refine z_aload rfl rfl rfl ?_
                    refine z_getr (r := 93) rfl rfl rfl rfl ?_
                    refine z_iload rfl rfl ?_
                    obtain ⟨g38, hF⟩ := zguard hF
                    refine z_bald rfl rfl g38.1 g38.2 (fun z39 => ?_)
                    have hJ41 : zW l E d zm_Mo_work 202 [.inr (.inr 85), zJk, .inl x2, .inl x3, .inl x4, .inl (w32 (x5 + (-1))), .inl x6, zJk, zJk] [.inl (if h 93 (w32 (x5 + (-1))).toNat = 0 then 0 else 1 : Int), .inl (w32 ((w32 (x5 + (-1))) - 1)), .inr (.inr 93)] h Q := by
                      obtain ⟨g42, hF⟩ := zguard hF
                      refine z_bast rfl rfl g42.1 g42.2 (zor_ite (Or.inl rfl) (Or.inr rfl)) ?_
                      refine z_iinc rfl rfl rfl ?_
                      refine z_goto rfl ?_
                      exact ih _ _ _ _ _ _ hF
                    refine z_zeq rfl (fun c40 => ?_) (fun c40 => ?_)
                    · refine z_const rfl ?_
                      refine zsubL (L' := [.inr (.inr 85), zJk, .inl x2, .inl x3, .inl x4, .inl (w32 (x5 + (-1))), .inl x6, zJk, zJk]) ⟨Or.inl rfl, Or.inl rfl, Or.inl rfl, Or.inl rfl, Or.inl rfl, Or.inl rfl, Or.inl rfl, Or.inr rfl, Or.inr rfl, trivial⟩ ?_
                      exact zcast (by first | rfl | (simp only [if_pos c40] <;> rfl)) (by first | rfl | (simp only [if_pos c40] <;> rfl)) hJ41
                    · refine z_const rfl ?_
                      refine z_goto rfl ?_
                      refine zsubL (L' := [.inr (.inr 85), zJk, .inl x2, .inl x3, .inl x4, .inl (w32 (x5 + (-1))), .inl x6, zJk, zJk]) ⟨Or.inl rfl, Or.inl rfl, Or.inl rfl, Or.inl rfl, Or.inl rfl, Or.inl rfl, Or.inl rfl, Or.inr rfl, Or.inr rfl, trivial⟩ ?_
                      exact zcast (by first | rfl | (simp only [if_neg c40] <;> rfl)) (by first | rfl | (simp only [if_neg c40] <;> rfl)) hJ41
                · rw [if_pos c32] at hF
                  refine z_aload rfl rfl rfl ?_
                  refine z_getr (r := 93) rfl rfl rfl rfl ?_
                  refine z_iload rfl rfl ?_
                  refine z_const rfl ?_
                  refine z_isub rfl ?_
                  obtain ⟨g43, hF⟩ := zguard hF
                  refine z_bald rfl rfl g43.1 g43.2 (fun z44 => ?_)
                  refine z_zeq rfl (fun c46 => ?_) (fun c46 => ?_)
                  · rw [if_pos c46] at hF
                    refine z_const rfl ?_
                    refine z_goto rfl ?_
                    obtain ⟨g47, hF⟩ := zguard hF
                    refine z_bast rfl rfl g47.1 g47.2 (Or.inl rfl) ?_
                    refine z_iinc rfl rfl rfl ?_
                    refine z_goto rfl ?_
                    refine zsubL (L' := [.inr (.inr 85), zJk, .inl x2, .inl x3, .inl x4, .inl (w32 (x5 + (-1))), .inl (w32 (x6 + 1)), zJk, zJk]) ⟨Or.inl rfl, Or.inl rfl, Or.inl rfl, Or.inl rfl, Or.inl rfl, Or.inl rfl, Or.inl rfl, Or.inr rfl, Or.inr rfl, trivial⟩ ?_
                    exact ih _ _ _ _ _ _ hF
                  · rw [if_neg c46] at hF
                    refine z_aload rfl rfl rfl ?_
                    refine z_getr (r := 93) rfl rfl rfl rfl ?_
                    refine z_iload rfl rfl ?_
                    obtain ⟨g48, hF⟩ := zguard hF
                    refine z_bald rfl rfl g48.1 g48.2 (fun z49 => ?_)
                    have hJ51 : zW l E d zm_Mo_work 202 [.inr (.inr 85), zJk, .inl x2, .inl x3, .inl x4, .inl (w32 (x5 + (-1))), .inl x6, zJk, zJk] [.inl (if h 93 (w32 (x5 + (-1))).toNat = 0 then 0 else 1 : Int), .inl (w32 ((w32 (x5 + (-1))) - 1)), .inr (.inr 93)] h Q := by
                      obtain ⟨g52, hF⟩ := zguard hF
                      refine z_bast rfl rfl g52.1 g52.2 (zor_ite (Or.inl rfl) (Or.inr rfl)) ?_
                      refine z_iinc rfl rfl rfl ?_
                      refine z_goto rfl ?_
                      exact ih _ _ _ _ _ _ hF
                    refine z_zeq rfl (fun c50 => ?_) (fun c50 => ?_)
                    · refine z_const rfl ?_
                      refine z_goto rfl ?_
                      refine zsubL (L' := [.inr (.inr 85), zJk, .inl x2, .inl x3, .inl x4, .inl (w32 (x5 + (-1))), .inl x6, zJk, zJk]) ⟨Or.inl rfl, Or.inl rfl, Or.inl rfl, Or.inl rfl, Or.inl rfl, Or.inl rfl, Or.inl rfl, Or.inr rfl, Or.inr rfl, trivial⟩ ?_
                      exact zcast (by first | rfl | (simp only [if_pos c50] <;> rfl)) (by first | rfl | (simp only [if_pos c50] <;> rfl)) hJ51
                    · refine z_const rfl ?_
                      refine z_goto rfl ?_
                      refine zsubL (L' := [.inr (.inr 85), zJk, .inl x2, .inl x3, .inl x4, .inl (w32 (x5 + (-1))), .inl x6, zJk, zJk]) ⟨Or.inl rfl, Or.inl rfl, Or.inl rfl, Or.inl rfl, Or.inl rfl, Or.inl rfl, Or.inl rfl, Or.inr rfl, Or.inr rfl, trivial⟩ ?_
                      exact zcast (by first | rfl | (simp only [if_neg c50] <;> rfl)) (by first | rfl | (simp only [if_neg c50] <;> rfl)) hJ51
              · rw [if_pos c30] at hF
                refine z_aload rfl rfl rfl ?_
                refine z_getr (r := 93) rfl rfl rfl rfl ?_
                refine z_iload rfl rfl ?_
                refine z_const rfl ?_
                refine z_isub rfl ?_
                refine z_aload rfl rfl rfl ?_
                refine z_getr (r := 93) rfl rfl rfl rfl ?_
                refine z_iload rfl rfl ?_
                refine z_const rfl ?_
                refine z_isub rfl ?_
                obtain ⟨g53, hF⟩ := zguard hF
                refine z_bald rfl rfl g53.1 g53.2 (fun z54 => ?_)
                have hJ56 : zW l E d zm_Mo_work 160 [.inr (.inr 85), zJk, .inl x2, .inl x3, .inl x4, .inl x5, .inl x6, zJk, zJk] [.inl (if h 93 (w32 (x5 - 1)).toNat = 0 then 1 else 0 : Int), .inl (w32 (x5 - 1)), .inr (.inr 93)] h Q := by
                  obtain ⟨g57, hF⟩ := zguard hF
                  refine z_bast rfl rfl g57.1 g57.2 (zor_ite (Or.inr rfl) (Or.inl rfl)) ?_
                  refine z_goto rfl ?_
                  refine z_iinc rfl rfl rfl ?_
                  refine z_goto rfl ?_
                  exact ih _ _ _ _ _ _ hF
                refine z_zne rfl (fun c55 => ?_) (fun c55 => ?_)
                · refine z_const rfl ?_
                  refine zsubL (L' := [.inr (.inr 85), zJk, .inl x2, .inl x3, .inl x4, .inl x5, .inl x6, zJk, zJk]) ⟨Or.inl rfl, Or.inl rfl, Or.inl rfl, Or.inl rfl, Or.inl rfl, Or.inl rfl, Or.inl rfl, Or.inr rfl, Or.inr rfl, trivial⟩ ?_
                  exact zcast (by first | rfl | (simp only [if_neg c55] <;> rfl)) (by first | rfl | (simp only [if_neg c55] <;> rfl)) hJ56
                · refine z_const rfl ?_
                  refine z_goto rfl ?_
                  refine zsubL (L' := [.inr (.inr 85), zJk, .inl x2, .inl x3, .inl x4, .inl x5, .inl x6, zJk, zJk]) ⟨Or.inl rfl, Or.inl rfl, Or.inl rfl, Or.inl rfl, Or.inl rfl, Or.inl rfl, Or.inl rfl, Or.inr rfl, Or.inr rfl, trivial⟩ ?_
                  exact zcast (by first | rfl | (simp only [if_pos c55] <;> rfl)) (by first | rfl | (simp only [if_pos c55] <;> rfl)) hJ56
            · rw [if_neg c27] at hF
              refine z_iinc rfl rfl rfl ?_
              refine z_aload rfl rfl rfl ?_
              refine z_getr (r := 93) rfl rfl rfl rfl ?_
              refine z_iload rfl rfl ?_
              refine z_iload rfl rfl ?_
              refine z_aload rfl rfl rfl ?_
              refine z_getr (r := 92) rfl rfl rfl rfl ?_
              refine z_iload rfl rfl ?_
              obtain ⟨g58, hF⟩ := zguard hF
              refine z_lald rfl rfl g58.1 g58.2 ?_
              refine z_aload rfl rfl rfl ?_
              refine z_getr (r := 92) rfl rfl rfl rfl ?_
              refine z_iload rfl rfl ?_
              refine z_const rfl ?_
              refine z_iadd rfl ?_
              obtain ⟨g59, hF⟩ := zguard hF
              refine z_lald rfl rfl g59.1 g59.2 ?_
              refine z_ivs1 (d' := d - 1) (As := [.inl (h 88 (w32 (x3 + (w32 (2 * x6)))).toNat), .inr (.inl (h 92 (w32 (x4 + (-2))).toNat)), .inr (.inl (h 92 (w32 ((w32 (x4 + (-2))) + 1)).toNat))]) rfl rfl (zf_Mo_isAsked (by omega) _ _ _) rfl (by omega) rfl (fun r60 h61 hR62 hQ63 => ?_)
              obtain ⟨rfl, rfl⟩ := hQ63
              obtain ⟨g64, hF⟩ := zguard hF
              refine z_bast rfl rfl g64.1 g64.2 (zRr_z rfl hR62) ?_
              refine z_iinc rfl rfl rfl ?_
              refine z_goto rfl ?_
              refine z_iinc rfl rfl rfl ?_
              refine z_goto rfl ?_
              refine zsubL (L' := [.inr (.inr 85), zJk, .inl x2, .inl x3, .inl (w32 (x4 + (-2))), .inl (w32 (x5 + 1)), .inl (w32 (x6 + 1)), zJk, zJk]) ⟨Or.inl rfl, Or.inl rfl, Or.inl rfl, Or.inl rfl, Or.inl rfl, Or.inl rfl, Or.inl rfl, Or.inr rfl, Or.inr rfl, trivial⟩ ?_
              exact ih _ _ _ _ _ _ hF
          · rw [if_neg c23] at hF
            refine z_iinc rfl rfl rfl ?_
            refine z_aload rfl rfl rfl ?_
            refine z_getr (r := 92) rfl rfl rfl rfl ?_
            refine z_iload rfl rfl ?_
            refine z_const rfl ?_
            refine z_isub rfl ?_
            refine z_iload rfl rfl ?_
            refine z_aload rfl rfl rfl ?_
            refine z_getr (r := 92) rfl rfl rfl rfl ?_
            refine z_iload rfl rfl ?_
            refine z_const rfl ?_
            refine z_isub rfl ?_
            obtain ⟨g65, hF⟩ := zguard hF
            refine z_lald rfl rfl g65.1 g65.2 ?_
            refine z_aload rfl rfl rfl ?_
            refine z_getr (r := 92) rfl rfl rfl rfl ?_
            refine z_iload rfl rfl ?_
            obtain ⟨g66, hF⟩ := zguard hF
            refine z_lald rfl rfl g66.1 g66.2 ?_
            obtain ⟨r72, hc71, hF⟩ := zbind1 hF
            refine z_ivs2 (d' := d - 1) (As := [.inl (h 88 (w32 (x3 + (w32 (2 * x6)))).toNat), .inr (.inl (h 92 (w32 ((w32 (x4 + (-1))) - 1)).toNat)), .inr (.inl (h 92 (w32 (x4 + (-1))).toNat))]) rfl rfl (zf_Mo_two (by omega) N _ _ _ hc71) rfl (by omega) rfl (fun r67 h68 hR69 hQ70 => ?_)
            obtain ⟨rfl, rfl⟩ := hQ70
            obtain ⟨g73, hF⟩ := zguard hF
            refine z_last rfl rfl g73.1 g73.2 ?_
            refine z_goto rfl ?_
            refine z_iinc rfl rfl rfl ?_
            refine z_goto rfl ?_
            refine zsubL (L' := [.inr (.inr 85), zJk, .inl x2, .inl x3, .inl (w32 (x4 + (-1))), .inl x5, .inl (w32 (x6 + 1)), zJk, zJk]) ⟨Or.inl rfl, Or.inl rfl, Or.inl rfl, Or.inl rfl, Or.inl rfl, Or.inl rfl, Or.inl rfl, Or.inr rfl, Or.inr rfl, trivial⟩ ?_
            exact ih _ _ _ _ _ _ hF
        · rw [if_pos c18] at hF
          refine z_aload rfl rfl rfl ?_
          refine z_getr (r := 92) rfl rfl rfl rfl ?_
          refine z_iload rfl rfl ?_
          refine z_const rfl ?_
          refine z_isub rfl ?_
          refine z_aload rfl rfl rfl ?_
          refine z_getr (r := 92) rfl rfl rfl rfl ?_
          refine z_iload rfl rfl ?_
          refine z_const rfl ?_
          refine z_isub rfl ?_
          obtain ⟨g74, hF⟩ := zguard hF
          refine z_lald rfl rfl g74.1 g74.2 ?_
          refine z_lneg rfl ?_
          obtain ⟨g75, hF⟩ := zguard hF
          refine z_last rfl rfl g75.1 g75.2 ?_
          refine z_goto rfl ?_
          refine z_iinc rfl rfl rfl ?_
          refine z_goto rfl ?_
          refine zsubL (L' := [.inr (.inr 85), zJk, .inl x2, .inl x3, .inl x4, .inl x5, .inl (w32 (x6 + 1)), zJk, zJk]) ⟨Or.inl rfl, Or.inl rfl, Or.inl rfl, Or.inl rfl, Or.inl rfl, Or.inl rfl, Or.inl rfl, Or.inr rfl, Or.inr rfl, trivial⟩ ?_
          exact ih _ _ _ _ _ _ hF
      · rw [if_neg c12] at hF
        refine z_aload rfl rfl rfl ?_
        refine z_getr (r := 92) rfl rfl rfl rfl ?_
        refine z_iload rfl rfl ?_
        refine z_iload rfl rfl ?_
        refine z_zne rfl (fun c77 => ?_) (fun c77 => ?_)
        · rw [if_neg c77] at hF
          refine z_aload rfl rfl rfl ?_
          refine z_getr (r := 91) rfl rfl rfl rfl ?_
          refine z_iload rfl rfl ?_
          obtain ⟨g78, hF⟩ := zguard hF
          refine z_iald rfl rfl g78.1 g78.2 ?_
          refine z_i2l rfl ?_
          obtain ⟨g79, hF⟩ := zguard hF
          refine z_last rfl rfl g79.1 g79.2 ?_
          refine z_iinc rfl rfl rfl ?_
          refine z_goto rfl ?_
          refine z_iinc rfl rfl rfl ?_
          refine z_goto rfl ?_
          refine zsubL (L' := [.inr (.inr 85), zJk, .inl x2, .inl x3, .inl (w32 (x4 + 1)), .inl x5, .inl (w32 (x6 + 1)), zJk, zJk]) ⟨Or.inl rfl, Or.inl rfl, Or.inl rfl, Or.inl rfl, Or.inl rfl, Or.inl rfl, Or.inl rfl, Or.inr rfl, Or.inr rfl, trivial⟩ ?_
          exact ih _ _ _ _ _ _ hF
        · rw [if_pos c77] at hF
          refine z_iload rfl rfl ?_
          refine z_i2l rfl ?_
          refine z_goto rfl ?_
          obtain ⟨g80, hF⟩ := zguard hF
          refine z_last rfl rfl g80.1 g80.2 ?_
          refine z_iinc rfl rfl rfl ?_
          refine z_goto rfl ?_
          refine z_iinc rfl rfl rfl ?_
          refine z_goto rfl ?_
          refine zsubL (L' := [.inr (.inr 85), zJk, .inl x2, .inl x3, .inl (w32 (x4 + 1)), .inl x5, .inl (w32 (x6 + 1)), zJk, zJk]) ⟨Or.inl rfl, Or.inl rfl, Or.inl rfl, Or.inl rfl, Or.inl rfl, Or.inl rfl, Or.inl rfl, Or.inr rfl, Or.inr rfl, trivial⟩ ?_
          exact ih _ _ _ _ _ _ hF
set_option maxRecDepth 100000 in
set_option maxHeartbeats 4000000 in
theorem zw_Mo_work {l : Launch} {E : zE} {d : Nat} (hd : 3 ≤ d) (N : Nat) (x1 : Int) {h : zHp} {Q : Int → zHp → Prop} {h0 : zHp} (hF : sh_Mo_work N x1 h = some h0) (K : Q 0 h0) : zW l E d zm_Mo_work 0 [.inr (.inr 85), .inl x1, zJk, zJk, zJk, zJk, zJk, zJk, zJk] [] h Q := by
  rw [sh_Mo_work] at hF
  refine z_const rfl ?_
  refine z_aload rfl rfl rfl ?_
  refine z_getr (r := 86) rfl rfl rfl rfl ?_
  refine z_const rfl ?_
  refine z_ialdc 5 rfl rfl rfl (by decide) ?_
  refine z_imul rfl ?_
  refine z_const rfl ?_
  refine z_iadd rfl ?_
  refine z_const rfl ?_
  refine z_iload rfl rfl ?_
  refine z_imul rfl ?_
  refine z_iadd rfl ?_
  refine z_istore rfl rfl rfl ?_
  refine z_const rfl ?_
  refine z_aload rfl rfl rfl ?_
  refine z_getr (r := 86) rfl rfl rfl rfl ?_
  refine z_const rfl ?_
  refine z_ialdc 5 rfl rfl rfl (by decide) ?_
  refine z_imul rfl ?_
  refine z_const rfl ?_
  refine z_iadd rfl ?_
  refine z_istore rfl rfl rfl ?_
  refine z_const rfl ?_
  refine z_istore rfl rfl rfl ?_
  refine z_const rfl ?_
  refine z_istore rfl rfl rfl ?_
  refine z_aload rfl rfl rfl ?_
  refine z_getr (r := 88) rfl rfl rfl rfl ?_
  refine z_iload rfl rfl ?_
  refine z_const rfl ?_
  refine z_iadd rfl ?_
  obtain ⟨g1, hF⟩ := zguard hF
  refine z_iald rfl rfl g1.1 g1.2 ?_
  refine z_istore rfl rfl rfl ?_
  refine zsubL (L' := [.inr (.inr 85), zJk, .inl (w32 ((w32 ((w32 (625 * (h 86 5))) + 1)) + (w32 (3 * x1)))), .inl (w32 ((w32 (625 * (h 86 5))) + 20)), .inl 0, .inl 0, .inl (h 88 (w32 ((w32 ((w32 ((w32 (625 * (h 86 5))) + 1)) + (w32 (3 * x1)))) + 1)).toNat), zJk, zJk]) ⟨Or.inl rfl, Or.inr rfl, Or.inl rfl, Or.inl rfl, Or.inl rfl, Or.inl rfl, Or.inl rfl, Or.inl rfl, Or.inl rfl, trivial⟩ ?_
  obtain ⟨h82, hL81, hF⟩ := zbind1 hF
  refine zl_Mo_work_L33 (by omega) N ?_ N _ _ _ _ _ _ hL81
  obtain rfl := Option.some.inj hF
  exact z_ret rfl rfl rfl K
set_option maxRecDepth 100000 in
theorem zf_Mo_work {l : Launch} {E : zE} {d : Nat} (hd : 3 ≤ d) (N : Nat) (x1 : Int) {h : zHp} {h0 : zHp} (hF : sh_Mo_work N x1 h = some h0) : zC l E d zm_Mo_work [.inr (.inr 85), .inl x1] h (fun r1 h1 => 0 = r1 ∧ h0 = h1) :=
  zC_of zk_Mo_work (by decide) rfl rfl (Nat.le_of_ble_eq_true rfl) (zw_Mo_work hd N _ hF ⟨rfl, rfl⟩)
def sh_Mo_isHeeded (N : Nat) (h : zHp) : Option (Int × zHp) := zb1 (sh_Mo_clauseOf N 0 h) fun r6 => if 0 ≤ r6 then zb1 (sh_Mo_work N r6 h) fun h13 => some (h13 93 0, h13) else some ((if h 91 4 = 1 then 1 else 0 : Int), h)
set_option maxRecDepth 100000 in
set_option maxHeartbeats 4000000 in
theorem zw_Mo_isHeeded {l : Launch} {E : zE} {d : Nat} (hd : 4 ≤ d) (N : Nat) {h : zHp} {Q : Int → zHp → Prop} {r0 : Int} {h0 : zHp} (hF : sh_Mo_isHeeded N h = some (r0, h0)) (K : Q r0 h0) : zW l E d zm_Mo_isHeeded 0 [.inr (.inr 85), zJk] [] h Q := by
  rw [sh_Mo_isHeeded] at hF
  refine z_aload rfl rfl rfl ?_
  refine z_const rfl ?_
  obtain ⟨r6, hc5, hF⟩ := zbind1 hF
  refine z_inv1 (d' := d - 1) (As := [.inl 0]) rfl rfl (zf_Mo_clauseOf (by omega) N _ hc5) rfl rfl rfl (by omega) rfl (fun r1 h2 hR3 hQ4 => ?_)
  obtain ⟨rfl, rfl⟩ := hQ4
  refine z_istore rfl rfl rfl ?_
  refine z_iload rfl rfl ?_
  refine z_zge rfl (fun c7 => ?_) (fun c7 => ?_)
  · rw [if_pos c7] at hF
    refine z_aload rfl rfl rfl ?_
    refine z_iload rfl rfl ?_
    obtain ⟨h13, hc12, hF⟩ := zbind1 hF
    refine z_inv0 (d' := d - 1) (As := [.inl r6]) rfl rfl (zf_Mo_work (by omega) N _ hc12) rfl rfl rfl (by omega) rfl (fun r8 h9 hR10 hQ11 => ?_)
    obtain ⟨rfl, rfl⟩ := hQ11
    refine z_aload rfl rfl rfl ?_
    refine z_getr (r := 93) rfl rfl rfl rfl ?_
    refine z_const rfl ?_
    refine z_baldc 0 rfl rfl rfl (by decide) (fun z14 => ?_)
    obtain ⟨rfl, rfl⟩ := zinj2 hF
    exact z_zret rfl rfl (z14) K
  · rw [if_neg c7] at hF
    refine z_aload rfl rfl rfl ?_
    refine z_getr (r := 91) rfl rfl rfl rfl ?_
    refine z_const rfl ?_
    refine z_ialdc 4 rfl rfl rfl (by decide) ?_
    refine z_const rfl ?_
    have hJ16 : zW l E d zm_Mo_isHeeded 15 [zJk, zJk] [.inl (if h 91 4 = 1 then 1 else 0 : Int)] h Q := by
      obtain ⟨rfl, rfl⟩ := zinj2 hF
      exact z_zret rfl rfl (zor_ite (Or.inr rfl) (Or.inl rfl)) K
    refine z_cne rfl (fun c15 => ?_) (fun c15 => ?_)
    · refine z_const rfl ?_
      refine zsubL (L' := [zJk, zJk]) ⟨Or.inr rfl, Or.inr rfl, trivial⟩ ?_
      exact zcast (by first | rfl | (simp only [if_neg c15] <;> rfl)) (by first | rfl | (simp only [if_neg c15] <;> rfl)) hJ16
    · refine z_const rfl ?_
      refine z_goto rfl ?_
      refine zsubL (L' := [zJk, zJk]) ⟨Or.inr rfl, Or.inr rfl, trivial⟩ ?_
      exact zcast (by first | rfl | (simp only [if_pos c15] <;> rfl)) (by first | rfl | (simp only [if_pos c15] <;> rfl)) hJ16
set_option maxRecDepth 100000 in
theorem zf_Mo_isHeeded {l : Launch} {E : zE} {d : Nat} (hd : 4 ≤ d) (N : Nat) {h : zHp} {r0 : Int} {h0 : zHp} (hF : sh_Mo_isHeeded N h = some (r0, h0)) : zC l E d zm_Mo_isHeeded [.inr (.inr 85)] h (fun r1 h1 => r0 = r1 ∧ h0 = h1) :=
  zC_of zk_Mo_isHeeded (by decide) rfl rfl (Nat.le_of_ble_eq_true rfl) (zw_Mo_isHeeded hd N hF ⟨rfl, rfl⟩)
def sh_Mo_goal (N : Nat) (h : zHp) : Option (Int × zHp) := zb1 (sh_Mo_clauseOf N 1 h) fun r6 => if r6 < 0 then zb1 (sh_Mo_told N (h 91 7) 0 h) fun r13 => some (r13, h) else zb1 (sh_Mo_told N (h 91 7) 1 h) fun r19 => if 0 ≤ r19 then zb1 (sh_Mo_work N r6 h) fun h26 => if h26 93 0 = 0 then zb1 (sh_Mo_told N (h 91 7) 0 h26) fun r35 => some (r35, h26) else zb1 (sh_Mo_told N (h 91 7) 1 h26) fun r41 => some (r41, h26) else zb1 (sh_Mo_told N (h 91 7) 0 h) fun r47 => some (r47, h)
set_option maxRecDepth 100000 in
set_option maxHeartbeats 4000000 in
theorem zw_Mo_goal {l : Launch} {E : zE} {d : Nat} (hd : 4 ≤ d) (N : Nat) {h : zHp} {Q : Int → zHp → Prop} {r0 : Int} {h0 : zHp} (hF : sh_Mo_goal N h = some (r0, h0)) (K : Q r0 h0) : zW l E d zm_Mo_goal 0 [.inr (.inr 85), zJk, zJk] [] h Q := by
  rw [sh_Mo_goal] at hF
  refine z_aload rfl rfl rfl ?_
  refine z_getr (r := 91) rfl rfl rfl rfl ?_
  refine z_const rfl ?_
  refine z_ialdc 7 rfl rfl rfl (by decide) ?_
  refine z_istore rfl rfl rfl ?_
  refine z_aload rfl rfl rfl ?_
  refine z_const rfl ?_
  obtain ⟨r6, hc5, hF⟩ := zbind1 hF
  refine z_inv1 (d' := d - 1) (As := [.inl 1]) rfl rfl (zf_Mo_clauseOf (by omega) N _ hc5) rfl rfl rfl (by omega) rfl (fun r1 h2 hR3 hQ4 => ?_)
  obtain ⟨rfl, rfl⟩ := hQ4
  refine z_istore rfl rfl rfl ?_
  refine z_iload rfl rfl ?_
  refine z_zlt rfl (fun c7 => ?_) (fun c7 => ?_)
  · rw [if_pos c7] at hF
    refine z_aload rfl rfl rfl ?_
    refine z_iload rfl rfl ?_
    refine z_const rfl ?_
    obtain ⟨r13, hc12, hF⟩ := zbind1 hF
    refine z_inv1 (d' := d - 1) (As := [.inl (h 91 7), .inl 0]) rfl rfl (zf_Mo_told (by omega) N _ _ hc12) rfl rfl rfl (by omega) rfl (fun r8 h9 hR10 hQ11 => ?_)
    obtain ⟨rfl, rfl⟩ := hQ11
    obtain ⟨rfl, rfl⟩ := zinj2 hF
    exact z_iret rfl rfl K
  · rw [if_neg c7] at hF
    refine z_aload rfl rfl rfl ?_
    refine z_iload rfl rfl ?_
    refine z_const rfl ?_
    obtain ⟨r19, hc18, hF⟩ := zbind1 hF
    refine z_inv1 (d' := d - 1) (As := [.inl (h 91 7), .inl 1]) rfl rfl (zf_Mo_told (by omega) N _ _ hc18) rfl rfl rfl (by omega) rfl (fun r14 h15 hR16 hQ17 => ?_)
    obtain ⟨rfl, rfl⟩ := hQ17
    refine z_zge rfl (fun c20 => ?_) (fun c20 => ?_)
    · rw [if_pos c20] at hF
      refine z_aload rfl rfl rfl ?_
      refine z_iload rfl rfl ?_
      obtain ⟨h26, hc25, hF⟩ := zbind1 hF
      refine z_inv0 (d' := d - 1) (As := [.inl r6]) rfl rfl (zf_Mo_work (by omega) N _ hc25) rfl rfl rfl (by omega) rfl (fun r21 h22 hR23 hQ24 => ?_)
      obtain ⟨rfl, rfl⟩ := hQ24
      refine z_aload rfl rfl rfl ?_
      refine z_getr (r := 93) rfl rfl rfl rfl ?_
      refine z_const rfl ?_
      refine z_baldc 0 rfl rfl rfl (by decide) (fun z27 => ?_)
      refine z_zeq rfl (fun c29 => ?_) (fun c29 => ?_)
      · rw [if_pos c29] at hF
        refine z_aload rfl rfl rfl ?_
        refine z_iload rfl rfl ?_
        refine z_const rfl ?_
        obtain ⟨r35, hc34, hF⟩ := zbind1 hF
        refine z_inv1 (d' := d - 1) (As := [.inl (h 91 7), .inl 0]) rfl rfl (zf_Mo_told (by omega) N _ _ hc34) rfl rfl rfl (by omega) rfl (fun r30 h31 hR32 hQ33 => ?_)
        obtain ⟨rfl, rfl⟩ := hQ33
        obtain ⟨rfl, rfl⟩ := zinj2 hF
        exact z_iret rfl rfl K
      · rw [if_neg c29] at hF
        refine z_aload rfl rfl rfl ?_
        refine z_iload rfl rfl ?_
        refine z_const rfl ?_
        obtain ⟨r41, hc40, hF⟩ := zbind1 hF
        refine z_inv1 (d' := d - 1) (As := [.inl (h 91 7), .inl 1]) rfl rfl (zf_Mo_told (by omega) N _ _ hc40) rfl rfl rfl (by omega) rfl (fun r36 h37 hR38 hQ39 => ?_)
        obtain ⟨rfl, rfl⟩ := hQ39
        refine z_goto rfl ?_
        obtain ⟨rfl, rfl⟩ := zinj2 hF
        exact z_iret rfl rfl K
    · rw [if_neg c20] at hF
      refine z_aload rfl rfl rfl ?_
      refine z_iload rfl rfl ?_
      refine z_const rfl ?_
      obtain ⟨r47, hc46, hF⟩ := zbind1 hF
      refine z_inv1 (d' := d - 1) (As := [.inl (h 91 7), .inl 0]) rfl rfl (zf_Mo_told (by omega) N _ _ hc46) rfl rfl rfl (by omega) rfl (fun r42 h43 hR44 hQ45 => ?_)
      obtain ⟨rfl, rfl⟩ := hQ45
      obtain ⟨rfl, rfl⟩ := zinj2 hF
      exact z_iret rfl rfl K
set_option maxRecDepth 100000 in
theorem zf_Mo_goal {l : Launch} {E : zE} {d : Nat} (hd : 4 ≤ d) (N : Nat) {h : zHp} {r0 : Int} {h0 : zHp} (hF : sh_Mo_goal N h = some (r0, h0)) : zC l E d zm_Mo_goal [.inr (.inr 85)] h (fun r1 h1 => r0 = r1 ∧ h0 = h1) :=
  zC_of zk_Mo_goal (by decide) rfl rfl (Nat.le_of_ble_eq_true rfl) (zw_Mo_goal hd N hF ⟨rfl, rfl⟩)
def sh_Mo_whistle_L12 (N : Nat) : Nat → Int → Int → Int → zHp → Option (Int × zHp)
  | 0, _, _, _, _ => none
  | n + 1, x1, x2, x3, h => (if h 86 2 ≤ x3 then some (x2, h) else if 0 ≤ x3 ∧ x3 < 8 then zb1 (sh_Mo_told N x3 6 (zst h 94 x3.toNat (-1))) fun r19 => if 10 ≤ r19 then zb1 (sh_Mo_pitchOf N x1 (zst h 94 x3.toNat (-1))) fun r27 => zb1 (sh_Mo_told N x3 6 (zst h 94 x3.toNat (-1))) fun r33 => zb1 (sh_Mo_told N x3 7 (zst h 94 x3.toNat (-1))) fun r39 => zb1 (sh_Mo_name N x3 x1 r27 (w32 (r33 - 10)) (if r39 < 0 then 0 else 1 : Int) ((zst h 94 x3.toNat (-1)) 86 3) (zst h 94 x3.toNat (-1))) fun h47 => zb2 (sh_Mo_isHeeded N h47) fun r53 h54 => if r53 = 0 then sh_Mo_whistle_L12 N n x1 x2 (w32 (x3 + 1)) h54 else zb2 (sh_Mo_goal N h54) fun r62 h63 => if 0 ≤ x3 ∧ x3 < 8 then sh_Mo_whistle_L12 N n x1 (zor x2 (zshl 1 x3)) (w32 (x3 + 1)) (zst h63 94 x3.toNat r62) else none else sh_Mo_whistle_L12 N n x1 x2 (w32 (x3 + 1)) (zst h 94 x3.toNat (-1)) else none)
def sh_Mo_whistle_L75 (N : Nat) : Nat → Int → Int → zHp → Option (Int × zHp)
  | 0, _, _, _ => none
  | n + 1, x2, x3, h => (if h 86 2 ≤ x3 then some (x2, h) else if 0 ≤ x3 ∧ x3 < 8 then if 0 ≤ h 94 x3.toNat then zb1 (sh_Mo_part N x3 h) fun h77 => if 0 ≤ x3 ∧ x3 < 8 then zb1 (sh_Mo_make N x3 6 (h77 94 x3.toNat) h77) fun h84 => sh_Mo_whistle_L75 N n x2 (w32 (x3 + 1)) h84 else none else sh_Mo_whistle_L75 N n x2 (w32 (x3 + 1)) h else none)
def sh_Mo_whistle (N : Nat) (x1 : Int) (h : zHp) : Option (Int × zHp) := (if sh_Mo_isFarm x1 h = 0 then some ((-1), h) else zb1 (sh_Mo_keep N h) fun h11 => zb2 (sh_Mo_whistle_L12 N N x1 0 0 h11) fun y66 h67 => zb2 (sh_Mo_whistle_L75 N N y66 0 h67) fun y86 h87 => some (y86, h87))
set_option maxRecDepth 100000 in
set_option maxHeartbeats 4000000 in
theorem zl_Mo_whistle_L12 {l : Launch} {E : zE} {d : Nat} (hd : 5 ≤ d) (N : Nat) {Q : Int → zHp → Prop} {o2 : Int} {oh : zHp} (K1 : zW l E d zm_Mo_whistle 73 [.inr (.inr 85), zJk, .inl o2, zJk] [] oh Q) : ∀ (n : Nat) (x1 x2 x3 : Int) (h : zHp), sh_Mo_whistle_L12 N n x1 x2 x3 h = some (o2, oh) → zW l E d zm_Mo_whistle 12 [.inr (.inr 85), .inl x1, .inl x2, .inl x3] [] h Q := by
  intro n
  induction n with
  | zero =>
    intro x1 x2 x3 h hF
    cases (show (none : Option (Int × zHp)) = some (o2, oh) from hF)
  | succ n ih =>
    intro x1 x2 x3 h hF
    rw [sh_Mo_whistle_L12] at hF
    refine z_iload rfl rfl ?_
    refine z_aload rfl rfl rfl ?_
    refine z_getr (r := 86) rfl rfl rfl rfl ?_
    refine z_const rfl ?_
    refine z_ialdc 2 rfl rfl rfl (by decide) ?_
    refine z_cge rfl (fun c12 => ?_) (fun c12 => ?_)
    · rw [if_pos c12] at hF
      refine zsubL (L' := [.inr (.inr 85), zJk, .inl x2, zJk]) ⟨Or.inl rfl, Or.inr rfl, Or.inl rfl, Or.inr rfl, trivial⟩ ?_
      obtain ⟨rfl, rfl⟩ := zinj2 hF
      exact K1
    · rw [if_neg c12] at hF
      refine z_aload rfl rfl rfl ?_
      refine z_getr (r := 94) rfl rfl rfl rfl ?_
      refine z_iload rfl rfl ?_
      refine z_const rfl ?_
      obtain ⟨g13, hF⟩ := zguard hF
      refine z_iast rfl rfl g13.1 g13.2 ?_
      refine z_aload rfl rfl rfl ?_
      refine z_iload rfl rfl ?_
      refine z_const rfl ?_
      obtain ⟨r19, hc18, hF⟩ := zbind1 hF
      refine z_inv1 (d' := d - 1) (As := [.inl x3, .inl 6]) rfl rfl (zf_Mo_told (by omega) N _ _ hc18) rfl rfl rfl (by omega) rfl (fun r14 h15 hR16 hQ17 => ?_)
      obtain ⟨rfl, rfl⟩ := hQ17
      refine z_const rfl ?_
      refine z_cge rfl (fun c21 => ?_) (fun c21 => ?_)
      · rw [if_pos c21] at hF
        refine z_aload rfl rfl rfl ?_
        refine z_iload rfl rfl ?_
        refine z_iload rfl rfl ?_
        refine z_aload rfl rfl rfl ?_
        refine z_iload rfl rfl ?_
        obtain ⟨r27, hc26, hF⟩ := zbind1 hF
        refine z_inv1 (d' := d - 1) (As := [.inl x1]) rfl rfl (zf_Mo_pitchOf (by omega) N _ hc26) rfl rfl rfl (by omega) rfl (fun r22 h23 hR24 hQ25 => ?_)
        obtain ⟨rfl, rfl⟩ := hQ25
        refine z_aload rfl rfl rfl ?_
        refine z_iload rfl rfl ?_
        refine z_const rfl ?_
        obtain ⟨r33, hc32, hF⟩ := zbind1 hF
        refine z_inv1 (d' := d - 1) (As := [.inl x3, .inl 6]) rfl rfl (zf_Mo_told (by omega) N _ _ hc32) rfl rfl rfl (by omega) rfl (fun r28 h29 hR30 hQ31 => ?_)
        obtain ⟨rfl, rfl⟩ := hQ31
        refine z_const rfl ?_
        refine z_isub rfl ?_
        refine z_aload rfl rfl rfl ?_
        refine z_iload rfl rfl ?_
        refine z_const rfl ?_
        obtain ⟨r39, hc38, hF⟩ := zbind1 hF
        refine z_inv1 (d' := d - 1) (As := [.inl x3, .inl 7]) rfl rfl (zf_Mo_told (by omega) N _ _ hc38) rfl rfl rfl (by omega) rfl (fun r34 h35 hR36 hQ37 => ?_)
        obtain ⟨rfl, rfl⟩ := hQ37
        have hJ41 : zW l E d zm_Mo_whistle 50 [.inr (.inr 85), .inl x1, .inl x2, .inl x3] [.inl (if r39 < 0 then 0 else 1 : Int), .inl (w32 (r33 - 10)), .inl r27, .inl x1, .inl x3, .inr (.inr 85)] (zst h 94 x3.toNat (-1)) Q := by
          refine z_aload rfl rfl rfl ?_
          refine z_getr (r := 86) rfl rfl rfl rfl ?_
          refine z_const rfl ?_
          refine z_ialdc 3 rfl rfl rfl (by decide) ?_
          obtain ⟨h47, hc46, hF⟩ := zbind1 hF
          refine z_inv0 (d' := d - 1) (As := [.inl x3, .inl x1, .inl r27, .inl (w32 (r33 - 10)), .inl (if r39 < 0 then 0 else 1 : Int), .inl ((zst h 94 x3.toNat (-1)) 86 3)]) rfl rfl (zf_Mo_name (by omega) N _ _ _ _ _ _ hc46) rfl rfl rfl (by omega) rfl (fun r42 h43 hR44 hQ45 => ?_)
          obtain ⟨rfl, rfl⟩ := hQ45
          refine z_aload rfl rfl rfl ?_
          obtain ⟨r53, h54, hc52, hF⟩ := zbind2 hF
          refine z_inv1 (d' := d - 1) (As := []) rfl rfl (zf_Mo_isHeeded (by omega) N hc52) rfl rfl rfl (by omega) rfl (fun r48 h49 hR50 hQ51 => ?_)
          obtain ⟨rfl, rfl⟩ := hQ51
          refine z_zne rfl (fun c56 => ?_) (fun c56 => ?_)
          · rw [if_neg c56] at hF
            refine z_aload rfl rfl rfl ?_
            refine z_getr (r := 94) rfl rfl rfl rfl ?_
            refine z_iload rfl rfl ?_
            refine z_aload rfl rfl rfl ?_
            obtain ⟨r62, h63, hc61, hF⟩ := zbind2 hF
            refine z_inv1 (d' := d - 1) (As := []) rfl rfl (zf_Mo_goal (by omega) N hc61) rfl rfl rfl (by omega) rfl (fun r57 h58 hR59 hQ60 => ?_)
            obtain ⟨rfl, rfl⟩ := hQ60
            obtain ⟨g64, hF⟩ := zguard hF
            refine z_iast rfl rfl g64.1 g64.2 ?_
            refine z_iload rfl rfl ?_
            refine z_const rfl ?_
            refine z_iload rfl rfl ?_
            refine z_ishl rfl ?_
            refine z_ior rfl ?_
            refine z_istore rfl rfl rfl ?_
            refine z_iinc rfl rfl rfl ?_
            refine z_goto rfl ?_
            exact ih _ _ _ _ hF
          · rw [if_pos c56] at hF
            refine z_goto rfl ?_
            refine z_iinc rfl rfl rfl ?_
            refine z_goto rfl ?_
            exact ih _ _ _ _ hF
        refine z_zlt rfl (fun c40 => ?_) (fun c40 => ?_)
        · refine z_const rfl ?_
          exact zcast (by first | rfl | (simp only [if_pos c40] <;> rfl)) (by first | rfl | (simp only [if_pos c40] <;> rfl)) hJ41
        · refine z_const rfl ?_
          refine z_goto rfl ?_
          exact zcast (by first | rfl | (simp only [if_neg c40] <;> rfl)) (by first | rfl | (simp only [if_neg c40] <;> rfl)) hJ41
      · rw [if_neg c21] at hF
        refine z_goto rfl ?_
        refine z_iinc rfl rfl rfl ?_
        refine z_goto rfl ?_
        exact ih _ _ _ _ hF
set_option maxRecDepth 100000 in
set_option maxHeartbeats 4000000 in
theorem zl_Mo_whistle_L75 {l : Launch} {E : zE} {d : Nat} (hd : 5 ≤ d) (N : Nat) {Q : Int → zHp → Prop} {o2 : Int} {oh : zHp} (K1 : zW l E d zm_Mo_whistle 100 [zJk, zJk, .inl o2, zJk] [] oh Q) : ∀ (n : Nat) (x2 x3 : Int) (h : zHp), sh_Mo_whistle_L75 N n x2 x3 h = some (o2, oh) → zW l E d zm_Mo_whistle 75 [.inr (.inr 85), zJk, .inl x2, .inl x3] [] h Q := by
  intro n
  induction n with
  | zero =>
    intro x2 x3 h hF
    cases (show (none : Option (Int × zHp)) = some (o2, oh) from hF)
  | succ n ih =>
    intro x2 x3 h hF
    rw [sh_Mo_whistle_L75] at hF
    refine z_iload rfl rfl ?_
    refine z_aload rfl rfl rfl ?_
    refine z_getr (r := 86) rfl rfl rfl rfl ?_
    refine z_const rfl ?_
    refine z_ialdc 2 rfl rfl rfl (by decide) ?_
    refine z_cge rfl (fun c68 => ?_) (fun c68 => ?_)
    · rw [if_pos c68] at hF
      refine zsubL (L' := [zJk, zJk, .inl x2, zJk]) ⟨Or.inr rfl, Or.inl rfl, Or.inl rfl, Or.inr rfl, trivial⟩ ?_
      obtain ⟨rfl, rfl⟩ := zinj2 hF
      exact K1
    · rw [if_neg c68] at hF
      refine z_aload rfl rfl rfl ?_
      refine z_getr (r := 94) rfl rfl rfl rfl ?_
      refine z_iload rfl rfl ?_
      obtain ⟨g69, hF⟩ := zguard hF
      refine z_iald rfl rfl g69.1 g69.2 ?_
      refine z_zge rfl (fun c71 => ?_) (fun c71 => ?_)
      · rw [if_pos c71] at hF
        refine z_aload rfl rfl rfl ?_
        refine z_iload rfl rfl ?_
        obtain ⟨h77, hc76, hF⟩ := zbind1 hF
        refine z_inv0 (d' := d - 1) (As := [.inl x3]) rfl rfl (zf_Mo_part (by omega) N _ hc76) rfl rfl rfl (by omega) rfl (fun r72 h73 hR74 hQ75 => ?_)
        obtain ⟨rfl, rfl⟩ := hQ75
        refine z_aload rfl rfl rfl ?_
        refine z_iload rfl rfl ?_
        refine z_const rfl ?_
        refine z_aload rfl rfl rfl ?_
        refine z_getr (r := 94) rfl rfl rfl rfl ?_
        refine z_iload rfl rfl ?_
        obtain ⟨g78, hF⟩ := zguard hF
        refine z_iald rfl rfl g78.1 g78.2 ?_
        obtain ⟨h84, hc83, hF⟩ := zbind1 hF
        refine z_inv0 (d' := d - 1) (As := [.inl x3, .inl 6, .inl (h77 94 x3.toNat)]) rfl rfl (zf_Mo_make (by omega) N _ _ _ hc83) rfl rfl rfl (by omega) rfl (fun r79 h80 hR81 hQ82 => ?_)
        obtain ⟨rfl, rfl⟩ := hQ82
        refine z_iinc rfl rfl rfl ?_
        refine z_goto rfl ?_
        exact ih _ _ _ hF
      · rw [if_neg c71] at hF
        refine z_goto rfl ?_
        refine z_iinc rfl rfl rfl ?_
        refine z_goto rfl ?_
        exact ih _ _ _ hF
set_option maxRecDepth 100000 in
set_option maxHeartbeats 4000000 in
theorem zw_Mo_whistle {l : Launch} {E : zE} {d : Nat} (hd : 5 ≤ d) (N : Nat) (x1 : Int) {h : zHp} {Q : Int → zHp → Prop} {r0 : Int} {h0 : zHp} (hF : sh_Mo_whistle N x1 h = some (r0, h0)) (K : Q r0 h0) : zW l E d zm_Mo_whistle 0 [.inr (.inr 85), .inl x1, zJk, zJk] [] h Q := by
  rw [sh_Mo_whistle] at hF
  refine z_aload rfl rfl rfl ?_
  refine z_iload rfl rfl ?_
  refine z_inv1 (d' := d - 1) (As := [.inl x1]) rfl rfl (zf_Mo_isFarm (by omega) _) rfl rfl rfl (by omega) rfl (fun r1 h2 hR3 hQ4 => ?_)
  obtain ⟨rfl, rfl⟩ := hQ4
  refine z_zne rfl (fun c5 => ?_) (fun c5 => ?_)
  · rw [if_neg c5] at hF
    refine z_aload rfl rfl rfl ?_
    obtain ⟨h11, hc10, hF⟩ := zbind1 hF
    refine z_inv0 (d' := d - 1) (As := []) rfl rfl (zf_Mo_keep (by omega) N hc10) rfl rfl rfl (by omega) rfl (fun r6 h7 hR8 hQ9 => ?_)
    obtain ⟨rfl, rfl⟩ := hQ9
    refine z_const rfl ?_
    refine z_istore rfl rfl rfl ?_
    refine z_const rfl ?_
    refine z_istore rfl rfl rfl ?_
    obtain ⟨y66, h67, hL65, hF⟩ := zbind2 hF
    refine zl_Mo_whistle_L12 (by omega) N ?_ N _ _ _ _ hL65
    refine z_const rfl ?_
    refine z_istore rfl rfl rfl ?_
    obtain ⟨y86, h87, hL85, hF⟩ := zbind2 hF
    refine zl_Mo_whistle_L75 (by omega) N ?_ N _ _ _ hL85
    refine z_iload rfl rfl ?_
    obtain ⟨rfl, rfl⟩ := zinj2 hF
    exact z_iret rfl rfl K
  · rw [if_pos c5] at hF
    refine z_const rfl ?_
    obtain ⟨rfl, rfl⟩ := zinj2 hF
    exact z_iret rfl rfl K
set_option maxRecDepth 100000 in
theorem zf_Mo_whistle {l : Launch} {E : zE} {d : Nat} (hd : 5 ≤ d) (N : Nat) (x1 : Int) {h : zHp} {r0 : Int} {h0 : zHp} (hF : sh_Mo_whistle N x1 h = some (r0, h0)) : zC l E d zm_Mo_whistle [.inr (.inr 85), .inl x1] h (fun r1 h1 => r0 = r1 ∧ h0 = h1) :=
  zC_of zk_Mo_whistle (by decide) rfl rfl (Nat.le_of_ble_eq_true rfl) (zw_Mo_whistle hd N _ hF ⟨rfl, rfl⟩)
def sh_Herd_furrows_14 (x1 : Int) (h : zHp) : Int := rget h 16 71 (w32 (3 + x1))
set_option maxRecDepth 100000 in
set_option maxHeartbeats 4000000 in
theorem zw_Herd_furrows_14 {l : Launch} {E : zE} {d : Nat} (hd : 2 ≤ d) (x1 : Int) {h : zHp} {Q : Int → zHp → Prop} {r0 : Int} (hF : sh_Herd_furrows_14 x1 h = r0) (K : Q r0 h) : zW l E d zm_Herd_furrows 0 [.inr (.inr 14), .inl x1] [] h Q := by
  rw [sh_Herd_furrows_14] at hF
  refine z_aload rfl rfl rfl ?_
  refine z_getr (r := 15) rfl rfl rfl rfl ?_
  refine z_const rfl ?_
  refine z_iload rfl rfl ?_
  refine z_iadd rfl ?_
  refine z_inv1 (d' := d - 1) (As := [.inl (w32 (3 + x1))]) rfl rfl (zf_Row_get (r := 15) (a := 16) (n := 71) rfl rfl _) rfl rfl rfl (by omega) rfl (fun r1 h2 hR3 hQ4 => ?_)
  obtain ⟨rfl, rfl⟩ := hQ4
  subst hF
  exact z_iret rfl rfl K
set_option maxRecDepth 100000 in
theorem zf_Herd_furrows_14 {l : Launch} {E : zE} {d : Nat} (hd : 2 ≤ d) (x1 : Int) {h : zHp} : zC l E d zm_Herd_furrows [.inr (.inr 14), .inl x1] h (fun r1 h1 => sh_Herd_furrows_14 x1 h = r1 ∧ h = h1) :=
  zC_of zk_Herd_furrows (by decide) rfl rfl (Nat.le_of_ble_eq_true rfl) (zw_Herd_furrows_14 hd _ rfl ⟨rfl, rfl⟩)
def sh_Laws_work (N : Nat) (x1 x2 x3 x4 : Int) (h : zHp) : Option (Int × zHp) := zb2 (sh_Laws_value N 4 (w32 ((sh_Herd_get_14 x1 2 h) + (sh_Herd_get_14 x2 2 h))) (rput (rput (rput (rput h 35 11 0 x4) 35 11 8 (w32 ((sh_Herd_get_14 x1 2 h) + (sh_Herd_get_14 x2 2 h)))) 35 11 9 (zmin (sh_Herd_get_14 x1 2 h) (sh_Herd_get_14 x2 2 h))) 35 11 10 (rget (rput (rput (rput h 35 11 0 x4) 35 11 8 (w32 ((sh_Herd_get_14 x1 2 h) + (sh_Herd_get_14 x2 2 h)))) 35 11 9 (zmin (sh_Herd_get_14 x1 2 h) (sh_Herd_get_14 x2 2 h))) 13 4 x3))) fun r34 h35 => some (sh_Laws_between r34 0 99, h35)
set_option maxRecDepth 100000 in
set_option maxHeartbeats 4000000 in
theorem zw_Laws_work {l : Launch} {E : zE} {d : Nat} (hd : 3 ≤ d) (N : Nat) (x1 x2 x3 x4 : Int) {h : zHp} {Q : Int → zHp → Prop} {r0 : Int} {h0 : zHp} (hF : sh_Laws_work N x1 x2 x3 x4 h = some (r0, h0)) (K : Q r0 h0) : zW l E d zm_Laws_work 0 [.inr (.inr 33), .inl x1, .inl x2, .inl x3, .inl x4, zJk, zJk] [] h Q := by
  rw [sh_Laws_work] at hF
  refine z_aload rfl rfl rfl ?_
  refine z_getr (r := 1) rfl rfl rfl rfl ?_
  refine z_getr (r := 14) rfl rfl rfl rfl ?_
  refine z_iload rfl rfl ?_
  refine z_const rfl ?_
  refine z_inv1 (d' := d - 1) (As := [.inl x1, .inl 2]) rfl rfl (zf_Herd_get_14 (by omega) _ _) rfl rfl rfl (by omega) rfl (fun r1 h2 hR3 hQ4 => ?_)
  obtain ⟨rfl, rfl⟩ := hQ4
  refine z_istore rfl rfl rfl ?_
  refine z_aload rfl rfl rfl ?_
  refine z_getr (r := 1) rfl rfl rfl rfl ?_
  refine z_getr (r := 14) rfl rfl rfl rfl ?_
  refine z_iload rfl rfl ?_
  refine z_const rfl ?_
  refine z_inv1 (d' := d - 1) (As := [.inl x2, .inl 2]) rfl rfl (zf_Herd_get_14 (by omega) _ _) rfl rfl rfl (by omega) rfl (fun r5 h6 hR7 hQ8 => ?_)
  obtain ⟨rfl, rfl⟩ := hQ8
  refine z_istore rfl rfl rfl ?_
  refine z_aload rfl rfl rfl ?_
  refine z_getr (r := 34) rfl rfl rfl rfl ?_
  refine z_const rfl ?_
  refine z_iload rfl rfl ?_
  refine z_inv0 (d' := d - 1) (As := [.inl 0, .inl x4]) rfl rfl (zf_Row_put (r := 34) (a := 35) (n := 11) rfl rfl _ _) rfl rfl rfl (by omega) rfl (fun r9 h10 hR11 hQ12 => ?_)
  obtain ⟨rfl, rfl⟩ := hQ12
  refine z_aload rfl rfl rfl ?_
  refine z_getr (r := 34) rfl rfl rfl rfl ?_
  refine z_const rfl ?_
  refine z_iload rfl rfl ?_
  refine z_iload rfl rfl ?_
  refine z_iadd rfl ?_
  refine z_inv0 (d' := d - 1) (As := [.inl 8, .inl (w32 ((sh_Herd_get_14 x1 2 h) + (sh_Herd_get_14 x2 2 h)))]) rfl rfl (zf_Row_put (r := 34) (a := 35) (n := 11) rfl rfl _ _) rfl rfl rfl (by omega) rfl (fun r13 h14 hR15 hQ16 => ?_)
  obtain ⟨rfl, rfl⟩ := hQ16
  refine z_aload rfl rfl rfl ?_
  refine z_getr (r := 34) rfl rfl rfl rfl ?_
  refine z_const rfl ?_
  refine z_iload rfl rfl ?_
  refine z_iload rfl rfl ?_
  refine z_mmin rfl (by decide) (by omega) rfl ?_
  refine z_inv0 (d' := d - 1) (As := [.inl 9, .inl (zmin (sh_Herd_get_14 x1 2 h) (sh_Herd_get_14 x2 2 h))]) rfl rfl (zf_Row_put (r := 34) (a := 35) (n := 11) rfl rfl _ _) rfl rfl rfl (by omega) rfl (fun r17 h18 hR19 hQ20 => ?_)
  obtain ⟨rfl, rfl⟩ := hQ20
  refine z_aload rfl rfl rfl ?_
  refine z_getr (r := 34) rfl rfl rfl rfl ?_
  refine z_const rfl ?_
  refine z_aload rfl rfl rfl ?_
  refine z_getr (r := 1) rfl rfl rfl rfl ?_
  refine z_getr (r := 12) rfl rfl rfl rfl ?_
  refine z_iload rfl rfl ?_
  refine z_inv1 (d' := d - 1) (As := [.inl x3]) rfl rfl (zf_Row_get (r := 12) (a := 13) (n := 4) rfl rfl _) rfl rfl rfl (by omega) rfl (fun r21 h22 hR23 hQ24 => ?_)
  obtain ⟨rfl, rfl⟩ := hQ24
  refine z_inv0 (d' := d - 1) (As := [.inl 10, .inl (rget (rput (rput (rput h 35 11 0 x4) 35 11 8 (w32 ((sh_Herd_get_14 x1 2 h) + (sh_Herd_get_14 x2 2 h)))) 35 11 9 (zmin (sh_Herd_get_14 x1 2 h) (sh_Herd_get_14 x2 2 h))) 13 4 x3)]) rfl rfl (zf_Row_put (r := 34) (a := 35) (n := 11) rfl rfl _ _) rfl rfl rfl (by omega) rfl (fun r25 h26 hR27 hQ28 => ?_)
  obtain ⟨rfl, rfl⟩ := hQ28
  refine z_aload rfl rfl rfl ?_
  refine z_const rfl ?_
  refine z_iload rfl rfl ?_
  refine z_iload rfl rfl ?_
  refine z_iadd rfl ?_
  obtain ⟨r34, h35, hc33, hF⟩ := zbind2 hF
  refine z_inv1 (d' := d - 1) (As := [.inl 4, .inl (w32 ((sh_Herd_get_14 x1 2 h) + (sh_Herd_get_14 x2 2 h)))]) rfl rfl (zf_Laws_value (by omega) N _ _ hc33) rfl rfl rfl (by omega) rfl (fun r29 h30 hR31 hQ32 => ?_)
  obtain ⟨rfl, rfl⟩ := hQ32
  refine z_i2l rfl ?_
  refine z_const rfl ?_
  refine z_const rfl ?_
  refine z_ivs1 (d' := d - 1) (As := [.inr (.inl r34), .inl 0, .inl 99]) rfl rfl (zf_Laws_between (by omega) _ _ _) rfl (by omega) rfl (fun r36 h37 hR38 hQ39 => ?_)
  obtain ⟨rfl, rfl⟩ := hQ39
  obtain ⟨rfl, rfl⟩ := zinj2 hF
  exact z_iret rfl rfl K
set_option maxRecDepth 100000 in
theorem zf_Laws_work {l : Launch} {E : zE} {d : Nat} (hd : 3 ≤ d) (N : Nat) (x1 x2 x3 x4 : Int) {h : zHp} {r0 : Int} {h0 : zHp} (hF : sh_Laws_work N x1 x2 x3 x4 h = some (r0, h0)) : zC l E d zm_Laws_work [.inr (.inr 33), .inl x1, .inl x2, .inl x3, .inl x4] h (fun r1 h1 => r0 = r1 ∧ h0 = h1) :=
  zC_of zk_Laws_work (by decide) rfl rfl (Nat.le_of_ble_eq_true rfl) (zw_Laws_work hd N _ _ _ _ hF ⟨rfl, rfl⟩)
def sh_Herd_setHour_14 (x1 : Int) (h : zHp) : zHp := rput h 16 71 0 x1
set_option maxRecDepth 100000 in
set_option maxHeartbeats 4000000 in
theorem zw_Herd_setHour_14 {l : Launch} {E : zE} {d : Nat} (hd : 2 ≤ d) (x1 : Int) {h : zHp} {Q : Int → zHp → Prop} {h0 : zHp} (hF : sh_Herd_setHour_14 x1 h = h0) (K : Q 0 h0) : zW l E d zm_Herd_setHour 0 [.inr (.inr 14), .inl x1] [] h Q := by
  rw [sh_Herd_setHour_14] at hF
  refine z_aload rfl rfl rfl ?_
  refine z_getr (r := 15) rfl rfl rfl rfl ?_
  refine z_const rfl ?_
  refine z_iload rfl rfl ?_
  refine z_inv0 (d' := d - 1) (As := [.inl 0, .inl x1]) rfl rfl (zf_Row_put (r := 15) (a := 16) (n := 71) rfl rfl _ _) rfl rfl rfl (by omega) rfl (fun r1 h2 hR3 hQ4 => ?_)
  obtain ⟨rfl, rfl⟩ := hQ4
  subst hF
  exact z_ret rfl rfl rfl K
set_option maxRecDepth 100000 in
theorem zf_Herd_setHour_14 {l : Launch} {E : zE} {d : Nat} (hd : 2 ≤ d) (x1 : Int) {h : zHp} : zC l E d zm_Herd_setHour [.inr (.inr 14), .inl x1] h (fun r1 h1 => 0 = r1 ∧ sh_Herd_setHour_14 x1 h = h1) :=
  zC_of zk_Herd_setHour (by decide) rfl rfl (Nat.le_of_ble_eq_true rfl) (zw_Herd_setHour_14 hd _ rfl ⟨rfl, rfl⟩)
def sh_Ox_plough_L11 (N : Nat) : Nat → Int → Int → zHp → Option (Int × zHp)
  | 0, _, _, _ => none
  | n + 1, x2, x3, h => (if sh_Herd_oxen_14 h ≤ x3 then some (x2, h) else (if sh_Herd_get_14 x3 7 h ≤ x3 then sh_Ox_plough_L11 N n x2 (w32 (x3 + 1)) h else zb2 (sh_Laws_work N x3 (sh_Herd_get_14 x3 7 h) (w32 ((sh_Herd_get_14 x3 6 h) - 10)) (sh_Herd_hour_14 h) h) fun r45 h46 => sh_Ox_plough_L11 N n (w32 (x2 + (zmin (sh_Herd_furrows_14 (w32 ((sh_Herd_get_14 x3 6 h) - 10)) h) r45))) (w32 (x3 + 1)) (sh_Herd_setFurrows_14 (w32 ((sh_Herd_get_14 x3 6 h) - 10)) (w32 ((sh_Herd_furrows_14 (w32 ((sh_Herd_get_14 x3 6 h) - 10)) h) - (zmin (sh_Herd_furrows_14 (w32 ((sh_Herd_get_14 x3 6 h) - 10)) h) r45))) h46)))
def sh_Ox_plough (N : Nat) (h : zHp) : Option (Int × zHp) := zb2 (sh_Ox_plough_L11 N N 0 0 (sh_Yard_keepStep_1 h)) fun y52 h53 => some (y52, sh_Herd_setHour_14 (w32 (((w32 ((sh_Herd_hour_14 h53) + 1))).tmod 24)) h53)
set_option maxRecDepth 100000 in
set_option maxHeartbeats 4000000 in
theorem zl_Ox_plough_L11 {l : Launch} {E : zE} {d : Nat} (hd : 6 ≤ d) (N : Nat) {Q : Int → zHp → Prop} {o2 : Int} {oh : zHp} (K1 : zW l E d zm_Ox_plough 57 [zJk, .inr (.inr 14), .inl o2, zJk, zJk, zJk, zJk, zJk] [] oh Q) : ∀ (n : Nat) (x2 x3 : Int) (h : zHp), sh_Ox_plough_L11 N n x2 x3 h = some (o2, oh) → zW l E d zm_Ox_plough 11 [.inr (.inr 0), .inr (.inr 14), .inl x2, .inl x3, zJk, zJk, zJk, zJk] [] h Q := by
  intro n
  induction n with
  | zero =>
    intro x2 x3 h hF
    cases (show (none : Option (Int × zHp)) = some (o2, oh) from hF)
  | succ n ih =>
    intro x2 x3 h hF
    rw [sh_Ox_plough_L11] at hF
    refine z_iload rfl rfl ?_
    refine z_aload rfl rfl rfl ?_
    refine z_inv1 (d' := d - 1) (As := []) rfl rfl (zf_Herd_oxen_14 (by omega)) rfl rfl rfl (by omega) rfl (fun r5 h6 hR7 hQ8 => ?_)
    obtain ⟨rfl, rfl⟩ := hQ8
    refine z_cge rfl (fun c9 => ?_) (fun c9 => ?_)
    · rw [if_pos c9] at hF
      refine zsubL (L' := [zJk, .inr (.inr 14), .inl x2, zJk, zJk, zJk, zJk, zJk]) ⟨Or.inr rfl, Or.inl rfl, Or.inl rfl, Or.inr rfl, Or.inl rfl, Or.inl rfl, Or.inl rfl, Or.inl rfl, trivial⟩ ?_
      obtain ⟨rfl, rfl⟩ := zinj2 hF
      exact K1
    · rw [if_neg c9] at hF
      refine z_aload rfl rfl rfl ?_
      refine z_iload rfl rfl ?_
      refine z_const rfl ?_
      refine z_inv1 (d' := d - 1) (As := [.inl x3, .inl 7]) rfl rfl (zf_Herd_get_14 (by omega) _ _) rfl rfl rfl (by omega) rfl (fun r10 h11 hR12 hQ13 => ?_)
      obtain ⟨rfl, rfl⟩ := hQ13
      refine z_istore rfl rfl rfl ?_
      refine z_iload rfl rfl ?_
      refine z_iload rfl rfl ?_
      refine z_cle rfl (fun c27 => ?_) (fun c27 => ?_)
      · rw [if_pos c27] at hF
        refine z_iinc rfl rfl rfl ?_
        refine z_goto rfl ?_
        refine zsubL (L' := [.inr (.inr 0), .inr (.inr 14), .inl x2, .inl (w32 (x3 + 1)), zJk, zJk, zJk, zJk]) ⟨Or.inl rfl, Or.inl rfl, Or.inl rfl, Or.inl rfl, Or.inr rfl, Or.inl rfl, Or.inl rfl, Or.inl rfl, trivial⟩ ?_
        exact ih _ _ _ hF
      · rw [if_neg c27] at hF
        refine z_aload rfl rfl rfl ?_
        refine z_iload rfl rfl ?_
        refine z_const rfl ?_
        refine z_inv1 (d' := d - 1) (As := [.inl x3, .inl 6]) rfl rfl (zf_Herd_get_14 (by omega) _ _) rfl rfl rfl (by omega) rfl (fun r28 h29 hR30 hQ31 => ?_)
        obtain ⟨rfl, rfl⟩ := hQ31
        refine z_const rfl ?_
        refine z_isub rfl ?_
        refine z_istore rfl rfl rfl ?_
        refine z_aload rfl rfl rfl ?_
        refine z_iload rfl rfl ?_
        refine z_inv1 (d' := d - 1) (As := [.inl (w32 ((sh_Herd_get_14 x3 6 h) - 10))]) rfl rfl (zf_Herd_furrows_14 (by omega) _) rfl rfl rfl (by omega) rfl (fun r32 h33 hR34 hQ35 => ?_)
        obtain ⟨rfl, rfl⟩ := hQ35
        refine z_istore rfl rfl rfl ?_
        refine z_iload rfl rfl ?_
        refine z_aload rfl rfl rfl ?_
        refine z_getr (r := 33) rfl rfl rfl rfl ?_
        refine z_iload rfl rfl ?_
        refine z_iload rfl rfl ?_
        refine z_iload rfl rfl ?_
        refine z_aload rfl rfl rfl ?_
        refine z_inv1 (d' := d - 1) (As := []) rfl rfl (zf_Herd_hour_14 (by omega)) rfl rfl rfl (by omega) rfl (fun r36 h37 hR38 hQ39 => ?_)
        obtain ⟨rfl, rfl⟩ := hQ39
        obtain ⟨r45, h46, hc44, hF⟩ := zbind2 hF
        refine z_inv1 (d' := d - 1) (As := [.inl x3, .inl (sh_Herd_get_14 x3 7 h), .inl (w32 ((sh_Herd_get_14 x3 6 h) - 10)), .inl (sh_Herd_hour_14 h)]) rfl rfl (zf_Laws_work (by omega) N _ _ _ _ hc44) rfl rfl rfl (by omega) rfl (fun r40 h41 hR42 hQ43 => ?_)
        obtain ⟨rfl, rfl⟩ := hQ43
        refine z_mmin rfl (by decide) (by omega) rfl ?_
        refine z_istore rfl rfl rfl ?_
        refine z_aload rfl rfl rfl ?_
        refine z_iload rfl rfl ?_
        refine z_iload rfl rfl ?_
        refine z_iload rfl rfl ?_
        refine z_isub rfl ?_
        refine z_inv0 (d' := d - 1) (As := [.inl (w32 ((sh_Herd_get_14 x3 6 h) - 10)), .inl (w32 ((sh_Herd_furrows_14 (w32 ((sh_Herd_get_14 x3 6 h) - 10)) h) - (zmin (sh_Herd_furrows_14 (w32 ((sh_Herd_get_14 x3 6 h) - 10)) h) r45)))]) rfl rfl (zf_Herd_setFurrows_14 (by omega) _ _) rfl rfl rfl (by omega) rfl (fun r47 h48 hR49 hQ50 => ?_)
        obtain ⟨rfl, rfl⟩ := hQ50
        refine z_iload rfl rfl ?_
        refine z_iload rfl rfl ?_
        refine z_iadd rfl ?_
        refine z_istore rfl rfl rfl ?_
        refine z_iinc rfl rfl rfl ?_
        refine z_goto rfl ?_
        refine zsubL (L' := [.inr (.inr 0), .inr (.inr 14), .inl (w32 (x2 + (zmin (sh_Herd_furrows_14 (w32 ((sh_Herd_get_14 x3 6 h) - 10)) h) r45))), .inl (w32 (x3 + 1)), zJk, zJk, zJk, zJk]) ⟨Or.inl rfl, Or.inl rfl, Or.inl rfl, Or.inl rfl, Or.inr rfl, Or.inr rfl, Or.inr rfl, Or.inr rfl, trivial⟩ ?_
        exact ih _ _ _ hF
set_option maxRecDepth 100000 in
set_option maxHeartbeats 4000000 in
theorem zw_Ox_plough {l : Launch} {E : zE} {d : Nat} (hd : 6 ≤ d) (N : Nat) {h : zHp} {Q : Int → zHp → Prop} {r0 : Int} {h0 : zHp} (hF : sh_Ox_plough N h = some (r0, h0)) (K : Q r0 h0) : zW l E d zm_Ox_plough 0 [.inr (.inr 0), zJk, zJk, zJk, zJk, zJk, zJk, zJk] [] h Q := by
  rw [sh_Ox_plough] at hF
  refine z_aload rfl rfl rfl ?_
  refine z_getr (r := 1) rfl rfl rfl rfl ?_
  refine z_inv0 (d' := d - 1) (As := []) rfl rfl (zf_Yard_keepStep_1 (by omega)) rfl rfl rfl (by omega) rfl (fun r1 h2 hR3 hQ4 => ?_)
  obtain ⟨rfl, rfl⟩ := hQ4
  refine z_aload rfl rfl rfl ?_
  refine z_getr (r := 1) rfl rfl rfl rfl ?_
  refine z_getr (r := 14) rfl rfl rfl rfl ?_
  refine z_astore rfl rfl rfl rfl ?_
  refine z_const rfl ?_
  refine z_istore rfl rfl rfl ?_
  refine z_const rfl ?_
  refine z_istore rfl rfl rfl ?_
  obtain ⟨y52, h53, hL51, hF⟩ := zbind2 hF
  refine zl_Ox_plough_L11 (by omega) N ?_ N _ _ _ hL51
  refine z_aload rfl rfl rfl ?_
  refine z_aload rfl rfl rfl ?_
  refine z_inv1 (d' := d - 1) (As := []) rfl rfl (zf_Herd_hour_14 (by omega)) rfl rfl rfl (by omega) rfl (fun r54 h55 hR56 hQ57 => ?_)
  obtain ⟨rfl, rfl⟩ := hQ57
  refine z_const rfl ?_
  refine z_iadd rfl ?_
  refine z_const rfl ?_
  refine z_irem rfl (by decide) ?_
  refine z_inv0 (d' := d - 1) (As := [.inl (w32 (((w32 ((sh_Herd_hour_14 h53) + 1))).tmod 24))]) rfl rfl (zf_Herd_setHour_14 (by omega) _) rfl rfl rfl (by omega) rfl (fun r58 h59 hR60 hQ61 => ?_)
  obtain ⟨rfl, rfl⟩ := hQ61
  refine z_iload rfl rfl ?_
  obtain ⟨rfl, rfl⟩ := zinj2 hF
  exact z_iret rfl rfl K
set_option maxRecDepth 100000 in
theorem zf_Ox_plough {l : Launch} {E : zE} {d : Nat} (hd : 6 ≤ d) (N : Nat) {h : zHp} {r0 : Int} {h0 : zHp} (hF : sh_Ox_plough N h = some (r0, h0)) : zC l E d zm_Ox_plough [.inr (.inr 0)] h (fun r1 h1 => r0 = r1 ∧ h0 = h1) :=
  zC_of zk_Ox_plough (by decide) rfl rfl (Nat.le_of_ble_eq_true rfl) (zw_Ox_plough hd N hF ⟨rfl, rfl⟩)
def sh_Mo_held (x0 x2 x3 : Int) : Int := (if 0 ≤ zcmp x0 x2 then (if zcmp x0 x3 ≤ 0 then w32 x0 else x3 : Int) else x2 : Int)
set_option maxRecDepth 100000 in
set_option maxHeartbeats 4000000 in
theorem zw_Mo_held {l : Launch} {E : zE} {d : Nat} (hd : 1 ≤ d) (x0 x2 x3 : Int) {h : zHp} {Q : Int → zHp → Prop} {r0 : Int} (hF : sh_Mo_held x0 x2 x3 = r0) (K : Q r0 h) : zW l E d zm_Mo_held 0 [.inr (.inl x0), zJk, .inl x2, .inl x3] [] h Q := by
  rw [sh_Mo_held] at hF
  refine z_lload rfl rfl ?_
  refine z_iload rfl rfl ?_
  refine z_i2l rfl ?_
  refine z_lcmp rfl ?_
  have hJ3 : zW l E d zm_Mo_held 16 [zJk, zJk, zJk, zJk] [.inl (if 0 ≤ zcmp x0 x2 then (if zcmp x0 x3 ≤ 0 then w32 x0 else x3 : Int) else x2 : Int)] h Q := by
    subst hF
    exact z_iret rfl rfl K
  refine z_zge rfl (fun c1 => ?_) (fun c1 => ?_)
  · refine z_lload rfl rfl ?_
    refine z_iload rfl rfl ?_
    refine z_i2l rfl ?_
    refine z_lcmp rfl ?_
    refine z_zle rfl (fun c2 => ?_) (fun c2 => ?_)
    · refine z_lload rfl rfl ?_
      refine z_l2i rfl ?_
      refine zsubL (L' := [zJk, zJk, zJk, zJk]) ⟨Or.inr rfl, Or.inl rfl, Or.inr rfl, Or.inr rfl, trivial⟩ ?_
      exact zcast (by first | rfl | (simp only [if_pos c1, if_pos c2] <;> rfl)) (by first | rfl | (simp only [if_pos c1, if_pos c2] <;> rfl)) hJ3
    · refine z_iload rfl rfl ?_
      refine z_goto rfl ?_
      refine zsubL (L' := [zJk, zJk, zJk, zJk]) ⟨Or.inr rfl, Or.inl rfl, Or.inr rfl, Or.inr rfl, trivial⟩ ?_
      exact zcast (by first | rfl | (simp only [if_pos c1, if_neg c2] <;> rfl)) (by first | rfl | (simp only [if_pos c1, if_neg c2] <;> rfl)) hJ3
  · refine z_iload rfl rfl ?_
    refine z_goto rfl ?_
    refine zsubL (L' := [zJk, zJk, zJk, zJk]) ⟨Or.inr rfl, Or.inl rfl, Or.inr rfl, Or.inr rfl, trivial⟩ ?_
    exact zcast (by first | rfl | (simp only [if_neg c1] <;> rfl)) (by first | rfl | (simp only [if_neg c1] <;> rfl)) hJ3
set_option maxRecDepth 100000 in
theorem zf_Mo_held {l : Launch} {E : zE} {d : Nat} (hd : 1 ≤ d) (x0 x2 x3 : Int) {h : zHp} : zC l E d zm_Mo_held [.inr (.inl x0), .inl x2, .inl x3] h (fun r1 h1 => sh_Mo_held x0 x2 x3 = r1 ∧ h = h1) :=
  zC_of zk_Mo_held (by decide) rfl rfl (Nat.le_of_ble_eq_true rfl) (zw_Mo_held hd _ _ _ rfl ⟨rfl, rfl⟩)
def sh_Mo_workOf_J49 (N : Nat) (a3 a6 s1 s2 : Int) (hj : zHp) : Option (Int × zHp) := if 0 ≤ s1 ∧ s1 < 11 then if 0 ≤ w32 ((w32 (25 + (w32 (4 * a3)))) + 2) ∧ w32 ((w32 (25 + (w32 (4 * a3)))) + 2) < 1061 then zb1 (sh_Mo_work N a6 (zst (zst hj 91 s1.toNat s2) 91 10 ((zst hj 91 s1.toNat s2) 86 (w32 ((w32 (25 + (w32 (4 * a3)))) + 2)).toNat))) fun h42 => some (sh_Mo_held (h42 92 0) 0 99, h42) else none else none
def sh_Mo_workOf (N : Nat) (x1 x2 x3 x4 : Int) (h : zHp) : Option (Int × zHp) := zb1 (sh_Mo_told N x1 2 h) fun r6 => zb1 (sh_Mo_told N x2 2 h) fun r12 => zb1 (sh_Mo_clauseOf N 4 h) fun r18 => if 0 ≤ r18 then zb1 (sh_Mo_told N x1 2 (zst (zst h 91 0 x4) 91 8 (w32 (r6 + r12)))) fun r25 => zb1 (sh_Mo_told N x2 2 (zst (zst h 91 0 x4) 91 8 (w32 (r6 + r12)))) fun r31 => if r31 ≤ r25 then zb1 (sh_Mo_told N x2 2 (zst (zst h 91 0 x4) 91 8 (w32 (r6 + r12)))) fun r52 => sh_Mo_workOf_J49 N x3 r18 9 r52 (zst (zst h 91 0 x4) 91 8 (w32 (r6 + r12))) else zb1 (sh_Mo_told N x1 2 (zst (zst h 91 0 x4) 91 8 (w32 (r6 + r12)))) fun r58 => sh_Mo_workOf_J49 N x3 r18 9 r58 (zst (zst h 91 0 x4) 91 8 (w32 (r6 + r12))) else some (w32 (r6 + r12), h)
set_option maxRecDepth 100000 in
set_option maxHeartbeats 4000000 in
theorem zw_Mo_workOf {l : Launch} {E : zE} {d : Nat} (hd : 4 ≤ d) (N : Nat) (x1 x2 x3 x4 : Int) {h : zHp} {Q : Int → zHp → Prop} {r0 : Int} {h0 : zHp} (hF : sh_Mo_workOf N x1 x2 x3 x4 h = some (r0, h0)) (K : Q r0 h0) : zW l E d zm_Mo_workOf 0 [.inr (.inr 85), .inl x1, .inl x2, .inl x3, .inl x4, zJk, zJk] [] h Q := by
  rw [sh_Mo_workOf] at hF
  refine z_aload rfl rfl rfl ?_
  refine z_iload rfl rfl ?_
  refine z_const rfl ?_
  obtain ⟨r6, hc5, hF⟩ := zbind1 hF
  refine z_inv1 (d' := d - 1) (As := [.inl x1, .inl 2]) rfl rfl (zf_Mo_told (by omega) N _ _ hc5) rfl rfl rfl (by omega) rfl (fun r1 h2 hR3 hQ4 => ?_)
  obtain ⟨rfl, rfl⟩ := hQ4
  refine z_aload rfl rfl rfl ?_
  refine z_iload rfl rfl ?_
  refine z_const rfl ?_
  obtain ⟨r12, hc11, hF⟩ := zbind1 hF
  refine z_inv1 (d' := d - 1) (As := [.inl x2, .inl 2]) rfl rfl (zf_Mo_told (by omega) N _ _ hc11) rfl rfl rfl (by omega) rfl (fun r7 h8 hR9 hQ10 => ?_)
  obtain ⟨rfl, rfl⟩ := hQ10
  refine z_iadd rfl ?_
  refine z_istore rfl rfl rfl ?_
  refine z_aload rfl rfl rfl ?_
  refine z_const rfl ?_
  obtain ⟨r18, hc17, hF⟩ := zbind1 hF
  refine z_inv1 (d' := d - 1) (As := [.inl 4]) rfl rfl (zf_Mo_clauseOf (by omega) N _ hc17) rfl rfl rfl (by omega) rfl (fun r13 h14 hR15 hQ16 => ?_)
  obtain ⟨rfl, rfl⟩ := hQ16
  refine z_istore rfl rfl rfl ?_
  refine z_iload rfl rfl ?_
  refine z_zge rfl (fun c19 => ?_) (fun c19 => ?_)
  · rw [if_pos c19] at hF
    refine z_aload rfl rfl rfl ?_
    refine z_getr (r := 91) rfl rfl rfl rfl ?_
    refine z_const rfl ?_
    refine z_iload rfl rfl ?_
    refine z_iastc 0 rfl rfl rfl (by decide) ?_
    refine z_aload rfl rfl rfl ?_
    refine z_getr (r := 91) rfl rfl rfl rfl ?_
    refine z_const rfl ?_
    refine z_iload rfl rfl ?_
    refine z_iastc 8 rfl rfl rfl (by decide) ?_
    refine z_aload rfl rfl rfl ?_
    refine z_getr (r := 91) rfl rfl rfl rfl ?_
    refine z_const rfl ?_
    refine z_aload rfl rfl rfl ?_
    refine z_iload rfl rfl ?_
    refine z_const rfl ?_
    obtain ⟨r25, hc24, hF⟩ := zbind1 hF
    refine z_inv1 (d' := d - 1) (As := [.inl x1, .inl 2]) rfl rfl (zf_Mo_told (by omega) N _ _ hc24) rfl rfl rfl (by omega) rfl (fun r20 h21 hR22 hQ23 => ?_)
    obtain ⟨rfl, rfl⟩ := hQ23
    refine z_aload rfl rfl rfl ?_
    refine z_iload rfl rfl ?_
    refine z_const rfl ?_
    obtain ⟨r31, hc30, hF⟩ := zbind1 hF
    refine z_inv1 (d' := d - 1) (As := [.inl x2, .inl 2]) rfl rfl (zf_Mo_told (by omega) N _ _ hc30) rfl rfl rfl (by omega) rfl (fun r26 h27 hR28 hQ29 => ?_)
    obtain ⟨rfl, rfl⟩ := hQ29
    have hJ34 : ∀ (a3 a6 s1 s2 : Int) (hj : zHp), sh_Mo_workOf_J49 N a3 a6 s1 s2 hj = some (r0, h0) → zW l E d zm_Mo_workOf 49 [.inr (.inr 85), zJk, zJk, .inl a3, zJk, zJk, .inl a6] [.inl s2, .inl s1, .inr (.inr 91)] hj Q := by
      intro a3 a6 s1 s2 hj hF
      rw [sh_Mo_workOf_J49] at hF
      obtain ⟨g35, hF⟩ := zguard hF
      refine z_iast rfl rfl g35.1 g35.2 ?_
      refine z_aload rfl rfl rfl ?_
      refine z_getr (r := 91) rfl rfl rfl rfl ?_
      refine z_const rfl ?_
      refine z_aload rfl rfl rfl ?_
      refine z_getr (r := 86) rfl rfl rfl rfl ?_
      refine z_const rfl ?_
      refine z_const rfl ?_
      refine z_iload rfl rfl ?_
      refine z_imul rfl ?_
      refine z_iadd rfl ?_
      refine z_const rfl ?_
      refine z_iadd rfl ?_
      obtain ⟨g36, hF⟩ := zguard hF
      refine z_iald rfl rfl g36.1 g36.2 ?_
      refine z_iastc 10 rfl rfl rfl (by decide) ?_
      refine z_aload rfl rfl rfl ?_
      refine z_iload rfl rfl ?_
      obtain ⟨h42, hc41, hF⟩ := zbind1 hF
      refine z_inv0 (d' := d - 1) (As := [.inl a6]) rfl rfl (zf_Mo_work (by omega) N _ hc41) rfl rfl rfl (by omega) rfl (fun r37 h38 hR39 hQ40 => ?_)
      obtain ⟨rfl, rfl⟩ := hQ40
      refine z_aload rfl rfl rfl ?_
      refine z_getr (r := 92) rfl rfl rfl rfl ?_
      refine z_const rfl ?_
      refine z_laldc 0 rfl rfl rfl (by decide) ?_
      refine z_const rfl ?_
      refine z_const rfl ?_
      refine z_ivs1 (d' := d - 1) (As := [.inr (.inl (h42 92 0)), .inl 0, .inl 99]) rfl rfl (zf_Mo_held (by omega) _ _ _) rfl (by omega) rfl (fun r43 h44 hR45 hQ46 => ?_)
      obtain ⟨rfl, rfl⟩ := hQ46
      obtain ⟨rfl, rfl⟩ := zinj2 hF
      exact z_iret rfl rfl K
    refine z_cge rfl (fun c33 => ?_) (fun c33 => ?_)
    · rw [if_pos c33] at hF
      refine z_aload rfl rfl rfl ?_
      refine z_iload rfl rfl ?_
      refine z_const rfl ?_
      obtain ⟨r52, hc51, hF⟩ := zbind1 hF
      refine z_inv1 (d' := d - 1) (As := [.inl x2, .inl 2]) rfl rfl (zf_Mo_told (by omega) N _ _ hc51) rfl rfl rfl (by omega) rfl (fun r47 h48 hR49 hQ50 => ?_)
      obtain ⟨rfl, rfl⟩ := hQ50
      refine zsubL (L' := [.inr (.inr 85), zJk, zJk, .inl x3, zJk, zJk, .inl r18]) ⟨Or.inl rfl, Or.inr rfl, Or.inr rfl, Or.inl rfl, Or.inr rfl, Or.inr rfl, Or.inl rfl, trivial⟩ ?_
      exact hJ34 _ _ _ _ _ hF
    · rw [if_neg c33] at hF
      refine z_aload rfl rfl rfl ?_
      refine z_iload rfl rfl ?_
      refine z_const rfl ?_
      obtain ⟨r58, hc57, hF⟩ := zbind1 hF
      refine z_inv1 (d' := d - 1) (As := [.inl x1, .inl 2]) rfl rfl (zf_Mo_told (by omega) N _ _ hc57) rfl rfl rfl (by omega) rfl (fun r53 h54 hR55 hQ56 => ?_)
      obtain ⟨rfl, rfl⟩ := hQ56
      refine z_goto rfl ?_
      refine zsubL (L' := [.inr (.inr 85), zJk, zJk, .inl x3, zJk, zJk, .inl r18]) ⟨Or.inl rfl, Or.inr rfl, Or.inr rfl, Or.inl rfl, Or.inr rfl, Or.inr rfl, Or.inl rfl, trivial⟩ ?_
      exact hJ34 _ _ _ _ _ hF
  · rw [if_neg c19] at hF
    refine z_iload rfl rfl ?_
    obtain ⟨rfl, rfl⟩ := zinj2 hF
    exact z_iret rfl rfl K
set_option maxRecDepth 100000 in
theorem zf_Mo_workOf {l : Launch} {E : zE} {d : Nat} (hd : 4 ≤ d) (N : Nat) (x1 x2 x3 x4 : Int) {h : zHp} {r0 : Int} {h0 : zHp} (hF : sh_Mo_workOf N x1 x2 x3 x4 h = some (r0, h0)) : zC l E d zm_Mo_workOf [.inr (.inr 85), .inl x1, .inl x2, .inl x3, .inl x4] h (fun r1 h1 => r0 = r1 ∧ h0 = h1) :=
  zC_of zk_Mo_workOf (by decide) rfl rfl (Nat.le_of_ble_eq_true rfl) (zw_Mo_workOf hd N _ _ _ _ hF ⟨rfl, rfl⟩)
def sh_Mo_plough_L6_J58 (N : Nat) (rec : Int → Int → zHp → Option (Int × zHp)) (a1 a2 a4 a5 : Int) (hj : zHp) : Option (Int × zHp) := if 0 ≤ a5 ∧ a5 < 1061 then if 0 ≤ a5 ∧ a5 < 1061 then rec (w32 (a1 + a4)) (w32 (a2 + 1)) (zst hj 86 a5.toNat (w32 ((hj 86 a5.toNat) - a4))) else none else none
def sh_Mo_plough_L6 (N : Nat) : Nat → Int → Int → zHp → Option (Int × zHp)
  | 0, _, _, _ => none
  | n + 1, x1, x2, h => (if h 86 2 ≤ x2 then some (x1, h) else zb1 (sh_Mo_told N x2 7 h) fun r13 => if x2 ≤ r13 then zb1 (sh_Mo_told N x2 6 h) fun r21 => zb1 (sh_Mo_told N x2 7 h) fun r27 => zb2 (sh_Mo_workOf N x2 r27 (w32 (r21 - 10)) (h 86 3) h) fun r33 h34 => if 0 ≤ w32 ((w32 (25 + (w32 (4 * (w32 (r21 - 10)))))) + 3) ∧ w32 ((w32 (25 + (w32 (4 * (w32 (r21 - 10)))))) + 3) < 1061 then if r33 ≤ h34 86 (w32 ((w32 (25 + (w32 (4 * (w32 (r21 - 10)))))) + 3)).toNat then sh_Mo_plough_L6_J58 N (sh_Mo_plough_L6 N n) x1 x2 r33 (w32 ((w32 (25 + (w32 (4 * (w32 (r21 - 10)))))) + 3)) h34 else if 0 ≤ w32 ((w32 (25 + (w32 (4 * (w32 (r21 - 10)))))) + 3) ∧ w32 ((w32 (25 + (w32 (4 * (w32 (r21 - 10)))))) + 3) < 1061 then sh_Mo_plough_L6_J58 N (sh_Mo_plough_L6 N n) x1 x2 (h34 86 (w32 ((w32 (25 + (w32 (4 * (w32 (r21 - 10)))))) + 3)).toNat) (w32 ((w32 (25 + (w32 (4 * (w32 (r21 - 10)))))) + 3)) h34 else none else none else sh_Mo_plough_L6 N n x1 (w32 (x2 + 1)) h)
def sh_Mo_plough (N : Nat) (h : zHp) : Option (Int × zHp) := zb1 (sh_Mo_keep N h) fun h6 => zb2 (sh_Mo_plough_L6 N N 0 0 h6) fun y43 h44 => some (y43, zst h44 86 3 (w32 (((w32 ((h44 86 3) + 1))).tmod 24)))
set_option maxRecDepth 100000 in
set_option maxHeartbeats 4000000 in
theorem zl_Mo_plough_L6 {l : Launch} {E : zE} {d : Nat} (hd : 5 ≤ d) (N : Nat) {Q : Int → zHp → Prop} {o1 : Int} {oh : zHp} (K1 : zW l E d zm_Mo_plough 72 [.inr (.inr 85), .inl o1, zJk, zJk, zJk, zJk] [] oh Q) : ∀ (n : Nat) (x1 x2 : Int) (h : zHp), sh_Mo_plough_L6 N n x1 x2 h = some (o1, oh) → zW l E d zm_Mo_plough 6 [.inr (.inr 85), .inl x1, .inl x2, zJk, zJk, zJk] [] h Q := by
  intro n
  induction n with
  | zero =>
    intro x1 x2 h hF
    cases (show (none : Option (Int × zHp)) = some (o1, oh) from hF)
  | succ n ih =>
    intro x1 x2 h hF
    rw [sh_Mo_plough_L6] at hF
    refine z_iload rfl rfl ?_
    refine z_aload rfl rfl rfl ?_
    refine z_getr (r := 86) rfl rfl rfl rfl ?_
    refine z_const rfl ?_
    refine z_ialdc 2 rfl rfl rfl (by decide) ?_
    refine z_cge rfl (fun c7 => ?_) (fun c7 => ?_)
    · rw [if_pos c7] at hF
      refine zsubL (L' := [.inr (.inr 85), .inl x1, zJk, zJk, zJk, zJk]) ⟨Or.inl rfl, Or.inl rfl, Or.inr rfl, Or.inl rfl, Or.inl rfl, Or.inl rfl, trivial⟩ ?_
      obtain ⟨rfl, rfl⟩ := zinj2 hF
      exact K1
    · rw [if_neg c7] at hF
      refine z_aload rfl rfl rfl ?_
      refine z_iload rfl rfl ?_
      refine z_const rfl ?_
      obtain ⟨r13, hc12, hF⟩ := zbind1 hF
      refine z_inv1 (d' := d - 1) (As := [.inl x2, .inl 7]) rfl rfl (zf_Mo_told (by omega) N _ _ hc12) rfl rfl rfl (by omega) rfl (fun r8 h9 hR10 hQ11 => ?_)
      obtain ⟨rfl, rfl⟩ := hQ11
      refine z_iload rfl rfl ?_
      refine z_cge rfl (fun c15 => ?_) (fun c15 => ?_)
      · rw [if_pos c15] at hF
        refine z_aload rfl rfl rfl ?_
        refine z_iload rfl rfl ?_
        refine z_const rfl ?_
        obtain ⟨r21, hc20, hF⟩ := zbind1 hF
        refine z_inv1 (d' := d - 1) (As := [.inl x2, .inl 6]) rfl rfl (zf_Mo_told (by omega) N _ _ hc20) rfl rfl rfl (by omega) rfl (fun r16 h17 hR18 hQ19 => ?_)
        obtain ⟨rfl, rfl⟩ := hQ19
        refine z_const rfl ?_
        refine z_isub rfl ?_
        refine z_istore rfl rfl rfl ?_
        refine z_aload rfl rfl rfl ?_
        refine z_iload rfl rfl ?_
        refine z_aload rfl rfl rfl ?_
        refine z_iload rfl rfl ?_
        refine z_const rfl ?_
        obtain ⟨r27, hc26, hF⟩ := zbind1 hF
        refine z_inv1 (d' := d - 1) (As := [.inl x2, .inl 7]) rfl rfl (zf_Mo_told (by omega) N _ _ hc26) rfl rfl rfl (by omega) rfl (fun r22 h23 hR24 hQ25 => ?_)
        obtain ⟨rfl, rfl⟩ := hQ25
        refine z_iload rfl rfl ?_
        refine z_aload rfl rfl rfl ?_
        refine z_getr (r := 86) rfl rfl rfl rfl ?_
        refine z_const rfl ?_
        refine z_ialdc 3 rfl rfl rfl (by decide) ?_
        obtain ⟨r33, h34, hc32, hF⟩ := zbind2 hF
        refine z_inv1 (d' := d - 1) (As := [.inl x2, .inl r27, .inl (w32 (r21 - 10)), .inl (h 86 3)]) rfl rfl (zf_Mo_workOf (by omega) N _ _ _ _ hc32) rfl rfl rfl (by omega) rfl (fun r28 h29 hR30 hQ31 => ?_)
        obtain ⟨rfl, rfl⟩ := hQ31
        refine z_istore rfl rfl rfl ?_
        refine z_const rfl ?_
        refine z_const rfl ?_
        refine z_iload rfl rfl ?_
        refine z_imul rfl ?_
        refine z_iadd rfl ?_
        refine z_const rfl ?_
        refine z_iadd rfl ?_
        refine z_istore rfl rfl rfl ?_
        refine z_iload rfl rfl ?_
        refine z_aload rfl rfl rfl ?_
        refine z_getr (r := 86) rfl rfl rfl rfl ?_
        refine z_iload rfl rfl ?_
        obtain ⟨g35, hF⟩ := zguard hF
        refine z_iald rfl rfl g35.1 g35.2 ?_
        have hJ38 : ∀ (a1 a2 a4 a5 : Int) (hj : zHp), sh_Mo_plough_L6_J58 N (sh_Mo_plough_L6 N n) a1 a2 a4 a5 hj = some (o1, oh) → zW l E d zm_Mo_plough 58 [.inr (.inr 85), .inl a1, .inl a2, zJk, .inl a4, .inl a5] [] hj Q := by
          intro a1 a2 a4 a5 hj hF
          rw [sh_Mo_plough_L6_J58] at hF
          refine z_aload rfl rfl rfl ?_
          refine z_getr (r := 86) rfl rfl rfl rfl ?_
          refine z_iload rfl rfl ?_
          refine z_dup2 rfl rfl rfl ?_
          obtain ⟨g39, hF⟩ := zguard hF
          refine z_iald rfl rfl g39.1 g39.2 ?_
          refine z_iload rfl rfl ?_
          refine z_isub rfl ?_
          obtain ⟨g40, hF⟩ := zguard hF
          refine z_iast rfl rfl g40.1 g40.2 ?_
          refine z_iload rfl rfl ?_
          refine z_iload rfl rfl ?_
          refine z_iadd rfl ?_
          refine z_istore rfl rfl rfl ?_
          refine z_iinc rfl rfl rfl ?_
          refine z_goto rfl ?_
          refine zsubL (L' := [.inr (.inr 85), .inl (w32 (a1 + a4)), .inl (w32 (a2 + 1)), zJk, zJk, zJk]) ⟨Or.inl rfl, Or.inl rfl, Or.inl rfl, Or.inl rfl, Or.inr rfl, Or.inr rfl, trivial⟩ ?_
          exact ih _ _ _ hF
        refine z_cle rfl (fun c37 => ?_) (fun c37 => ?_)
        · rw [if_pos c37] at hF
          refine zsubL (L' := [.inr (.inr 85), .inl x1, .inl x2, zJk, .inl r33, .inl (w32 ((w32 (25 + (w32 (4 * (w32 (r21 - 10)))))) + 3))]) ⟨Or.inl rfl, Or.inl rfl, Or.inl rfl, Or.inr rfl, Or.inl rfl, Or.inl rfl, trivial⟩ ?_
          exact hJ38 _ _ _ _ _ hF
        · rw [if_neg c37] at hF
          refine z_aload rfl rfl rfl ?_
          refine z_getr (r := 86) rfl rfl rfl rfl ?_
          refine z_iload rfl rfl ?_
          obtain ⟨g41, hF⟩ := zguard hF
          refine z_iald rfl rfl g41.1 g41.2 ?_
          refine z_istore rfl rfl rfl ?_
          refine zsubL (L' := [.inr (.inr 85), .inl x1, .inl x2, zJk, .inl (h34 86 (w32 ((w32 (25 + (w32 (4 * (w32 (r21 - 10)))))) + 3)).toNat), .inl (w32 ((w32 (25 + (w32 (4 * (w32 (r21 - 10)))))) + 3))]) ⟨Or.inl rfl, Or.inl rfl, Or.inl rfl, Or.inr rfl, Or.inl rfl, Or.inl rfl, trivial⟩ ?_
          exact hJ38 _ _ _ _ _ hF
      · rw [if_neg c15] at hF
        refine z_goto rfl ?_
        refine z_iinc rfl rfl rfl ?_
        refine z_goto rfl ?_
        exact ih _ _ _ hF
set_option maxRecDepth 100000 in
set_option maxHeartbeats 4000000 in
theorem zw_Mo_plough {l : Launch} {E : zE} {d : Nat} (hd : 5 ≤ d) (N : Nat) {h : zHp} {Q : Int → zHp → Prop} {r0 : Int} {h0 : zHp} (hF : sh_Mo_plough N h = some (r0, h0)) (K : Q r0 h0) : zW l E d zm_Mo_plough 0 [.inr (.inr 85), zJk, zJk, zJk, zJk, zJk] [] h Q := by
  rw [sh_Mo_plough] at hF
  refine z_aload rfl rfl rfl ?_
  obtain ⟨h6, hc5, hF⟩ := zbind1 hF
  refine z_inv0 (d' := d - 1) (As := []) rfl rfl (zf_Mo_keep (by omega) N hc5) rfl rfl rfl (by omega) rfl (fun r1 h2 hR3 hQ4 => ?_)
  obtain ⟨rfl, rfl⟩ := hQ4
  refine z_const rfl ?_
  refine z_istore rfl rfl rfl ?_
  refine z_const rfl ?_
  refine z_istore rfl rfl rfl ?_
  obtain ⟨y43, h44, hL42, hF⟩ := zbind2 hF
  refine zl_Mo_plough_L6 (by omega) N ?_ N _ _ _ hL42
  refine z_aload rfl rfl rfl ?_
  refine z_getr (r := 86) rfl rfl rfl rfl ?_
  refine z_const rfl ?_
  refine z_aload rfl rfl rfl ?_
  refine z_getr (r := 86) rfl rfl rfl rfl ?_
  refine z_const rfl ?_
  refine z_ialdc 3 rfl rfl rfl (by decide) ?_
  refine z_const rfl ?_
  refine z_iadd rfl ?_
  refine z_const rfl ?_
  refine z_irem rfl (by decide) ?_
  refine z_iastc 3 rfl rfl rfl (by decide) ?_
  refine z_iload rfl rfl ?_
  obtain ⟨rfl, rfl⟩ := zinj2 hF
  exact z_iret rfl rfl K
set_option maxRecDepth 100000 in
theorem zf_Mo_plough {l : Launch} {E : zE} {d : Nat} (hd : 5 ≤ d) (N : Nat) {h : zHp} {r0 : Int} {h0 : zHp} (hF : sh_Mo_plough N h = some (r0, h0)) : zC l E d zm_Mo_plough [.inr (.inr 85)] h (fun r1 h1 => r0 = r1 ∧ h0 = h1) :=
  zC_of zk_Mo_plough (by decide) rfl rfl (Nat.le_of_ble_eq_true rfl) (zw_Mo_plough hd N hF ⟨rfl, rfl⟩)
def sh_Herd_sleepAtOwner_14 (x1 : Int) (h : zHp) : Option (Int × zHp) := (if sh_Herd_get_14 x1 6 h = sh_Herd_get_14 x1 4 h then (if sh_Herd_get_14 x1 0 h = sh_Herd_get_14 x1 4 h then some (0, h) else (if (if w32 ((sh_Herd_get_14 x1 5 h) + 1) < 3 then 0 else 1 : Int) = 0 then some ((if w32 ((sh_Herd_get_14 x1 5 h) + 1) < 3 then 0 else 1 : Int), sh_Herd_put_14 x1 5 (if (if w32 ((sh_Herd_get_14 x1 5 h) + 1) < 3 then 0 else 1 : Int) = 0 then w32 ((sh_Herd_get_14 x1 5 h) + 1) else 0 : Int) h) else some ((if w32 ((sh_Herd_get_14 x1 5 h) + 1) < 3 then 0 else 1 : Int), sh_Herd_put_14 x1 0 (sh_Herd_get_14 x1 4 h) (sh_Herd_put_14 x1 5 (if (if w32 ((sh_Herd_get_14 x1 5 h) + 1) < 3 then 0 else 1 : Int) = 0 then w32 ((sh_Herd_get_14 x1 5 h) + 1) else 0 : Int) h)))) else some (0, h))
set_option maxRecDepth 100000 in
set_option maxHeartbeats 4000000 in
theorem zw_Herd_sleepAtOwner_14 {l : Launch} {E : zE} {d : Nat} (hd : 3 ≤ d) (x1 : Int) {h : zHp} {Q : Int → zHp → Prop} {r0 : Int} {h0 : zHp} (hF : sh_Herd_sleepAtOwner_14 x1 h = some (r0, h0)) (K : Q r0 h0) : zW l E d zm_Herd_sleepAtOwner 0 [.inr (.inr 14), .inl x1, zJk, zJk, zJk] [] h Q := by
  rw [sh_Herd_sleepAtOwner_14] at hF
  refine z_aload rfl rfl rfl ?_
  refine z_iload rfl rfl ?_
  refine z_const rfl ?_
  refine z_inv1 (d' := d - 1) (As := [.inl x1, .inl 4]) rfl rfl (zf_Herd_get_14 (by omega) _ _) rfl rfl rfl (by omega) rfl (fun r1 h2 hR3 hQ4 => ?_)
  obtain ⟨rfl, rfl⟩ := hQ4
  refine z_istore rfl rfl rfl ?_
  refine z_aload rfl rfl rfl ?_
  refine z_iload rfl rfl ?_
  refine z_const rfl ?_
  refine z_inv1 (d' := d - 1) (As := [.inl x1, .inl 6]) rfl rfl (zf_Herd_get_14 (by omega) _ _) rfl rfl rfl (by omega) rfl (fun r5 h6 hR7 hQ8 => ?_)
  obtain ⟨rfl, rfl⟩ := hQ8
  refine z_iload rfl rfl ?_
  refine z_cne rfl (fun c9 => ?_) (fun c9 => ?_)
  · rw [if_neg c9] at hF
    refine z_const rfl ?_
    obtain ⟨rfl, rfl⟩ := zinj2 hF
    exact z_zret rfl rfl (Or.inl rfl) K
  · rw [if_pos c9] at hF
    refine z_aload rfl rfl rfl ?_
    refine z_iload rfl rfl ?_
    refine z_const rfl ?_
    refine z_inv1 (d' := d - 1) (As := [.inl x1, .inl 0]) rfl rfl (zf_Herd_get_14 (by omega) _ _) rfl rfl rfl (by omega) rfl (fun r10 h11 hR12 hQ13 => ?_)
    obtain ⟨rfl, rfl⟩ := hQ13
    refine z_iload rfl rfl ?_
    refine z_cne rfl (fun c14 => ?_) (fun c14 => ?_)
    · rw [if_neg c14] at hF
      refine z_aload rfl rfl rfl ?_
      refine z_iload rfl rfl ?_
      refine z_const rfl ?_
      refine z_inv1 (d' := d - 1) (As := [.inl x1, .inl 5]) rfl rfl (zf_Herd_get_14 (by omega) _ _) rfl rfl rfl (by omega) rfl (fun r15 h16 hR17 hQ18 => ?_)
      obtain ⟨rfl, rfl⟩ := hQ18
      refine z_const rfl ?_
      refine z_iadd rfl ?_
      refine z_istore rfl rfl rfl ?_
      refine z_iload rfl rfl ?_
      refine z_const rfl ?_
      have hJ20 : zW l E d zm_Herd_sleepAtOwner 32 [.inr (.inr 14), .inl x1, .inl (sh_Herd_get_14 x1 4 h), .inl (w32 ((sh_Herd_get_14 x1 5 h) + 1)), zJk] [.inl (if w32 ((sh_Herd_get_14 x1 5 h) + 1) < 3 then 0 else 1 : Int)] h Q := by
        refine z_istore rfl rfl rfl ?_
        refine z_aload rfl rfl rfl ?_
        refine z_iload rfl rfl ?_
        refine z_const rfl ?_
        refine z_iload rfl rfl ?_
        have hJ22 : zW l E d zm_Herd_sleepAtOwner 41 [.inr (.inr 14), .inl x1, .inl (sh_Herd_get_14 x1 4 h), zJk, .inl (if w32 ((sh_Herd_get_14 x1 5 h) + 1) < 3 then 0 else 1 : Int)] [.inl (if (if w32 ((sh_Herd_get_14 x1 5 h) + 1) < 3 then 0 else 1 : Int) = 0 then w32 ((sh_Herd_get_14 x1 5 h) + 1) else 0 : Int), .inl 5, .inl x1, .inr (.inr 14)] h Q := by
          refine z_inv0 (d' := d - 1) (As := [.inl x1, .inl 5, .inl (if (if w32 ((sh_Herd_get_14 x1 5 h) + 1) < 3 then 0 else 1 : Int) = 0 then w32 ((sh_Herd_get_14 x1 5 h) + 1) else 0 : Int)]) rfl rfl (zf_Herd_put_14 (by omega) _ _ _) rfl rfl rfl (by omega) rfl (fun r23 h24 hR25 hQ26 => ?_)
          obtain ⟨rfl, rfl⟩ := hQ26
          refine z_iload rfl rfl ?_
          refine z_zeq rfl (fun c28 => ?_) (fun c28 => ?_)
          · rw [if_pos c28] at hF
            refine z_iload rfl rfl ?_
            obtain ⟨rfl, rfl⟩ := zinj2 hF
            exact z_zret rfl rfl (zor_ite (Or.inl rfl) (Or.inr rfl)) K
          · rw [if_neg c28] at hF
            refine z_aload rfl rfl rfl ?_
            refine z_iload rfl rfl ?_
            refine z_const rfl ?_
            refine z_iload rfl rfl ?_
            refine z_inv0 (d' := d - 1) (As := [.inl x1, .inl 0, .inl (sh_Herd_get_14 x1 4 h)]) rfl rfl (zf_Herd_put_14 (by omega) _ _ _) rfl rfl rfl (by omega) rfl (fun r29 h30 hR31 hQ32 => ?_)
            obtain ⟨rfl, rfl⟩ := hQ32
            refine z_iload rfl rfl ?_
            obtain ⟨rfl, rfl⟩ := zinj2 hF
            exact z_zret rfl rfl (zor_ite (Or.inl rfl) (Or.inr rfl)) K
        refine z_zeq rfl (fun c21 => ?_) (fun c21 => ?_)
        · refine z_iload rfl rfl ?_
          refine zsubL (L' := [.inr (.inr 14), .inl x1, .inl (sh_Herd_get_14 x1 4 h), zJk, .inl (if w32 ((sh_Herd_get_14 x1 5 h) + 1) < 3 then 0 else 1 : Int)]) ⟨Or.inl rfl, Or.inl rfl, Or.inl rfl, Or.inr rfl, Or.inl rfl, trivial⟩ ?_
          exact zcast (by first | rfl | (simp only [if_pos c21] <;> rfl)) (by first | rfl | (simp only [if_pos c21] <;> rfl)) hJ22
        · refine z_const rfl ?_
          refine z_goto rfl ?_
          refine zsubL (L' := [.inr (.inr 14), .inl x1, .inl (sh_Herd_get_14 x1 4 h), zJk, .inl (if w32 ((sh_Herd_get_14 x1 5 h) + 1) < 3 then 0 else 1 : Int)]) ⟨Or.inl rfl, Or.inl rfl, Or.inl rfl, Or.inr rfl, Or.inl rfl, trivial⟩ ?_
          exact zcast (by first | rfl | (simp only [if_neg c21] <;> rfl)) (by first | rfl | (simp only [if_neg c21] <;> rfl)) hJ22
      refine z_clt rfl (fun c19 => ?_) (fun c19 => ?_)
      · refine z_const rfl ?_
        exact zcast (by first | rfl | (simp only [if_pos c19] <;> rfl)) (by first | rfl | (simp only [if_pos c19] <;> rfl)) hJ20
      · refine z_const rfl ?_
        refine z_goto rfl ?_
        exact zcast (by first | rfl | (simp only [if_neg c19] <;> rfl)) (by first | rfl | (simp only [if_neg c19] <;> rfl)) hJ20
    · rw [if_pos c14] at hF
      refine z_const rfl ?_
      obtain ⟨rfl, rfl⟩ := zinj2 hF
      exact z_zret rfl rfl (Or.inl rfl) K
set_option maxRecDepth 100000 in
theorem zf_Herd_sleepAtOwner_14 {l : Launch} {E : zE} {d : Nat} (hd : 3 ≤ d) (x1 : Int) {h : zHp} {r0 : Int} {h0 : zHp} (hF : sh_Herd_sleepAtOwner_14 x1 h = some (r0, h0)) : zC l E d zm_Herd_sleepAtOwner [.inr (.inr 14), .inl x1] h (fun r1 h1 => r0 = r1 ∧ h0 = h1) :=
  zC_of zk_Herd_sleepAtOwner (by decide) rfl rfl (Nat.le_of_ble_eq_true rfl) (zw_Herd_sleepAtOwner_14 hd _ hF ⟨rfl, rfl⟩)
def sh_Ox_night_L7 (N : Nat) : Nat → Int → Int → zHp → Option (Int × zHp)
  | 0, _, _, _ => none
  | n + 1, x1, x2, h => (if sh_Herd_oxen_14 h ≤ x2 then some (x1, h) else zb2 (sh_Herd_sleepAtOwner_14 x2 h) fun r15 h16 => sh_Ox_night_L7 N n (if r15 = 0 then x1 else zor x1 (zshl 1 x2) : Int) (w32 (x2 + 1)) h16)
def sh_Ox_night (N : Nat) (h : zHp) : Option (Int × zHp) := zb2 (sh_Ox_night_L7 N N 0 0 (sh_Yard_keepStep_1 h)) fun y20 h21 => some (y20, h21)
set_option maxRecDepth 100000 in
set_option maxHeartbeats 4000000 in
theorem zl_Ox_night_L7 {l : Launch} {E : zE} {d : Nat} (hd : 6 ≤ d) (N : Nat) {Q : Int → zHp → Prop} {o1 : Int} {oh : zHp} (K1 : zW l E d zm_Ox_night 27 [zJk, .inl o1, zJk] [] oh Q) : ∀ (n : Nat) (x1 x2 : Int) (h : zHp), sh_Ox_night_L7 N n x1 x2 h = some (o1, oh) → zW l E d zm_Ox_night 7 [.inr (.inr 0), .inl x1, .inl x2] [] h Q := by
  intro n
  induction n with
  | zero =>
    intro x1 x2 h hF
    cases (show (none : Option (Int × zHp)) = some (o1, oh) from hF)
  | succ n ih =>
    intro x1 x2 h hF
    rw [sh_Ox_night_L7] at hF
    refine z_iload rfl rfl ?_
    refine z_aload rfl rfl rfl ?_
    refine z_getr (r := 1) rfl rfl rfl rfl ?_
    refine z_getr (r := 14) rfl rfl rfl rfl ?_
    refine z_inv1 (d' := d - 1) (As := []) rfl rfl (zf_Herd_oxen_14 (by omega)) rfl rfl rfl (by omega) rfl (fun r5 h6 hR7 hQ8 => ?_)
    obtain ⟨rfl, rfl⟩ := hQ8
    refine z_cge rfl (fun c9 => ?_) (fun c9 => ?_)
    · rw [if_pos c9] at hF
      refine zsubL (L' := [zJk, .inl x1, zJk]) ⟨Or.inr rfl, Or.inl rfl, Or.inr rfl, trivial⟩ ?_
      obtain ⟨rfl, rfl⟩ := zinj2 hF
      exact K1
    · rw [if_neg c9] at hF
      refine z_aload rfl rfl rfl ?_
      refine z_getr (r := 1) rfl rfl rfl rfl ?_
      refine z_getr (r := 14) rfl rfl rfl rfl ?_
      refine z_iload rfl rfl ?_
      obtain ⟨r15, h16, hc14, hF⟩ := zbind2 hF
      refine z_inv1 (d' := d - 1) (As := [.inl x2]) rfl rfl (zf_Herd_sleepAtOwner_14 (by omega) _ hc14) rfl rfl rfl (by omega) rfl (fun r10 h11 hR12 hQ13 => ?_)
      obtain ⟨rfl, rfl⟩ := hQ13
      have hJ18 : zW l E d zm_Ox_night 25 [.inr (.inr 0), .inl (if r15 = 0 then x1 else zor x1 (zshl 1 x2) : Int), .inl x2] [] h16 Q := by
        refine z_iinc rfl rfl rfl ?_
        refine z_goto rfl ?_
        exact ih _ _ _ hF
      refine z_zeq rfl (fun c17 => ?_) (fun c17 => ?_)
      · exact zcast (by first | rfl | (simp only [if_pos c17] <;> rfl)) (by first | rfl | (simp only [if_pos c17] <;> rfl)) hJ18
      · refine z_iload rfl rfl ?_
        refine z_const rfl ?_
        refine z_iload rfl rfl ?_
        refine z_ishl rfl ?_
        refine z_ior rfl ?_
        refine z_istore rfl rfl rfl ?_
        exact zcast (by first | rfl | (simp only [if_neg c17] <;> rfl)) (by first | rfl | (simp only [if_neg c17] <;> rfl)) hJ18
set_option maxRecDepth 100000 in
set_option maxHeartbeats 4000000 in
theorem zw_Ox_night {l : Launch} {E : zE} {d : Nat} (hd : 6 ≤ d) (N : Nat) {h : zHp} {Q : Int → zHp → Prop} {r0 : Int} {h0 : zHp} (hF : sh_Ox_night N h = some (r0, h0)) (K : Q r0 h0) : zW l E d zm_Ox_night 0 [.inr (.inr 0), zJk, zJk] [] h Q := by
  rw [sh_Ox_night] at hF
  refine z_aload rfl rfl rfl ?_
  refine z_getr (r := 1) rfl rfl rfl rfl ?_
  refine z_inv0 (d' := d - 1) (As := []) rfl rfl (zf_Yard_keepStep_1 (by omega)) rfl rfl rfl (by omega) rfl (fun r1 h2 hR3 hQ4 => ?_)
  obtain ⟨rfl, rfl⟩ := hQ4
  refine z_const rfl ?_
  refine z_istore rfl rfl rfl ?_
  refine z_const rfl ?_
  refine z_istore rfl rfl rfl ?_
  obtain ⟨y20, h21, hL19, hF⟩ := zbind2 hF
  refine zl_Ox_night_L7 (by omega) N ?_ N _ _ _ hL19
  refine z_iload rfl rfl ?_
  obtain ⟨rfl, rfl⟩ := zinj2 hF
  exact z_iret rfl rfl K
set_option maxRecDepth 100000 in
theorem zf_Ox_night {l : Launch} {E : zE} {d : Nat} (hd : 6 ≤ d) (N : Nat) {h : zHp} {r0 : Int} {h0 : zHp} (hF : sh_Ox_night N h = some (r0, h0)) : zC l E d zm_Ox_night [.inr (.inr 0)] h (fun r1 h1 => r0 = r1 ∧ h0 = h1) :=
  zC_of zk_Ox_night (by decide) rfl rfl (Nat.le_of_ble_eq_true rfl) (zw_Ox_night hd N hF ⟨rfl, rfl⟩)
def sh_Mo_night_L6 (N : Nat) : Nat → Int → Int → zHp → Option (Int × zHp)
  | 0, _, _, _ => none
  | n + 1, x1, x2, h => (if h 86 2 ≤ x2 then some (x1, h) else zb1 (sh_Mo_told N x2 6 h) fun r13 => zb1 (sh_Mo_told N x2 4 h) fun r19 => if r13 = r19 then zb1 (sh_Mo_told N x2 4 h) fun r27 => zb1 (sh_Mo_told N x2 0 h) fun r33 => if r27 = r33 then sh_Mo_night_L6 N n x1 (w32 (x2 + 1)) h else zb1 (sh_Mo_told N x2 5 h) fun r41 => zb1 (sh_Mo_make N x2 5 (w32 (r41 + 1)) h) fun h47 => zb1 (sh_Mo_told N x2 5 h47) fun r53 => if 3 ≤ r53 then zb1 (sh_Mo_told N x2 4 h47) fun r61 => zb1 (sh_Mo_make N x2 0 r61 h47) fun h67 => zb1 (sh_Mo_make N x2 5 0 h67) fun h73 => sh_Mo_night_L6 N n (zor x1 (zshl 1 x2)) (w32 (x2 + 1)) h73 else sh_Mo_night_L6 N n x1 (w32 (x2 + 1)) h47 else sh_Mo_night_L6 N n x1 (w32 (x2 + 1)) h)
def sh_Mo_night (N : Nat) (h : zHp) : Option (Int × zHp) := zb1 (sh_Mo_keep N h) fun h6 => zb2 (sh_Mo_night_L6 N N 0 0 h6) fun y75 h76 => some (y75, h76)
set_option maxRecDepth 100000 in
set_option maxHeartbeats 4000000 in
theorem zl_Mo_night_L6 {l : Launch} {E : zE} {d : Nat} (hd : 3 ≤ d) (N : Nat) {Q : Int → zHp → Prop} {o1 : Int} {oh : zHp} (K1 : zW l E d zm_Mo_night 69 [zJk, .inl o1, zJk] [] oh Q) : ∀ (n : Nat) (x1 x2 : Int) (h : zHp), sh_Mo_night_L6 N n x1 x2 h = some (o1, oh) → zW l E d zm_Mo_night 6 [.inr (.inr 85), .inl x1, .inl x2] [] h Q := by
  intro n
  induction n with
  | zero =>
    intro x1 x2 h hF
    cases (show (none : Option (Int × zHp)) = some (o1, oh) from hF)
  | succ n ih =>
    intro x1 x2 h hF
    rw [sh_Mo_night_L6] at hF
    refine z_iload rfl rfl ?_
    refine z_aload rfl rfl rfl ?_
    refine z_getr (r := 86) rfl rfl rfl rfl ?_
    refine z_const rfl ?_
    refine z_ialdc 2 rfl rfl rfl (by decide) ?_
    refine z_cge rfl (fun c7 => ?_) (fun c7 => ?_)
    · rw [if_pos c7] at hF
      refine zsubL (L' := [zJk, .inl x1, zJk]) ⟨Or.inr rfl, Or.inl rfl, Or.inr rfl, trivial⟩ ?_
      obtain ⟨rfl, rfl⟩ := zinj2 hF
      exact K1
    · rw [if_neg c7] at hF
      refine z_aload rfl rfl rfl ?_
      refine z_iload rfl rfl ?_
      refine z_const rfl ?_
      obtain ⟨r13, hc12, hF⟩ := zbind1 hF
      refine z_inv1 (d' := d - 1) (As := [.inl x2, .inl 6]) rfl rfl (zf_Mo_told (by omega) N _ _ hc12) rfl rfl rfl (by omega) rfl (fun r8 h9 hR10 hQ11 => ?_)
      obtain ⟨rfl, rfl⟩ := hQ11
      refine z_aload rfl rfl rfl ?_
      refine z_iload rfl rfl ?_
      refine z_const rfl ?_
      obtain ⟨r19, hc18, hF⟩ := zbind1 hF
      refine z_inv1 (d' := d - 1) (As := [.inl x2, .inl 4]) rfl rfl (zf_Mo_told (by omega) N _ _ hc18) rfl rfl rfl (by omega) rfl (fun r14 h15 hR16 hQ17 => ?_)
      obtain ⟨rfl, rfl⟩ := hQ17
      refine z_cne rfl (fun c21 => ?_) (fun c21 => ?_)
      · rw [if_neg c21] at hF
        refine z_iinc rfl rfl rfl ?_
        refine z_goto rfl ?_
        exact ih _ _ _ hF
      · rw [if_pos c21] at hF
        refine z_aload rfl rfl rfl ?_
        refine z_iload rfl rfl ?_
        refine z_const rfl ?_
        obtain ⟨r27, hc26, hF⟩ := zbind1 hF
        refine z_inv1 (d' := d - 1) (As := [.inl x2, .inl 4]) rfl rfl (zf_Mo_told (by omega) N _ _ hc26) rfl rfl rfl (by omega) rfl (fun r22 h23 hR24 hQ25 => ?_)
        obtain ⟨rfl, rfl⟩ := hQ25
        refine z_aload rfl rfl rfl ?_
        refine z_iload rfl rfl ?_
        refine z_const rfl ?_
        obtain ⟨r33, hc32, hF⟩ := zbind1 hF
        refine z_inv1 (d' := d - 1) (As := [.inl x2, .inl 0]) rfl rfl (zf_Mo_told (by omega) N _ _ hc32) rfl rfl rfl (by omega) rfl (fun r28 h29 hR30 hQ31 => ?_)
        obtain ⟨rfl, rfl⟩ := hQ31
        refine z_cne rfl (fun c35 => ?_) (fun c35 => ?_)
        · rw [if_neg c35] at hF
          refine z_aload rfl rfl rfl ?_
          refine z_iload rfl rfl ?_
          refine z_const rfl ?_
          refine z_aload rfl rfl rfl ?_
          refine z_iload rfl rfl ?_
          refine z_const rfl ?_
          obtain ⟨r41, hc40, hF⟩ := zbind1 hF
          refine z_inv1 (d' := d - 1) (As := [.inl x2, .inl 5]) rfl rfl (zf_Mo_told (by omega) N _ _ hc40) rfl rfl rfl (by omega) rfl (fun r36 h37 hR38 hQ39 => ?_)
          obtain ⟨rfl, rfl⟩ := hQ39
          refine z_const rfl ?_
          refine z_iadd rfl ?_
          obtain ⟨h47, hc46, hF⟩ := zbind1 hF
          refine z_inv0 (d' := d - 1) (As := [.inl x2, .inl 5, .inl (w32 (r41 + 1))]) rfl rfl (zf_Mo_make (by omega) N _ _ _ hc46) rfl rfl rfl (by omega) rfl (fun r42 h43 hR44 hQ45 => ?_)
          obtain ⟨rfl, rfl⟩ := hQ45
          refine z_aload rfl rfl rfl ?_
          refine z_iload rfl rfl ?_
          refine z_const rfl ?_
          obtain ⟨r53, hc52, hF⟩ := zbind1 hF
          refine z_inv1 (d' := d - 1) (As := [.inl x2, .inl 5]) rfl rfl (zf_Mo_told (by omega) N _ _ hc52) rfl rfl rfl (by omega) rfl (fun r48 h49 hR50 hQ51 => ?_)
          obtain ⟨rfl, rfl⟩ := hQ51
          refine z_const rfl ?_
          refine z_cge rfl (fun c55 => ?_) (fun c55 => ?_)
          · rw [if_pos c55] at hF
            refine z_aload rfl rfl rfl ?_
            refine z_iload rfl rfl ?_
            refine z_const rfl ?_
            refine z_aload rfl rfl rfl ?_
            refine z_iload rfl rfl ?_
            refine z_const rfl ?_
            obtain ⟨r61, hc60, hF⟩ := zbind1 hF
            refine z_inv1 (d' := d - 1) (As := [.inl x2, .inl 4]) rfl rfl (zf_Mo_told (by omega) N _ _ hc60) rfl rfl rfl (by omega) rfl (fun r56 h57 hR58 hQ59 => ?_)
            obtain ⟨rfl, rfl⟩ := hQ59
            obtain ⟨h67, hc66, hF⟩ := zbind1 hF
            refine z_inv0 (d' := d - 1) (As := [.inl x2, .inl 0, .inl r61]) rfl rfl (zf_Mo_make (by omega) N _ _ _ hc66) rfl rfl rfl (by omega) rfl (fun r62 h63 hR64 hQ65 => ?_)
            obtain ⟨rfl, rfl⟩ := hQ65
            refine z_aload rfl rfl rfl ?_
            refine z_iload rfl rfl ?_
            refine z_const rfl ?_
            refine z_const rfl ?_
            obtain ⟨h73, hc72, hF⟩ := zbind1 hF
            refine z_inv0 (d' := d - 1) (As := [.inl x2, .inl 5, .inl 0]) rfl rfl (zf_Mo_make (by omega) N _ _ _ hc72) rfl rfl rfl (by omega) rfl (fun r68 h69 hR70 hQ71 => ?_)
            obtain ⟨rfl, rfl⟩ := hQ71
            refine z_iload rfl rfl ?_
            refine z_const rfl ?_
            refine z_iload rfl rfl ?_
            refine z_ishl rfl ?_
            refine z_ior rfl ?_
            refine z_istore rfl rfl rfl ?_
            refine z_iinc rfl rfl rfl ?_
            refine z_goto rfl ?_
            exact ih _ _ _ hF
          · rw [if_neg c55] at hF
            refine z_goto rfl ?_
            refine z_iinc rfl rfl rfl ?_
            refine z_goto rfl ?_
            exact ih _ _ _ hF
        · rw [if_pos c35] at hF
          refine z_goto rfl ?_
          refine z_iinc rfl rfl rfl ?_
          refine z_goto rfl ?_
          exact ih _ _ _ hF
set_option maxRecDepth 100000 in
set_option maxHeartbeats 4000000 in
theorem zw_Mo_night {l : Launch} {E : zE} {d : Nat} (hd : 3 ≤ d) (N : Nat) {h : zHp} {Q : Int → zHp → Prop} {r0 : Int} {h0 : zHp} (hF : sh_Mo_night N h = some (r0, h0)) (K : Q r0 h0) : zW l E d zm_Mo_night 0 [.inr (.inr 85), zJk, zJk] [] h Q := by
  rw [sh_Mo_night] at hF
  refine z_aload rfl rfl rfl ?_
  obtain ⟨h6, hc5, hF⟩ := zbind1 hF
  refine z_inv0 (d' := d - 1) (As := []) rfl rfl (zf_Mo_keep (by omega) N hc5) rfl rfl rfl (by omega) rfl (fun r1 h2 hR3 hQ4 => ?_)
  obtain ⟨rfl, rfl⟩ := hQ4
  refine z_const rfl ?_
  refine z_istore rfl rfl rfl ?_
  refine z_const rfl ?_
  refine z_istore rfl rfl rfl ?_
  obtain ⟨y75, h76, hL74, hF⟩ := zbind2 hF
  refine zl_Mo_night_L6 (by omega) N ?_ N _ _ _ hL74
  refine z_iload rfl rfl ?_
  obtain ⟨rfl, rfl⟩ := zinj2 hF
  exact z_iret rfl rfl K
set_option maxRecDepth 100000 in
theorem zf_Mo_night {l : Launch} {E : zE} {d : Nat} (hd : 3 ≤ d) (N : Nat) {h : zHp} {r0 : Int} {h0 : zHp} (hF : sh_Mo_night N h = some (r0, h0)) : zC l E d zm_Mo_night [.inr (.inr 85)] h (fun r1 h1 => r0 = r1 ∧ h0 = h1) :=
  zC_of zk_Mo_night (by decide) rfl rfl (Nat.le_of_ble_eq_true rfl) (zw_Mo_night hd N hF ⟨rfl, rfl⟩)
def sh_Herd_readBack_14_18 (x2 : Int) (h : zHp) : zHp := rpart (rpart (sh_Herd_setHour_14 (rget h 19 1420 (w32 (x2 + 0))) h) 16 71 19 1420 3 (w32 (x2 + 3)) (rget (sh_Herd_setHour_14 (rget h 19 1420 (w32 (x2 + 0))) h) 19 1420 (w32 (x2 + 1)))) 16 71 19 1420 7 (w32 (x2 + 7)) (w32 ((rget (rpart (sh_Herd_setHour_14 (rget h 19 1420 (w32 (x2 + 0))) h) 16 71 19 1420 3 (w32 (x2 + 3)) (rget (sh_Herd_setHour_14 (rget h 19 1420 (w32 (x2 + 0))) h) 19 1420 (w32 (x2 + 1)))) 19 1420 (w32 (x2 + 2))) * 8))
set_option maxRecDepth 100000 in
set_option maxHeartbeats 4000000 in
theorem zw_Herd_readBack_14_18 {l : Launch} {E : zE} {d : Nat} (hd : 3 ≤ d) (x2 : Int) {h : zHp} {Q : Int → zHp → Prop} {h0 : zHp} (hF : sh_Herd_readBack_14_18 x2 h = h0) (K : Q 0 h0) : zW l E d zm_Herd_readBack 0 [.inr (.inr 14), .inr (.inr 18), .inl x2, zJk] [] h Q := by
  rw [sh_Herd_readBack_14_18] at hF
  refine z_aload rfl rfl rfl ?_
  refine z_aload rfl rfl rfl ?_
  refine z_iload rfl rfl ?_
  refine z_const rfl ?_
  refine z_iadd rfl ?_
  refine z_inv1 (d' := d - 1) (As := [.inl (w32 (x2 + 0))]) rfl rfl (zf_Row_get (r := 18) (a := 19) (n := 1420) rfl rfl _) rfl rfl rfl (by omega) rfl (fun r1 h2 hR3 hQ4 => ?_)
  obtain ⟨rfl, rfl⟩ := hQ4
  refine z_inv0 (d' := d - 1) (As := [.inl (rget h 19 1420 (w32 (x2 + 0)))]) rfl rfl (zf_Herd_setHour_14 (by omega) _) rfl rfl rfl (by omega) rfl (fun r5 h6 hR7 hQ8 => ?_)
  obtain ⟨rfl, rfl⟩ := hQ8
  refine z_aload rfl rfl rfl ?_
  refine z_getr (r := 15) rfl rfl rfl rfl ?_
  refine z_const rfl ?_
  refine z_aload rfl rfl rfl ?_
  refine z_iload rfl rfl ?_
  refine z_const rfl ?_
  refine z_iadd rfl ?_
  refine z_aload rfl rfl rfl ?_
  refine z_iload rfl rfl ?_
  refine z_const rfl ?_
  refine z_iadd rfl ?_
  refine z_inv1 (d' := d - 1) (As := [.inl (w32 (x2 + 1))]) rfl rfl (zf_Row_get (r := 18) (a := 19) (n := 1420) rfl rfl _) rfl rfl rfl (by omega) rfl (fun r9 h10 hR11 hQ12 => ?_)
  obtain ⟨rfl, rfl⟩ := hQ12
  refine z_inv0 (d' := d - 1) (As := [.inl 3, .inr (.inr 18), .inl (w32 (x2 + 3)), .inl (rget (sh_Herd_setHour_14 (rget h 19 1420 (w32 (x2 + 0))) h) 19 1420 (w32 (x2 + 1)))]) rfl rfl (zf_Row_copyPart (r := 15) (a := 16) (n := 71) (r2 := 18) (b := 19) (m := 1420) rfl rfl rfl rfl (by omega) _ _ _) rfl rfl rfl (by omega) rfl (fun r13 h14 hR15 hQ16 => ?_)
  obtain ⟨rfl, rfl⟩ := hQ16
  refine z_aload rfl rfl rfl ?_
  refine z_iload rfl rfl ?_
  refine z_const rfl ?_
  refine z_iadd rfl ?_
  refine z_inv1 (d' := d - 1) (As := [.inl (w32 (x2 + 2))]) rfl rfl (zf_Row_get (r := 18) (a := 19) (n := 1420) rfl rfl _) rfl rfl rfl (by omega) rfl (fun r17 h18 hR19 hQ20 => ?_)
  obtain ⟨rfl, rfl⟩ := hQ20
  refine z_const rfl ?_
  refine z_imul rfl ?_
  refine z_istore rfl rfl rfl ?_
  refine z_aload rfl rfl rfl ?_
  refine z_getr (r := 15) rfl rfl rfl rfl ?_
  refine z_const rfl ?_
  refine z_aload rfl rfl rfl ?_
  refine z_iload rfl rfl ?_
  refine z_const rfl ?_
  refine z_iadd rfl ?_
  refine z_iload rfl rfl ?_
  refine z_inv0 (d' := d - 1) (As := [.inl 7, .inr (.inr 18), .inl (w32 (x2 + 7)), .inl (w32 ((rget (rpart (sh_Herd_setHour_14 (rget h 19 1420 (w32 (x2 + 0))) h) 16 71 19 1420 3 (w32 (x2 + 3)) (rget (sh_Herd_setHour_14 (rget h 19 1420 (w32 (x2 + 0))) h) 19 1420 (w32 (x2 + 1)))) 19 1420 (w32 (x2 + 2))) * 8))]) rfl rfl (zf_Row_copyPart (r := 15) (a := 16) (n := 71) (r2 := 18) (b := 19) (m := 1420) rfl rfl rfl rfl (by omega) _ _ _) rfl rfl rfl (by omega) rfl (fun r21 h22 hR23 hQ24 => ?_)
  obtain ⟨rfl, rfl⟩ := hQ24
  subst hF
  exact z_ret rfl rfl rfl K
set_option maxRecDepth 100000 in
theorem zf_Herd_readBack_14_18 {l : Launch} {E : zE} {d : Nat} (hd : 3 ≤ d) (x2 : Int) {h : zHp} : zC l E d zm_Herd_readBack [.inr (.inr 14), .inr (.inr 18), .inl x2] h (fun r1 h1 => 0 = r1 ∧ sh_Herd_readBack_14_18 x2 h = h1) :=
  zC_of zk_Herd_readBack (by decide) rfl rfl (Nat.le_of_ble_eq_true rfl) (zw_Herd_readBack_14_18 hd _ rfl ⟨rfl, rfl⟩)
def sh_Steps_takeBack_17_14 (h : zHp) : Option (Int × zHp) := (if h 17 2 = 0 then some ((-1), h) else some (sh_Herd_readBack_14_18 (w32 ((zst (zst h 17 1 (w32 (((w32 ((w32 ((h 17 1) + 20)) - 1))).tmod 20))) 17 2 (w32 ((zst h 17 1 (w32 (((w32 ((w32 ((h 17 1) + 20)) - 1))).tmod 20)) 17 2) - 1)) 17 1) * 71)) (zst (zst h 17 1 (w32 (((w32 ((w32 ((h 17 1) + 20)) - 1))).tmod 20))) 17 2 (w32 ((zst h 17 1 (w32 (((w32 ((w32 ((h 17 1) + 20)) - 1))).tmod 20)) 17 2) - 1))) 17 2, sh_Herd_readBack_14_18 (w32 ((zst (zst h 17 1 (w32 (((w32 ((w32 ((h 17 1) + 20)) - 1))).tmod 20))) 17 2 (w32 ((zst h 17 1 (w32 (((w32 ((w32 ((h 17 1) + 20)) - 1))).tmod 20)) 17 2) - 1)) 17 1) * 71)) (zst (zst h 17 1 (w32 (((w32 ((w32 ((h 17 1) + 20)) - 1))).tmod 20))) 17 2 (w32 ((zst h 17 1 (w32 (((w32 ((w32 ((h 17 1) + 20)) - 1))).tmod 20)) 17 2) - 1)))))
set_option maxRecDepth 100000 in
set_option maxHeartbeats 4000000 in
theorem zw_Steps_takeBack_17_14 {l : Launch} {E : zE} {d : Nat} (hd : 4 ≤ d) {h : zHp} {Q : Int → zHp → Prop} {r0 : Int} {h0 : zHp} (hF : sh_Steps_takeBack_17_14 h = some (r0, h0)) (K : Q r0 h0) : zW l E d zm_Steps_takeBack 0 [.inr (.inr 17), .inr (.inr 14)] [] h Q := by
  rw [sh_Steps_takeBack_17_14] at hF
  refine z_aload rfl rfl rfl ?_
  refine z_geti rfl rfl rfl rfl ?_
  refine z_zne rfl (fun c1 => ?_) (fun c1 => ?_)
  · rw [if_neg c1] at hF
    refine z_aload rfl rfl rfl ?_
    refine z_aload rfl rfl rfl ?_
    refine z_geti rfl rfl rfl rfl ?_
    refine z_const rfl ?_
    refine z_iadd rfl ?_
    refine z_const rfl ?_
    refine z_isub rfl ?_
    refine z_const rfl ?_
    refine z_irem rfl (by decide) ?_
    refine z_puti rfl rfl rfl rfl ?_
    refine z_aload rfl rfl rfl ?_
    refine z_dup rfl rfl ?_
    refine z_geti rfl rfl rfl rfl ?_
    refine z_const rfl ?_
    refine z_isub rfl ?_
    refine z_puti rfl rfl rfl rfl ?_
    refine z_aload rfl rfl rfl ?_
    refine z_aload rfl rfl rfl ?_
    refine z_getr (r := 18) rfl rfl rfl rfl ?_
    refine z_aload rfl rfl rfl ?_
    refine z_geti rfl rfl rfl rfl ?_
    refine z_const rfl ?_
    refine z_imul rfl ?_
    refine z_inv0 (d' := d - 1) (As := [.inr (.inr 18), .inl (w32 ((zst (zst h 17 1 (w32 (((w32 ((w32 ((h 17 1) + 20)) - 1))).tmod 20))) 17 2 (w32 ((zst h 17 1 (w32 (((w32 ((w32 ((h 17 1) + 20)) - 1))).tmod 20)) 17 2) - 1)) 17 1) * 71))]) rfl rfl (zf_Herd_readBack_14_18 (by omega) _) rfl rfl rfl (by omega) rfl (fun r2 h3 hR4 hQ5 => ?_)
    obtain ⟨rfl, rfl⟩ := hQ5
    refine z_aload rfl rfl rfl ?_
    refine z_geti rfl rfl rfl rfl ?_
    obtain ⟨rfl, rfl⟩ := zinj2 hF
    exact z_iret rfl rfl K
  · rw [if_pos c1] at hF
    refine z_const rfl ?_
    obtain ⟨rfl, rfl⟩ := zinj2 hF
    exact z_iret rfl rfl K
set_option maxRecDepth 100000 in
theorem zf_Steps_takeBack_17_14 {l : Launch} {E : zE} {d : Nat} (hd : 4 ≤ d) {h : zHp} {r0 : Int} {h0 : zHp} (hF : sh_Steps_takeBack_17_14 h = some (r0, h0)) : zC l E d zm_Steps_takeBack [.inr (.inr 17), .inr (.inr 14)] h (fun r1 h1 => r0 = r1 ∧ h0 = h1) :=
  zC_of zk_Steps_takeBack (by decide) rfl rfl (Nat.le_of_ble_eq_true rfl) (zw_Steps_takeBack_17_14 hd hF ⟨rfl, rfl⟩)
def sh_Ox_undo (h : zHp) : Option (Int × zHp) := zb2 (sh_Steps_takeBack_17_14 h) fun r6 h7 => some (r6, h7)
set_option maxRecDepth 100000 in
set_option maxHeartbeats 4000000 in
theorem zw_Ox_undo {l : Launch} {E : zE} {d : Nat} (hd : 5 ≤ d) {h : zHp} {Q : Int → zHp → Prop} {r0 : Int} {h0 : zHp} (hF : sh_Ox_undo h = some (r0, h0)) (K : Q r0 h0) : zW l E d zm_Ox_undo 0 [.inr (.inr 0)] [] h Q := by
  rw [sh_Ox_undo] at hF
  refine z_aload rfl rfl rfl ?_
  refine z_getr (r := 1) rfl rfl rfl rfl ?_
  refine z_getr (r := 17) rfl rfl rfl rfl ?_
  refine z_aload rfl rfl rfl ?_
  refine z_getr (r := 1) rfl rfl rfl rfl ?_
  refine z_getr (r := 14) rfl rfl rfl rfl ?_
  obtain ⟨r6, h7, hc5, hF⟩ := zbind2 hF
  refine z_inv1 (d' := d - 1) (As := [.inr (.inr 14)]) rfl rfl (zf_Steps_takeBack_17_14 (by omega) hc5) rfl rfl rfl (by omega) rfl (fun r1 h2 hR3 hQ4 => ?_)
  obtain ⟨rfl, rfl⟩ := hQ4
  obtain ⟨rfl, rfl⟩ := zinj2 hF
  exact z_iret rfl rfl K
set_option maxRecDepth 100000 in
theorem zf_Ox_undo {l : Launch} {E : zE} {d : Nat} (hd : 5 ≤ d) {h : zHp} {r0 : Int} {h0 : zHp} (hF : sh_Ox_undo h = some (r0, h0)) : zC l E d zm_Ox_undo [.inr (.inr 0)] h (fun r1 h1 => r0 = r1 ∧ h0 = h1) :=
  zC_of zk_Ox_undo (by decide) rfl rfl (Nat.le_of_ble_eq_true rfl) (zw_Ox_undo hd hF ⟨rfl, rfl⟩)
def sh_Mo_undo_L34 (N : Nat) : Nat → Int → Int → zHp → Option (Int × zHp)
  | 0, _, _, _ => none
  | n + 1, x1, x2, h => if 0 ≤ w32 (x1 + 1) ∧ w32 (x1 + 1) < 1061 then if h 86 (w32 (x1 + 1)).toNat ≤ x2 then some (x1, h) else if 0 ≤ w32 ((w32 (x1 + 3)) + x2) ∧ w32 ((w32 (x1 + 3)) + x2) < 1061 then if 0 ≤ w32 ((w32 (25 + (w32 (4 * x2)))) + 3) ∧ w32 ((w32 (25 + (w32 (4 * x2)))) + 3) < 1061 then sh_Mo_undo_L34 N n x1 (w32 (x2 + 1)) (zst h 86 (w32 ((w32 (25 + (w32 (4 * x2)))) + 3)).toNat (h 86 (w32 ((w32 (x1 + 3)) + x2)).toNat)) else none else none else none
def sh_Mo_undo_L88 (N : Nat) : Nat → Int → Int → Int → zHp → Option (Int × Int × zHp)
  | 0, _, _, _, _ => none
  | n + 1, x1, x2, x3, h => (if 5 ≤ x3 then some (x1, x2, h) else if 0 ≤ w32 ((w32 ((w32 (x1 + 7)) + (w32 (5 * x2)))) + x3) ∧ w32 ((w32 ((w32 (x1 + 7)) + (w32 (5 * x2)))) + x3) < 1061 then zb1 (sh_Mo_make N x2 (w32 ((w32 (4 + x3)) - 1)) (h 86 (w32 ((w32 ((w32 (x1 + 7)) + (w32 (5 * x2)))) + x3)).toNat) h) fun h26 => sh_Mo_undo_L88 N n x1 x2 (w32 (x3 + 1)) h26 else none)
def sh_Mo_undo_L64 (N : Nat) : Nat → Int → Int → zHp → Option (zHp)
  | 0, _, _, _ => none
  | n + 1, x1, x2, h => if 0 ≤ w32 (x1 + 2) ∧ w32 (x1 + 2) < 1061 then if h 86 (w32 (x1 + 2)).toNat ≤ x2 then some h else if 0 ≤ w32 ((w32 (x1 + 7)) + (w32 (5 * x2))) ∧ w32 ((w32 (x1 + 7)) + (w32 (5 * x2))) < 1061 then zb1 (sh_Mo_make N x2 0 (h 86 (w32 ((w32 (x1 + 7)) + (w32 (5 * x2)))).toNat) h) fun h18 => zb3 (sh_Mo_undo_L88 N N x1 x2 1 h18) fun y28 y29 h30 => sh_Mo_undo_L64 N n y28 (w32 (y29 + 1)) h30 else none else none
def sh_Mo_undo (N : Nat) (h : zHp) : Option (Int × zHp) := (if h 86 7 = 0 then some ((-1), h) else if 0 ≤ w32 (121 + (w32 (47 * ((zst h 86 7 (w32 ((h 86 7) - 1))) 86 7)))) ∧ w32 (121 + (w32 (47 * ((zst h 86 7 (w32 ((h 86 7) - 1))) 86 7)))) < 1061 then zb2 (sh_Mo_undo_L34 N N (w32 (121 + (w32 (47 * ((zst h 86 7 (w32 ((h 86 7) - 1))) 86 7))))) 0 (zst (zst h 86 7 (w32 ((h 86 7) - 1))) 86 3 ((zst h 86 7 (w32 ((h 86 7) - 1))) 86 (w32 (121 + (w32 (47 * ((zst h 86 7 (w32 ((h 86 7) - 1))) 86 7))))).toNat))) fun y8 h9 => zb1 (sh_Mo_undo_L64 N N y8 0 h9) fun h32 => some (h32 86 7, h32) else none)
set_option maxRecDepth 100000 in
set_option maxHeartbeats 4000000 in
theorem zl_Mo_undo_L34 {l : Launch} {E : zE} {d : Nat} (hd : 2 ≤ d) (N : Nat) {Q : Int → zHp → Prop} {o1 : Int} {oh : zHp} (K1 : zW l E d zm_Mo_undo 62 [.inr (.inr 85), .inl o1, zJk, zJk] [] oh Q) : ∀ (n : Nat) (x1 x2 : Int) (h : zHp), sh_Mo_undo_L34 N n x1 x2 h = some (o1, oh) → zW l E d zm_Mo_undo 34 [.inr (.inr 85), .inl x1, .inl x2, zJk] [] h Q := by
  intro n
  induction n with
  | zero =>
    intro x1 x2 h hF
    cases (show (none : Option (Int × zHp)) = some (o1, oh) from hF)
  | succ n ih =>
    intro x1 x2 h hF
    rw [sh_Mo_undo_L34] at hF
    refine z_iload rfl rfl ?_
    refine z_aload rfl rfl rfl ?_
    refine z_getr (r := 86) rfl rfl rfl rfl ?_
    refine z_iload rfl rfl ?_
    refine z_const rfl ?_
    refine z_iadd rfl ?_
    obtain ⟨g3, hF⟩ := zguard hF
    refine z_iald rfl rfl g3.1 g3.2 ?_
    refine z_cge rfl (fun c4 => ?_) (fun c4 => ?_)
    · rw [if_pos c4] at hF
      refine zsubL (L' := [.inr (.inr 85), .inl x1, zJk, zJk]) ⟨Or.inl rfl, Or.inl rfl, Or.inr rfl, Or.inl rfl, trivial⟩ ?_
      obtain ⟨rfl, rfl⟩ := zinj2 hF
      exact K1
    · rw [if_neg c4] at hF
      refine z_aload rfl rfl rfl ?_
      refine z_getr (r := 86) rfl rfl rfl rfl ?_
      refine z_const rfl ?_
      refine z_const rfl ?_
      refine z_iload rfl rfl ?_
      refine z_imul rfl ?_
      refine z_iadd rfl ?_
      refine z_const rfl ?_
      refine z_iadd rfl ?_
      refine z_aload rfl rfl rfl ?_
      refine z_getr (r := 86) rfl rfl rfl rfl ?_
      refine z_iload rfl rfl ?_
      refine z_const rfl ?_
      refine z_iadd rfl ?_
      refine z_iload rfl rfl ?_
      refine z_iadd rfl ?_
      obtain ⟨g5, hF⟩ := zguard hF
      refine z_iald rfl rfl g5.1 g5.2 ?_
      obtain ⟨g6, hF⟩ := zguard hF
      refine z_iast rfl rfl g6.1 g6.2 ?_
      refine z_iinc rfl rfl rfl ?_
      refine z_goto rfl ?_
      exact ih _ _ _ hF
set_option maxRecDepth 100000 in
set_option maxHeartbeats 4000000 in
theorem zl_Mo_undo_L88 {l : Launch} {E : zE} {d : Nat} (hd : 2 ≤ d) (N : Nat) {Q : Int → zHp → Prop} {o1 o2 : Int} {oh : zHp} (K1 : zW l E d zm_Mo_undo 113 [.inr (.inr 85), .inl o1, .inl o2, zJk] [] oh Q) : ∀ (n : Nat) (x1 x2 x3 : Int) (h : zHp), sh_Mo_undo_L88 N n x1 x2 x3 h = some (o1, o2, oh) → zW l E d zm_Mo_undo 88 [.inr (.inr 85), .inl x1, .inl x2, .inl x3] [] h Q := by
  intro n
  induction n with
  | zero =>
    intro x1 x2 x3 h hF
    cases (show (none : Option (Int × Int × zHp)) = some (o1, o2, oh) from hF)
  | succ n ih =>
    intro x1 x2 x3 h hF
    rw [sh_Mo_undo_L88] at hF
    refine z_iload rfl rfl ?_
    refine z_const rfl ?_
    refine z_cge rfl (fun c19 => ?_) (fun c19 => ?_)
    · rw [if_pos c19] at hF
      refine zsubL (L' := [.inr (.inr 85), .inl x1, .inl x2, zJk]) ⟨Or.inl rfl, Or.inl rfl, Or.inl rfl, Or.inr rfl, trivial⟩ ?_
      obtain ⟨rfl, rfl, rfl⟩ := zinj3 hF
      exact K1
    · rw [if_neg c19] at hF
      refine z_aload rfl rfl rfl ?_
      refine z_iload rfl rfl ?_
      refine z_const rfl ?_
      refine z_iload rfl rfl ?_
      refine z_iadd rfl ?_
      refine z_const rfl ?_
      refine z_isub rfl ?_
      refine z_aload rfl rfl rfl ?_
      refine z_getr (r := 86) rfl rfl rfl rfl ?_
      refine z_iload rfl rfl ?_
      refine z_const rfl ?_
      refine z_iadd rfl ?_
      refine z_const rfl ?_
      refine z_iload rfl rfl ?_
      refine z_imul rfl ?_
      refine z_iadd rfl ?_
      refine z_iload rfl rfl ?_
      refine z_iadd rfl ?_
      obtain ⟨g20, hF⟩ := zguard hF
      refine z_iald rfl rfl g20.1 g20.2 ?_
      obtain ⟨h26, hc25, hF⟩ := zbind1 hF
      refine z_inv0 (d' := d - 1) (As := [.inl x2, .inl (w32 ((w32 (4 + x3)) - 1)), .inl (h 86 (w32 ((w32 ((w32 (x1 + 7)) + (w32 (5 * x2)))) + x3)).toNat)]) rfl rfl (zf_Mo_make (by omega) N _ _ _ hc25) rfl rfl rfl (by omega) rfl (fun r21 h22 hR23 hQ24 => ?_)
      obtain ⟨rfl, rfl⟩ := hQ24
      refine z_iinc rfl rfl rfl ?_
      refine z_goto rfl ?_
      exact ih _ _ _ _ hF
set_option maxRecDepth 100000 in
set_option maxHeartbeats 4000000 in
theorem zl_Mo_undo_L64 {l : Launch} {E : zE} {d : Nat} (hd : 2 ≤ d) (N : Nat) {Q : Int → zHp → Prop} {oh : zHp} (K1 : zW l E d zm_Mo_undo 115 [.inr (.inr 85), zJk, zJk, zJk] [] oh Q) : ∀ (n : Nat) (x1 x2 : Int) (h : zHp), sh_Mo_undo_L64 N n x1 x2 h = some oh → zW l E d zm_Mo_undo 64 [.inr (.inr 85), .inl x1, .inl x2, zJk] [] h Q := by
  intro n
  induction n with
  | zero =>
    intro x1 x2 h hF
    cases (show (none : Option (zHp)) = some oh from hF)
  | succ n ih =>
    intro x1 x2 h hF
    rw [sh_Mo_undo_L64] at hF
    refine z_iload rfl rfl ?_
    refine z_aload rfl rfl rfl ?_
    refine z_getr (r := 86) rfl rfl rfl rfl ?_
    refine z_iload rfl rfl ?_
    refine z_const rfl ?_
    refine z_iadd rfl ?_
    obtain ⟨g10, hF⟩ := zguard hF
    refine z_iald rfl rfl g10.1 g10.2 ?_
    refine z_cge rfl (fun c11 => ?_) (fun c11 => ?_)
    · rw [if_pos c11] at hF
      refine zsubL (L' := [.inr (.inr 85), zJk, zJk, zJk]) ⟨Or.inl rfl, Or.inr rfl, Or.inr rfl, Or.inl rfl, trivial⟩ ?_
      obtain rfl := Option.some.inj hF
      exact K1
    · rw [if_neg c11] at hF
      refine z_aload rfl rfl rfl ?_
      refine z_iload rfl rfl ?_
      refine z_const rfl ?_
      refine z_aload rfl rfl rfl ?_
      refine z_getr (r := 86) rfl rfl rfl rfl ?_
      refine z_iload rfl rfl ?_
      refine z_const rfl ?_
      refine z_iadd rfl ?_
      refine z_const rfl ?_
      refine z_iload rfl rfl ?_
      refine z_imul rfl ?_
      refine z_iadd rfl ?_
      obtain ⟨g12, hF⟩ := zguard hF
      refine z_iald rfl rfl g12.1 g12.2 ?_
      obtain ⟨h18, hc17, hF⟩ := zbind1 hF
      refine z_inv0 (d' := d - 1) (As := [.inl x2, .inl 0, .inl (h 86 (w32 ((w32 (x1 + 7)) + (w32 (5 * x2)))).toNat)]) rfl rfl (zf_Mo_make (by omega) N _ _ _ hc17) rfl rfl rfl (by omega) rfl (fun r13 h14 hR15 hQ16 => ?_)
      obtain ⟨rfl, rfl⟩ := hQ16
      refine z_const rfl ?_
      refine z_istore rfl rfl rfl ?_
      obtain ⟨y28, y29, h30, hL27, hF⟩ := zbind3 hF
      refine zl_Mo_undo_L88 (by omega) N ?_ N _ _ _ _ hL27
      refine z_iinc rfl rfl rfl ?_
      refine z_goto rfl ?_
      exact ih _ _ _ hF
set_option maxRecDepth 100000 in
set_option maxHeartbeats 4000000 in
theorem zw_Mo_undo {l : Launch} {E : zE} {d : Nat} (hd : 2 ≤ d) (N : Nat) {h : zHp} {Q : Int → zHp → Prop} {r0 : Int} {h0 : zHp} (hF : sh_Mo_undo N h = some (r0, h0)) (K : Q r0 h0) : zW l E d zm_Mo_undo 0 [.inr (.inr 85), zJk, zJk, zJk] [] h Q := by
  rw [sh_Mo_undo] at hF
  refine z_aload rfl rfl rfl ?_
  refine z_getr (r := 86) rfl rfl rfl rfl ?_
  refine z_const rfl ?_
  refine z_ialdc 7 rfl rfl rfl (by decide) ?_
  refine z_zne rfl (fun c1 => ?_) (fun c1 => ?_)
  · rw [if_neg c1] at hF
    refine z_aload rfl rfl rfl ?_
    refine z_getr (r := 86) rfl rfl rfl rfl ?_
    refine z_const rfl ?_
    refine z_dup2 rfl rfl rfl ?_
    refine z_ialdc 7 rfl rfl rfl (by decide) ?_
    refine z_const rfl ?_
    refine z_isub rfl ?_
    refine z_iastc 7 rfl rfl rfl (by decide) ?_
    refine z_const rfl ?_
    refine z_const rfl ?_
    refine z_aload rfl rfl rfl ?_
    refine z_getr (r := 86) rfl rfl rfl rfl ?_
    refine z_const rfl ?_
    refine z_ialdc 7 rfl rfl rfl (by decide) ?_
    refine z_imul rfl ?_
    refine z_iadd rfl ?_
    refine z_istore rfl rfl rfl ?_
    refine z_aload rfl rfl rfl ?_
    refine z_getr (r := 86) rfl rfl rfl rfl ?_
    refine z_const rfl ?_
    refine z_aload rfl rfl rfl ?_
    refine z_getr (r := 86) rfl rfl rfl rfl ?_
    refine z_iload rfl rfl ?_
    obtain ⟨g2, hF⟩ := zguard hF
    refine z_iald rfl rfl g2.1 g2.2 ?_
    refine z_iastc 3 rfl rfl rfl (by decide) ?_
    refine z_const rfl ?_
    refine z_istore rfl rfl rfl ?_
    obtain ⟨y8, h9, hL7, hF⟩ := zbind2 hF
    refine zl_Mo_undo_L34 (by omega) N ?_ N _ _ _ hL7
    refine z_const rfl ?_
    refine z_istore rfl rfl rfl ?_
    obtain ⟨h32, hL31, hF⟩ := zbind1 hF
    refine zl_Mo_undo_L64 (by omega) N ?_ N _ _ _ hL31
    refine z_aload rfl rfl rfl ?_
    refine z_getr (r := 86) rfl rfl rfl rfl ?_
    refine z_const rfl ?_
    refine z_ialdc 7 rfl rfl rfl (by decide) ?_
    obtain ⟨rfl, rfl⟩ := zinj2 hF
    exact z_iret rfl rfl K
  · rw [if_pos c1] at hF
    refine z_const rfl ?_
    obtain ⟨rfl, rfl⟩ := zinj2 hF
    exact z_iret rfl rfl K
set_option maxRecDepth 100000 in
theorem zf_Mo_undo {l : Launch} {E : zE} {d : Nat} (hd : 2 ≤ d) (N : Nat) {h : zHp} {r0 : Int} {h0 : zHp} (hF : sh_Mo_undo N h = some (r0, h0)) : zC l E d zm_Mo_undo [.inr (.inr 85)] h (fun r1 h1 => r0 = r1 ∧ h0 = h1) :=
  zC_of zk_Mo_undo (by decide) rfl rfl (Nat.le_of_ble_eq_true rfl) (zw_Mo_undo hd N hF ⟨rfl, rfl⟩)
def sh_Ox_of (x1 x2 : Int) (h : zHp) : Int := (if sh_Ox_isOx x1 h = 0 then (-2) else (if sh_Ox_within x2 0 7 = 0 then (-2) else sh_Herd_get_14 x1 x2 h : Int) : Int)
set_option maxRecDepth 100000 in
set_option maxHeartbeats 4000000 in
theorem zw_Ox_of {l : Launch} {E : zE} {d : Nat} (hd : 4 ≤ d) (x1 x2 : Int) {h : zHp} {Q : Int → zHp → Prop} {r0 : Int} (hF : sh_Ox_of x1 x2 h = r0) (K : Q r0 h) : zW l E d zm_Ox_of 0 [.inr (.inr 0), .inl x1, .inl x2] [] h Q := by
  rw [sh_Ox_of] at hF
  refine z_aload rfl rfl rfl ?_
  refine z_iload rfl rfl ?_
  refine z_inv1 (d' := d - 1) (As := [.inl x1]) rfl rfl (zf_Ox_isOx (by omega) _) rfl rfl rfl (by omega) rfl (fun r1 h2 hR3 hQ4 => ?_)
  obtain ⟨rfl, rfl⟩ := hQ4
  have hJ15 : zW l E d zm_Ox_of 17 [zJk, zJk, zJk] [.inl (if sh_Ox_isOx x1 h = 0 then (-2) else (if sh_Ox_within x2 0 7 = 0 then (-2) else sh_Herd_get_14 x1 x2 h : Int) : Int)] h Q := by
    subst hF
    exact z_iret rfl rfl K
  refine z_zeq rfl (fun c5 => ?_) (fun c5 => ?_)
  · refine z_const rfl ?_
    refine zsubL (L' := [zJk, zJk, zJk]) ⟨Or.inr rfl, Or.inr rfl, Or.inr rfl, trivial⟩ ?_
    exact zcast (by first | rfl | (simp only [if_pos c5] <;> rfl)) (by first | rfl | (simp only [if_pos c5] <;> rfl)) hJ15
  · refine z_iload rfl rfl ?_
    refine z_const rfl ?_
    refine z_const rfl ?_
    refine z_ivs1 (d' := d - 1) (As := [.inl x2, .inl 0, .inl 7]) rfl rfl (zf_Ox_within (by omega) _ _ _) rfl (by omega) rfl (fun r6 h7 hR8 hQ9 => ?_)
    obtain ⟨rfl, rfl⟩ := hQ9
    refine z_zeq rfl (fun c10 => ?_) (fun c10 => ?_)
    · refine z_const rfl ?_
      refine zsubL (L' := [zJk, zJk, zJk]) ⟨Or.inr rfl, Or.inr rfl, Or.inr rfl, trivial⟩ ?_
      exact zcast (by first | rfl | (simp only [if_neg c5, if_pos c10] <;> rfl)) (by first | rfl | (simp only [if_neg c5, if_pos c10] <;> rfl)) hJ15
    · refine z_aload rfl rfl rfl ?_
      refine z_getr (r := 1) rfl rfl rfl rfl ?_
      refine z_getr (r := 14) rfl rfl rfl rfl ?_
      refine z_iload rfl rfl ?_
      refine z_iload rfl rfl ?_
      refine z_inv1 (d' := d - 1) (As := [.inl x1, .inl x2]) rfl rfl (zf_Herd_get_14 (by omega) _ _) rfl rfl rfl (by omega) rfl (fun r11 h12 hR13 hQ14 => ?_)
      obtain ⟨rfl, rfl⟩ := hQ14
      refine z_goto rfl ?_
      refine zsubL (L' := [zJk, zJk, zJk]) ⟨Or.inr rfl, Or.inr rfl, Or.inr rfl, trivial⟩ ?_
      exact zcast (by first | rfl | (simp only [if_neg c5, if_neg c10] <;> rfl)) (by first | rfl | (simp only [if_neg c5, if_neg c10] <;> rfl)) hJ15
set_option maxRecDepth 100000 in
theorem zf_Ox_of {l : Launch} {E : zE} {d : Nat} (hd : 4 ≤ d) (x1 x2 : Int) {h : zHp} : zC l E d zm_Ox_of [.inr (.inr 0), .inl x1, .inl x2] h (fun r1 h1 => sh_Ox_of x1 x2 h = r1 ∧ h = h1) :=
  zC_of zk_Ox_of (by decide) rfl rfl (Nat.le_of_ble_eq_true rfl) (zw_Ox_of hd _ _ rfl ⟨rfl, rfl⟩)
def sh_Mo_of (N : Nat) (x1 x2 : Int) (h : zHp) : Option Int := (if sh_Mo_isOx x1 h = 0 then some (-2) else (if sh_Mo_isIn x2 0 7 = 0 then some (-2) else zb1 (sh_Mo_told N x1 x2 h) fun r23 => some r23))
set_option maxRecDepth 100000 in
set_option maxHeartbeats 4000000 in
theorem zw_Mo_of {l : Launch} {E : zE} {d : Nat} (hd : 3 ≤ d) (N : Nat) (x1 x2 : Int) {h : zHp} {Q : Int → zHp → Prop} {r0 : Int} (hF : sh_Mo_of N x1 x2 h = some r0) (K : Q r0 h) : zW l E d zm_Mo_of 0 [.inr (.inr 85), .inl x1, .inl x2] [] h Q := by
  rw [sh_Mo_of] at hF
  refine z_aload rfl rfl rfl ?_
  refine z_iload rfl rfl ?_
  refine z_inv1 (d' := d - 1) (As := [.inl x1]) rfl rfl (zf_Mo_isOx (by omega) _) rfl rfl rfl (by omega) rfl (fun r1 h2 hR3 hQ4 => ?_)
  obtain ⟨rfl, rfl⟩ := hQ4
  refine z_zeq rfl (fun c11 => ?_) (fun c11 => ?_)
  · rw [if_pos c11] at hF
    refine z_const rfl ?_
    obtain rfl := Option.some.inj hF
    exact z_iret rfl rfl K
  · rw [if_neg c11] at hF
    refine z_iload rfl rfl ?_
    refine z_const rfl ?_
    refine z_const rfl ?_
    refine z_ivs1 (d' := d - 1) (As := [.inl x2, .inl 0, .inl 7]) rfl rfl (zf_Mo_isIn (by omega) _ _ _) rfl (by omega) rfl (fun r12 h13 hR14 hQ15 => ?_)
    obtain ⟨rfl, rfl⟩ := hQ15
    refine z_zeq rfl (fun c17 => ?_) (fun c17 => ?_)
    · rw [if_pos c17] at hF
      refine z_const rfl ?_
      obtain rfl := Option.some.inj hF
      exact z_iret rfl rfl K
    · rw [if_neg c17] at hF
      refine z_aload rfl rfl rfl ?_
      refine z_iload rfl rfl ?_
      refine z_iload rfl rfl ?_
      obtain ⟨r23, hc22, hF⟩ := zbind1 hF
      refine z_inv1 (d' := d - 1) (As := [.inl x1, .inl x2]) rfl rfl (zf_Mo_told (by omega) N _ _ hc22) rfl rfl rfl (by omega) rfl (fun r18 h19 hR20 hQ21 => ?_)
      obtain ⟨rfl, rfl⟩ := hQ21
      refine z_goto rfl ?_
      obtain rfl := Option.some.inj hF
      exact z_iret rfl rfl K
set_option maxRecDepth 100000 in
theorem zf_Mo_of {l : Launch} {E : zE} {d : Nat} (hd : 3 ≤ d) (N : Nat) (x1 x2 : Int) {h : zHp} {r0 : Int} (hF : sh_Mo_of N x1 x2 h = some r0) : zC l E d zm_Mo_of [.inr (.inr 85), .inl x1, .inl x2] h (fun r1 h1 => r0 = r1 ∧ h = h1) :=
  zC_of zk_Mo_of (by decide) rfl rfl (Nat.le_of_ble_eq_true rfl) (zw_Mo_of hd N _ _ hF ⟨rfl, rfl⟩)
def sh_Ox_heeds (N : Nat) (x1 x2 x3 x4 x5 : Int) (h : zHp) : Option (Int × zHp) := (if sh_Ox_isOx x1 h = 0 then some (0, h) else (if sh_Ox_isFarm x2 h = 0 then some (0, h) else (if sh_Ox_isDigit x3 = 0 then some (0, h) else (if sh_Ox_isField x4 h = 0 then some (0, h) else zb2 (sh_Laws_heeded N (sh_Laws_ask x1 x2 x3 x4 x5 (sh_Herd_hour_14 h) h)) fun r34 h35 => some (r34, h35)))))
set_option maxRecDepth 100000 in
set_option maxHeartbeats 4000000 in
theorem zw_Ox_heeds {l : Launch} {E : zE} {d : Nat} (hd : 4 ≤ d) (N : Nat) (x1 x2 x3 x4 x5 : Int) {h : zHp} {Q : Int → zHp → Prop} {r0 : Int} {h0 : zHp} (hF : sh_Ox_heeds N x1 x2 x3 x4 x5 h = some (r0, h0)) (K : Q r0 h0) : zW l E d zm_Ox_heeds 0 [.inr (.inr 0), .inl x1, .inl x2, .inl x3, .inl x4, .inl x5] [] h Q := by
  rw [sh_Ox_heeds] at hF
  refine z_aload rfl rfl rfl ?_
  refine z_iload rfl rfl ?_
  refine z_inv1 (d' := d - 1) (As := [.inl x1]) rfl rfl (zf_Ox_isOx (by omega) _) rfl rfl rfl (by omega) rfl (fun r1 h2 hR3 hQ4 => ?_)
  obtain ⟨rfl, rfl⟩ := hQ4
  refine z_zeq rfl (fun c5 => ?_) (fun c5 => ?_)
  · rw [if_pos c5] at hF
    refine z_const rfl ?_
    obtain ⟨rfl, rfl⟩ := zinj2 hF
    exact z_zret rfl rfl (Or.inl rfl) K
  · rw [if_neg c5] at hF
    refine z_aload rfl rfl rfl ?_
    refine z_iload rfl rfl ?_
    refine z_inv1 (d' := d - 1) (As := [.inl x2]) rfl rfl (zf_Ox_isFarm (by omega) _) rfl rfl rfl (by omega) rfl (fun r6 h7 hR8 hQ9 => ?_)
    obtain ⟨rfl, rfl⟩ := hQ9
    refine z_zeq rfl (fun c10 => ?_) (fun c10 => ?_)
    · rw [if_pos c10] at hF
      refine z_const rfl ?_
      obtain ⟨rfl, rfl⟩ := zinj2 hF
      exact z_zret rfl rfl (Or.inl rfl) K
    · rw [if_neg c10] at hF
      refine z_iload rfl rfl ?_
      refine z_ivs1 (d' := d - 1) (As := [.inl x3]) rfl rfl (zf_Ox_isDigit (by omega) _) rfl (by omega) rfl (fun r11 h12 hR13 hQ14 => ?_)
      obtain ⟨rfl, rfl⟩ := hQ14
      refine z_zeq rfl (fun c15 => ?_) (fun c15 => ?_)
      · rw [if_pos c15] at hF
        refine z_const rfl ?_
        obtain ⟨rfl, rfl⟩ := zinj2 hF
        exact z_zret rfl rfl (Or.inl rfl) K
      · rw [if_neg c15] at hF
        refine z_aload rfl rfl rfl ?_
        refine z_iload rfl rfl ?_
        refine z_inv1 (d' := d - 1) (As := [.inl x4]) rfl rfl (zf_Ox_isField (by omega) _) rfl rfl rfl (by omega) rfl (fun r16 h17 hR18 hQ19 => ?_)
        obtain ⟨rfl, rfl⟩ := hQ19
        refine z_zne rfl (fun c20 => ?_) (fun c20 => ?_)
        · rw [if_neg c20] at hF
          refine z_aload rfl rfl rfl ?_
          refine z_getr (r := 33) rfl rfl rfl rfl ?_
          refine z_iload rfl rfl ?_
          refine z_iload rfl rfl ?_
          refine z_iload rfl rfl ?_
          refine z_iload rfl rfl ?_
          refine z_iload rfl rfl ?_
          refine z_aload rfl rfl rfl ?_
          refine z_getr (r := 1) rfl rfl rfl rfl ?_
          refine z_getr (r := 14) rfl rfl rfl rfl ?_
          refine z_inv1 (d' := d - 1) (As := []) rfl rfl (zf_Herd_hour_14 (by omega)) rfl rfl rfl (by omega) rfl (fun r21 h22 hR23 hQ24 => ?_)
          obtain ⟨rfl, rfl⟩ := hQ24
          refine z_inv0 (d' := d - 1) (As := [.inl x1, .inl x2, .inl x3, .inl x4, .inl x5, .inl (sh_Herd_hour_14 h)]) rfl rfl (zf_Laws_ask (by omega) _ _ _ _ _ _) rfl rfl rfl (by omega) rfl (fun r25 h26 hR27 hQ28 => ?_)
          obtain ⟨rfl, rfl⟩ := hQ28
          refine z_aload rfl rfl rfl ?_
          refine z_getr (r := 33) rfl rfl rfl rfl ?_
          obtain ⟨r34, h35, hc33, hF⟩ := zbind2 hF
          refine z_inv1 (d' := d - 1) (As := []) rfl rfl (zf_Laws_heeded (by omega) N hc33) rfl rfl rfl (by omega) rfl (fun r29 h30 hR31 hQ32 => ?_)
          obtain ⟨rfl, rfl⟩ := hQ32
          obtain ⟨rfl, rfl⟩ := zinj2 hF
          exact z_zret rfl rfl (zRr_z rfl hR31) K
        · rw [if_pos c20] at hF
          refine z_const rfl ?_
          obtain ⟨rfl, rfl⟩ := zinj2 hF
          exact z_zret rfl rfl (Or.inl rfl) K
set_option maxRecDepth 100000 in
theorem zf_Ox_heeds {l : Launch} {E : zE} {d : Nat} (hd : 4 ≤ d) (N : Nat) (x1 x2 x3 x4 x5 : Int) {h : zHp} {r0 : Int} {h0 : zHp} (hF : sh_Ox_heeds N x1 x2 x3 x4 x5 h = some (r0, h0)) : zC l E d zm_Ox_heeds [.inr (.inr 0), .inl x1, .inl x2, .inl x3, .inl x4, .inl x5] h (fun r1 h1 => r0 = r1 ∧ h0 = h1) :=
  zC_of zk_Ox_heeds (by decide) rfl rfl (Nat.le_of_ble_eq_true rfl) (zw_Ox_heeds hd N _ _ _ _ _ hF ⟨rfl, rfl⟩)
def sh_Mo_heeds (N : Nat) (x1 x2 x3 x4 x5 : Int) (h : zHp) : Option (Int × zHp) := (if sh_Mo_isOx x1 h = 0 then some (0, h) else (if sh_Mo_isFarm x2 h = 0 then some (0, h) else (if sh_Mo_isIn x3 0 9 = 0 then some (0, h) else (if sh_Mo_isField x4 h = 0 then some (0, h) else zb1 (sh_Mo_name N x1 x2 x3 x4 (if x5 = 0 then 0 else 1 : Int) (h 86 3) h) fun h28 => zb2 (sh_Mo_isHeeded N h28) fun r34 h35 => some (r34, h35)))))
set_option maxRecDepth 100000 in
set_option maxHeartbeats 4000000 in
theorem zw_Mo_heeds {l : Launch} {E : zE} {d : Nat} (hd : 5 ≤ d) (N : Nat) (x1 x2 x3 x4 x5 : Int) {h : zHp} {Q : Int → zHp → Prop} {r0 : Int} {h0 : zHp} (hF : sh_Mo_heeds N x1 x2 x3 x4 x5 h = some (r0, h0)) (K : Q r0 h0) : zW l E d zm_Mo_heeds 0 [.inr (.inr 85), .inl x1, .inl x2, .inl x3, .inl x4, .inl x5] [] h Q := by
  rw [sh_Mo_heeds] at hF
  refine z_aload rfl rfl rfl ?_
  refine z_iload rfl rfl ?_
  refine z_inv1 (d' := d - 1) (As := [.inl x1]) rfl rfl (zf_Mo_isOx (by omega) _) rfl rfl rfl (by omega) rfl (fun r1 h2 hR3 hQ4 => ?_)
  obtain ⟨rfl, rfl⟩ := hQ4
  refine z_zeq rfl (fun c5 => ?_) (fun c5 => ?_)
  · rw [if_pos c5] at hF
    refine z_const rfl ?_
    obtain ⟨rfl, rfl⟩ := zinj2 hF
    exact z_zret rfl rfl (Or.inl rfl) K
  · rw [if_neg c5] at hF
    refine z_aload rfl rfl rfl ?_
    refine z_iload rfl rfl ?_
    refine z_inv1 (d' := d - 1) (As := [.inl x2]) rfl rfl (zf_Mo_isFarm (by omega) _) rfl rfl rfl (by omega) rfl (fun r6 h7 hR8 hQ9 => ?_)
    obtain ⟨rfl, rfl⟩ := hQ9
    refine z_zeq rfl (fun c10 => ?_) (fun c10 => ?_)
    · rw [if_pos c10] at hF
      refine z_const rfl ?_
      obtain ⟨rfl, rfl⟩ := zinj2 hF
      exact z_zret rfl rfl (Or.inl rfl) K
    · rw [if_neg c10] at hF
      refine z_iload rfl rfl ?_
      refine z_const rfl ?_
      refine z_const rfl ?_
      refine z_ivs1 (d' := d - 1) (As := [.inl x3, .inl 0, .inl 9]) rfl rfl (zf_Mo_isIn (by omega) _ _ _) rfl (by omega) rfl (fun r11 h12 hR13 hQ14 => ?_)
      obtain ⟨rfl, rfl⟩ := hQ14
      refine z_zeq rfl (fun c15 => ?_) (fun c15 => ?_)
      · rw [if_pos c15] at hF
        refine z_const rfl ?_
        obtain ⟨rfl, rfl⟩ := zinj2 hF
        exact z_zret rfl rfl (Or.inl rfl) K
      · rw [if_neg c15] at hF
        refine z_aload rfl rfl rfl ?_
        refine z_iload rfl rfl ?_
        refine z_inv1 (d' := d - 1) (As := [.inl x4]) rfl rfl (zf_Mo_isField (by omega) _) rfl rfl rfl (by omega) rfl (fun r16 h17 hR18 hQ19 => ?_)
        obtain ⟨rfl, rfl⟩ := hQ19
        refine z_zne rfl (fun c20 => ?_) (fun c20 => ?_)
        · rw [if_neg c20] at hF
          refine z_aload rfl rfl rfl ?_
          refine z_iload rfl rfl ?_
          refine z_iload rfl rfl ?_
          refine z_iload rfl rfl ?_
          refine z_iload rfl rfl ?_
          refine z_iload rfl rfl ?_
          have hJ22 : zW l E d zm_Mo_heeds 29 [.inr (.inr 85), zJk, zJk, zJk, zJk, zJk] [.inl (if x5 = 0 then 0 else 1 : Int), .inl x4, .inl x3, .inl x2, .inl x1, .inr (.inr 85)] h Q := by
            refine z_aload rfl rfl rfl ?_
            refine z_getr (r := 86) rfl rfl rfl rfl ?_
            refine z_const rfl ?_
            refine z_ialdc 3 rfl rfl rfl (by decide) ?_
            obtain ⟨h28, hc27, hF⟩ := zbind1 hF
            refine z_inv0 (d' := d - 1) (As := [.inl x1, .inl x2, .inl x3, .inl x4, .inl (if x5 = 0 then 0 else 1 : Int), .inl (h 86 3)]) rfl rfl (zf_Mo_name (by omega) N _ _ _ _ _ _ hc27) rfl rfl rfl (by omega) rfl (fun r23 h24 hR25 hQ26 => ?_)
            obtain ⟨rfl, rfl⟩ := hQ26
            refine z_aload rfl rfl rfl ?_
            obtain ⟨r34, h35, hc33, hF⟩ := zbind2 hF
            refine z_inv1 (d' := d - 1) (As := []) rfl rfl (zf_Mo_isHeeded (by omega) N hc33) rfl rfl rfl (by omega) rfl (fun r29 h30 hR31 hQ32 => ?_)
            obtain ⟨rfl, rfl⟩ := hQ32
            obtain ⟨rfl, rfl⟩ := zinj2 hF
            exact z_zret rfl rfl (zRr_z rfl hR31) K
          refine z_zeq rfl (fun c21 => ?_) (fun c21 => ?_)
          · refine z_const rfl ?_
            refine zsubL (L' := [.inr (.inr 85), zJk, zJk, zJk, zJk, zJk]) ⟨Or.inl rfl, Or.inr rfl, Or.inr rfl, Or.inr rfl, Or.inr rfl, Or.inr rfl, trivial⟩ ?_
            exact zcast (by first | rfl | (simp only [if_pos c21] <;> rfl)) (by first | rfl | (simp only [if_pos c21] <;> rfl)) hJ22
          · refine z_const rfl ?_
            refine z_goto rfl ?_
            refine zsubL (L' := [.inr (.inr 85), zJk, zJk, zJk, zJk, zJk]) ⟨Or.inl rfl, Or.inr rfl, Or.inr rfl, Or.inr rfl, Or.inr rfl, Or.inr rfl, trivial⟩ ?_
            exact zcast (by first | rfl | (simp only [if_neg c21] <;> rfl)) (by first | rfl | (simp only [if_neg c21] <;> rfl)) hJ22
        · rw [if_pos c20] at hF
          refine z_const rfl ?_
          obtain ⟨rfl, rfl⟩ := zinj2 hF
          exact z_zret rfl rfl (Or.inl rfl) K
set_option maxRecDepth 100000 in
theorem zf_Mo_heeds {l : Launch} {E : zE} {d : Nat} (hd : 5 ≤ d) (N : Nat) (x1 x2 x3 x4 x5 : Int) {h : zHp} {r0 : Int} {h0 : zHp} (hF : sh_Mo_heeds N x1 x2 x3 x4 x5 h = some (r0, h0)) : zC l E d zm_Mo_heeds [.inr (.inr 85), .inl x1, .inl x2, .inl x3, .inl x4, .inl x5] h (fun r1 h1 => r0 = r1 ∧ h0 = h1) :=
  zC_of zk_Mo_heeds (by decide) rfl rfl (Nat.le_of_ble_eq_true rfl) (zw_Mo_heeds hd N _ _ _ _ _ hF ⟨rfl, rfl⟩)
def sh_Ox_isHour (x0 : Int) : Int := sh_Ox_within x0 0 23
set_option maxRecDepth 100000 in
set_option maxHeartbeats 4000000 in
theorem zw_Ox_isHour {l : Launch} {E : zE} {d : Nat} (hd : 2 ≤ d) (x0 : Int) {h : zHp} {Q : Int → zHp → Prop} {r0 : Int} (hF : sh_Ox_isHour x0 = r0) (K : Q r0 h) : zW l E d zm_Ox_isHour 0 [.inl x0] [] h Q := by
  rw [sh_Ox_isHour] at hF
  refine z_iload rfl rfl ?_
  refine z_const rfl ?_
  refine z_const rfl ?_
  refine z_ivs1 (d' := d - 1) (As := [.inl x0, .inl 0, .inl 23]) rfl rfl (zf_Ox_within (by omega) _ _ _) rfl (by omega) rfl (fun r1 h2 hR3 hQ4 => ?_)
  obtain ⟨rfl, rfl⟩ := hQ4
  subst hF
  exact z_zret rfl rfl (zRr_z rfl hR3) K
set_option maxRecDepth 100000 in
theorem zf_Ox_isHour {l : Launch} {E : zE} {d : Nat} (hd : 2 ≤ d) (x0 : Int) {h : zHp} : zC l E d zm_Ox_isHour [.inl x0] h (fun r1 h1 => sh_Ox_isHour x0 = r1 ∧ h = h1) :=
  zC_of zk_Ox_isHour (by decide) rfl rfl (Nat.le_of_ble_eq_true rfl) (zw_Ox_isHour hd _ rfl ⟨rfl, rfl⟩)
theorem zb_Ox_isHour (x0 : Int) : sh_Ox_isHour x0 = 0 ∨ sh_Ox_isHour x0 = 1 := by
  unfold sh_Ox_isHour
  exact zb_Ox_within _ _ _
def sh_Ox_call (x1 x2 : Int) (h : zHp) : Option (Int × zHp) := (if 8 ≤ h 1 9 then some ((-1), h) else (if sh_Ox_isHour x1 = 0 then some ((-1), h) else (if sh_Ox_isFarm x2 h = 0 then some ((-1), h) else some (zst (rput (rput h 21 8 (h 1 9) x1) 23 8 (rput h 21 8 (h 1 9) x1 1 9) x2) 1 9 (w32 ((rput (rput h 21 8 (h 1 9) x1) 23 8 (rput h 21 8 (h 1 9) x1 1 9) x2 1 9) + 1)) 1 9, zst (rput (rput h 21 8 (h 1 9) x1) 23 8 (rput h 21 8 (h 1 9) x1 1 9) x2) 1 9 (w32 ((rput (rput h 21 8 (h 1 9) x1) 23 8 (rput h 21 8 (h 1 9) x1 1 9) x2 1 9) + 1))))))
set_option maxRecDepth 100000 in
set_option maxHeartbeats 4000000 in
theorem zw_Ox_call {l : Launch} {E : zE} {d : Nat} (hd : 3 ≤ d) (x1 x2 : Int) {h : zHp} {Q : Int → zHp → Prop} {r0 : Int} {h0 : zHp} (hF : sh_Ox_call x1 x2 h = some (r0, h0)) (K : Q r0 h0) : zW l E d zm_Ox_call 0 [.inr (.inr 0), .inl x1, .inl x2] [] h Q := by
  rw [sh_Ox_call] at hF
  refine z_aload rfl rfl rfl ?_
  refine z_getr (r := 1) rfl rfl rfl rfl ?_
  refine z_geti rfl rfl rfl rfl ?_
  refine z_const rfl ?_
  refine z_cge rfl (fun c1 => ?_) (fun c1 => ?_)
  · rw [if_pos c1] at hF
    refine z_const rfl ?_
    obtain ⟨rfl, rfl⟩ := zinj2 hF
    exact z_iret rfl rfl K
  · rw [if_neg c1] at hF
    refine z_iload rfl rfl ?_
    refine z_ivs1 (d' := d - 1) (As := [.inl x1]) rfl rfl (zf_Ox_isHour (by omega) _) rfl (by omega) rfl (fun r2 h3 hR4 hQ5 => ?_)
    obtain ⟨rfl, rfl⟩ := hQ5
    refine z_zeq rfl (fun c6 => ?_) (fun c6 => ?_)
    · rw [if_pos c6] at hF
      refine z_const rfl ?_
      obtain ⟨rfl, rfl⟩ := zinj2 hF
      exact z_iret rfl rfl K
    · rw [if_neg c6] at hF
      refine z_aload rfl rfl rfl ?_
      refine z_iload rfl rfl ?_
      refine z_inv1 (d' := d - 1) (As := [.inl x2]) rfl rfl (zf_Ox_isFarm (by omega) _) rfl rfl rfl (by omega) rfl (fun r7 h8 hR9 hQ10 => ?_)
      obtain ⟨rfl, rfl⟩ := hQ10
      refine z_zne rfl (fun c11 => ?_) (fun c11 => ?_)
      · rw [if_neg c11] at hF
        refine z_aload rfl rfl rfl ?_
        refine z_getr (r := 1) rfl rfl rfl rfl ?_
        refine z_getr (r := 20) rfl rfl rfl rfl ?_
        refine z_aload rfl rfl rfl ?_
        refine z_getr (r := 1) rfl rfl rfl rfl ?_
        refine z_geti rfl rfl rfl rfl ?_
        refine z_iload rfl rfl ?_
        refine z_inv0 (d' := d - 1) (As := [.inl (h 1 9), .inl x1]) rfl rfl (zf_Row_put (r := 20) (a := 21) (n := 8) rfl rfl _ _) rfl rfl rfl (by omega) rfl (fun r12 h13 hR14 hQ15 => ?_)
        obtain ⟨rfl, rfl⟩ := hQ15
        refine z_aload rfl rfl rfl ?_
        refine z_getr (r := 1) rfl rfl rfl rfl ?_
        refine z_getr (r := 22) rfl rfl rfl rfl ?_
        refine z_aload rfl rfl rfl ?_
        refine z_getr (r := 1) rfl rfl rfl rfl ?_
        refine z_geti rfl rfl rfl rfl ?_
        refine z_iload rfl rfl ?_
        refine z_inv0 (d' := d - 1) (As := [.inl (rput h 21 8 (h 1 9) x1 1 9), .inl x2]) rfl rfl (zf_Row_put (r := 22) (a := 23) (n := 8) rfl rfl _ _) rfl rfl rfl (by omega) rfl (fun r16 h17 hR18 hQ19 => ?_)
        obtain ⟨rfl, rfl⟩ := hQ19
        refine z_aload rfl rfl rfl ?_
        refine z_getr (r := 1) rfl rfl rfl rfl ?_
        refine z_dup rfl rfl ?_
        refine z_geti rfl rfl rfl rfl ?_
        refine z_const rfl ?_
        refine z_iadd rfl ?_
        refine z_puti rfl rfl rfl rfl ?_
        refine z_aload rfl rfl rfl ?_
        refine z_getr (r := 1) rfl rfl rfl rfl ?_
        refine z_geti rfl rfl rfl rfl ?_
        obtain ⟨rfl, rfl⟩ := zinj2 hF
        exact z_iret rfl rfl K
      · rw [if_pos c11] at hF
        refine z_const rfl ?_
        obtain ⟨rfl, rfl⟩ := zinj2 hF
        exact z_iret rfl rfl K
set_option maxRecDepth 100000 in
theorem zf_Ox_call {l : Launch} {E : zE} {d : Nat} (hd : 3 ≤ d) (x1 x2 : Int) {h : zHp} {r0 : Int} {h0 : zHp} (hF : sh_Ox_call x1 x2 h = some (r0, h0)) : zC l E d zm_Ox_call [.inr (.inr 0), .inl x1, .inl x2] h (fun r1 h1 => r0 = r1 ∧ h0 = h1) :=
  zC_of zk_Ox_call (by decide) rfl rfl (Nat.le_of_ble_eq_true rfl) (zw_Ox_call hd _ _ hF ⟨rfl, rfl⟩)
def sh_Mo_call (N : Nat) (x1 x2 : Int) (h : zHp) : Option (Int × zHp) := (if sh_Mo_isIn x1 0 23 = 0 then some ((-1), h) else (if sh_Mo_isFarm x2 h = 0 then some ((-1), h) else (if h 86 6 = 8 then some ((-1), h) else if 0 ≤ w32 (105 + (w32 (2 * (h 86 6)))) ∧ w32 (105 + (w32 (2 * (h 86 6)))) < 1061 then if 0 ≤ w32 ((w32 (105 + (w32 (2 * ((zst h 86 (w32 (105 + (w32 (2 * (h 86 6))))).toNat x1) 86 6))))) + 1) ∧ w32 ((w32 (105 + (w32 (2 * ((zst h 86 (w32 (105 + (w32 (2 * (h 86 6))))).toNat x1) 86 6))))) + 1) < 1061 then some ((zst (zst (zst h 86 (w32 (105 + (w32 (2 * (h 86 6))))).toNat x1) 86 (w32 ((w32 (105 + (w32 (2 * ((zst h 86 (w32 (105 + (w32 (2 * (h 86 6))))).toNat x1) 86 6))))) + 1)).toNat x2) 86 6 (w32 (((zst (zst h 86 (w32 (105 + (w32 (2 * (h 86 6))))).toNat x1) 86 (w32 ((w32 (105 + (w32 (2 * ((zst h 86 (w32 (105 + (w32 (2 * (h 86 6))))).toNat x1) 86 6))))) + 1)).toNat x2) 86 6) + 1))) 86 6, zst (zst (zst h 86 (w32 (105 + (w32 (2 * (h 86 6))))).toNat x1) 86 (w32 ((w32 (105 + (w32 (2 * ((zst h 86 (w32 (105 + (w32 (2 * (h 86 6))))).toNat x1) 86 6))))) + 1)).toNat x2) 86 6 (w32 (((zst (zst h 86 (w32 (105 + (w32 (2 * (h 86 6))))).toNat x1) 86 (w32 ((w32 (105 + (w32 (2 * ((zst h 86 (w32 (105 + (w32 (2 * (h 86 6))))).toNat x1) 86 6))))) + 1)).toNat x2) 86 6) + 1))) else none else none)))
set_option maxRecDepth 100000 in
set_option maxHeartbeats 4000000 in
theorem zw_Mo_call {l : Launch} {E : zE} {d : Nat} (hd : 3 ≤ d) (N : Nat) (x1 x2 : Int) {h : zHp} {Q : Int → zHp → Prop} {r0 : Int} {h0 : zHp} (hF : sh_Mo_call N x1 x2 h = some (r0, h0)) (K : Q r0 h0) : zW l E d zm_Mo_call 0 [.inr (.inr 85), .inl x1, .inl x2] [] h Q := by
  rw [sh_Mo_call] at hF
  refine z_iload rfl rfl ?_
  refine z_const rfl ?_
  refine z_const rfl ?_
  refine z_ivs1 (d' := d - 1) (As := [.inl x1, .inl 0, .inl 23]) rfl rfl (zf_Mo_isIn (by omega) _ _ _) rfl (by omega) rfl (fun r1 h2 hR3 hQ4 => ?_)
  obtain ⟨rfl, rfl⟩ := hQ4
  refine z_zeq rfl (fun c5 => ?_) (fun c5 => ?_)
  · rw [if_pos c5] at hF
    refine z_const rfl ?_
    obtain ⟨rfl, rfl⟩ := zinj2 hF
    exact z_iret rfl rfl K
  · rw [if_neg c5] at hF
    refine z_aload rfl rfl rfl ?_
    refine z_iload rfl rfl ?_
    refine z_inv1 (d' := d - 1) (As := [.inl x2]) rfl rfl (zf_Mo_isFarm (by omega) _) rfl rfl rfl (by omega) rfl (fun r6 h7 hR8 hQ9 => ?_)
    obtain ⟨rfl, rfl⟩ := hQ9
    refine z_zeq rfl (fun c10 => ?_) (fun c10 => ?_)
    · rw [if_pos c10] at hF
      refine z_const rfl ?_
      obtain ⟨rfl, rfl⟩ := zinj2 hF
      exact z_iret rfl rfl K
    · rw [if_neg c10] at hF
      refine z_aload rfl rfl rfl ?_
      refine z_getr (r := 86) rfl rfl rfl rfl ?_
      refine z_const rfl ?_
      refine z_ialdc 6 rfl rfl rfl (by decide) ?_
      refine z_const rfl ?_
      refine z_cne rfl (fun c11 => ?_) (fun c11 => ?_)
      · rw [if_neg c11] at hF
        refine z_aload rfl rfl rfl ?_
        refine z_getr (r := 86) rfl rfl rfl rfl ?_
        refine z_const rfl ?_
        refine z_const rfl ?_
        refine z_aload rfl rfl rfl ?_
        refine z_getr (r := 86) rfl rfl rfl rfl ?_
        refine z_const rfl ?_
        refine z_ialdc 6 rfl rfl rfl (by decide) ?_
        refine z_imul rfl ?_
        refine z_iadd rfl ?_
        refine z_iload rfl rfl ?_
        obtain ⟨g12, hF⟩ := zguard hF
        refine z_iast rfl rfl g12.1 g12.2 ?_
        refine z_aload rfl rfl rfl ?_
        refine z_getr (r := 86) rfl rfl rfl rfl ?_
        refine z_const rfl ?_
        refine z_const rfl ?_
        refine z_aload rfl rfl rfl ?_
        refine z_getr (r := 86) rfl rfl rfl rfl ?_
        refine z_const rfl ?_
        refine z_ialdc 6 rfl rfl rfl (by decide) ?_
        refine z_imul rfl ?_
        refine z_iadd rfl ?_
        refine z_const rfl ?_
        refine z_iadd rfl ?_
        refine z_iload rfl rfl ?_
        obtain ⟨g13, hF⟩ := zguard hF
        refine z_iast rfl rfl g13.1 g13.2 ?_
        refine z_aload rfl rfl rfl ?_
        refine z_getr (r := 86) rfl rfl rfl rfl ?_
        refine z_const rfl ?_
        refine z_dup2 rfl rfl rfl ?_
        refine z_ialdc 6 rfl rfl rfl (by decide) ?_
        refine z_const rfl ?_
        refine z_iadd rfl ?_
        refine z_iastc 6 rfl rfl rfl (by decide) ?_
        refine z_aload rfl rfl rfl ?_
        refine z_getr (r := 86) rfl rfl rfl rfl ?_
        refine z_const rfl ?_
        refine z_ialdc 6 rfl rfl rfl (by decide) ?_
        obtain ⟨rfl, rfl⟩ := zinj2 hF
        exact z_iret rfl rfl K
      · rw [if_pos c11] at hF
        refine z_const rfl ?_
        obtain ⟨rfl, rfl⟩ := zinj2 hF
        exact z_iret rfl rfl K
set_option maxRecDepth 100000 in
theorem zf_Mo_call {l : Launch} {E : zE} {d : Nat} (hd : 3 ≤ d) (N : Nat) (x1 x2 : Int) {h : zHp} {r0 : Int} {h0 : zHp} (hF : sh_Mo_call N x1 x2 h = some (r0, h0)) : zC l E d zm_Mo_call [.inr (.inr 85), .inl x1, .inl x2] h (fun r1 h1 => r0 = r1 ∧ h0 = h1) :=
  zC_of zk_Mo_call (by decide) rfl rfl (Nat.le_of_ble_eq_true rfl) (zw_Mo_call hd N _ _ hF ⟨rfl, rfl⟩)
def sh_Ox_hush (h : zHp) : Option (Int × zHp) := some (h 1 9, zst h 1 9 0)
set_option maxRecDepth 100000 in
set_option maxHeartbeats 4000000 in
theorem zw_Ox_hush {l : Launch} {E : zE} {d : Nat} (hd : 1 ≤ d) {h : zHp} {Q : Int → zHp → Prop} {r0 : Int} {h0 : zHp} (hF : sh_Ox_hush h = some (r0, h0)) (K : Q r0 h0) : zW l E d zm_Ox_hush 0 [.inr (.inr 0), zJk] [] h Q := by
  rw [sh_Ox_hush] at hF
  refine z_aload rfl rfl rfl ?_
  refine z_getr (r := 1) rfl rfl rfl rfl ?_
  refine z_geti rfl rfl rfl rfl ?_
  refine z_istore rfl rfl rfl ?_
  refine z_aload rfl rfl rfl ?_
  refine z_getr (r := 1) rfl rfl rfl rfl ?_
  refine z_const rfl ?_
  refine z_puti rfl rfl rfl rfl ?_
  refine z_iload rfl rfl ?_
  obtain ⟨rfl, rfl⟩ := zinj2 hF
  exact z_iret rfl rfl K
set_option maxRecDepth 100000 in
theorem zf_Ox_hush {l : Launch} {E : zE} {d : Nat} (hd : 1 ≤ d) {h : zHp} {r0 : Int} {h0 : zHp} (hF : sh_Ox_hush h = some (r0, h0)) : zC l E d zm_Ox_hush [.inr (.inr 0)] h (fun r1 h1 => r0 = r1 ∧ h0 = h1) :=
  zC_of zk_Ox_hush (by decide) rfl rfl (Nat.le_of_ble_eq_true rfl) (zw_Ox_hush hd hF ⟨rfl, rfl⟩)
def sh_Mo_hush (h : zHp) : Option (Int × zHp) := some (h 86 6, zst h 86 6 0)
set_option maxRecDepth 100000 in
set_option maxHeartbeats 4000000 in
theorem zw_Mo_hush {l : Launch} {E : zE} {d : Nat} (hd : 1 ≤ d) {h : zHp} {Q : Int → zHp → Prop} {r0 : Int} {h0 : zHp} (hF : sh_Mo_hush h = some (r0, h0)) (K : Q r0 h0) : zW l E d zm_Mo_hush 0 [.inr (.inr 85), zJk] [] h Q := by
  rw [sh_Mo_hush] at hF
  refine z_aload rfl rfl rfl ?_
  refine z_getr (r := 86) rfl rfl rfl rfl ?_
  refine z_const rfl ?_
  refine z_ialdc 6 rfl rfl rfl (by decide) ?_
  refine z_istore rfl rfl rfl ?_
  refine z_aload rfl rfl rfl ?_
  refine z_getr (r := 86) rfl rfl rfl rfl ?_
  refine z_const rfl ?_
  refine z_const rfl ?_
  refine z_iastc 6 rfl rfl rfl (by decide) ?_
  refine z_iload rfl rfl ?_
  obtain ⟨rfl, rfl⟩ := zinj2 hF
  exact z_iret rfl rfl K
set_option maxRecDepth 100000 in
theorem zf_Mo_hush {l : Launch} {E : zE} {d : Nat} (hd : 1 ≤ d) {h : zHp} {r0 : Int} {h0 : zHp} (hF : sh_Mo_hush h = some (r0, h0)) : zC l E d zm_Mo_hush [.inr (.inr 85)] h (fun r1 h1 => r0 = r1 ∧ h0 = h1) :=
  zC_of zk_Mo_hush (by decide) rfl rfl (Nat.le_of_ble_eq_true rfl) (zw_Mo_hush hd hF ⟨rfl, rfl⟩)
def sh_Stays_heedsCallAt_L2 (N : Nat) : Nat → Int → Int → Int → Int → zHp → Option ((zHp) ⊕ (zHp))
  | 0, _, _, _, _, _ => none
  | n + 1, x1, x2, x3, x4, h => (if h 1 9 ≤ x4 then some (.inr h) else (if rget h 21 8 x4 = x3 then zb2 (sh_Laws_heeded N (sh_Laws_ask x1 (rget h 23 8 x4) (rget h 7 5 (rget h 23 8 x4)) x2 1 x3 h)) fun r24 h25 => if r24 = 0 then sh_Stays_heedsCallAt_L2 N n x1 x2 x3 (w32 (x4 + 1)) h25 else some (.inl h25) else sh_Stays_heedsCallAt_L2 N n x1 x2 x3 (w32 (x4 + 1)) h))
def sh_Stays_heedsCallAt (N : Nat) (x1 x2 x3 : Int) (h : zHp) : Option (Int × zHp) := zb1 (sh_Stays_heedsCallAt_L2 N N x1 x2 x3 0 h) fun w28 => zsum2 w28 (zcu1 fun h29 => some (1, h29)) (zcu1 fun h30 => some (0, h30))
set_option maxRecDepth 100000 in
set_option maxHeartbeats 4000000 in
theorem zl_Stays_heedsCallAt_L2 {l : Launch} {E : zE} {d : Nat} (hd : 4 ≤ d) (N : Nat) {Q : Int → zHp → Prop} {res : (zHp) ⊕ (zHp)} (K1 : ∀ (oh : zHp), res = .inl oh → zW l E d zm_Stays_heedsCallAt 37 [zJk, zJk, zJk, zJk, zJk, zJk] [] oh Q) (K2 : ∀ (oh : zHp), res = .inr oh → zW l E d zm_Stays_heedsCallAt 41 [zJk, zJk, zJk, zJk, zJk, zJk] [] oh Q) : ∀ (n : Nat) (x1 x2 x3 x4 : Int) (h : zHp), sh_Stays_heedsCallAt_L2 N n x1 x2 x3 x4 h = some res → zW l E d zm_Stays_heedsCallAt 2 [.inr (.inr 38), .inl x1, .inl x2, .inl x3, .inl x4, zJk] [] h Q := by
  intro n
  induction n with
  | zero =>
    intro x1 x2 x3 x4 h hF
    cases (show (none : Option ((zHp) ⊕ (zHp))) = some res from hF)
  | succ n ih =>
    intro x1 x2 x3 x4 h hF
    rw [sh_Stays_heedsCallAt_L2] at hF
    refine z_iload rfl rfl ?_
    refine z_aload rfl rfl rfl ?_
    refine z_getr (r := 1) rfl rfl rfl rfl ?_
    refine z_geti rfl rfl rfl rfl ?_
    refine z_cge rfl (fun c1 => ?_) (fun c1 => ?_)
    · rw [if_pos c1] at hF
      refine zsubL (L' := [zJk, zJk, zJk, zJk, zJk, zJk]) ⟨Or.inr rfl, Or.inr rfl, Or.inr rfl, Or.inr rfl, Or.inr rfl, Or.inl rfl, trivial⟩ ?_
      exact K2 _ (Option.some.inj hF).symm
    · rw [if_neg c1] at hF
      refine z_aload rfl rfl rfl ?_
      refine z_getr (r := 1) rfl rfl rfl rfl ?_
      refine z_getr (r := 20) rfl rfl rfl rfl ?_
      refine z_iload rfl rfl ?_
      refine z_inv1 (d' := d - 1) (As := [.inl x4]) rfl rfl (zf_Row_get (r := 20) (a := 21) (n := 8) rfl rfl _) rfl rfl rfl (by omega) rfl (fun r2 h3 hR4 hQ5 => ?_)
      obtain ⟨rfl, rfl⟩ := hQ5
      refine z_iload rfl rfl ?_
      refine z_cne rfl (fun c6 => ?_) (fun c6 => ?_)
      · rw [if_neg c6] at hF
        refine z_iinc rfl rfl rfl ?_
        refine z_goto rfl ?_
        exact ih _ _ _ _ _ hF
      · rw [if_pos c6] at hF
        refine z_aload rfl rfl rfl ?_
        refine z_getr (r := 1) rfl rfl rfl rfl ?_
        refine z_getr (r := 22) rfl rfl rfl rfl ?_
        refine z_iload rfl rfl ?_
        refine z_inv1 (d' := d - 1) (As := [.inl x4]) rfl rfl (zf_Row_get (r := 22) (a := 23) (n := 8) rfl rfl _) rfl rfl rfl (by omega) rfl (fun r7 h8 hR9 hQ10 => ?_)
        obtain ⟨rfl, rfl⟩ := hQ10
        refine z_istore rfl rfl rfl ?_
        refine z_aload rfl rfl rfl ?_
        refine z_getr (r := 33) rfl rfl rfl rfl ?_
        refine z_iload rfl rfl ?_
        refine z_iload rfl rfl ?_
        refine z_aload rfl rfl rfl ?_
        refine z_getr (r := 1) rfl rfl rfl rfl ?_
        refine z_getr (r := 6) rfl rfl rfl rfl ?_
        refine z_iload rfl rfl ?_
        refine z_inv1 (d' := d - 1) (As := [.inl (rget h 23 8 x4)]) rfl rfl (zf_Row_get (r := 6) (a := 7) (n := 5) rfl rfl _) rfl rfl rfl (by omega) rfl (fun r11 h12 hR13 hQ14 => ?_)
        obtain ⟨rfl, rfl⟩ := hQ14
        refine z_iload rfl rfl ?_
        refine z_const rfl ?_
        refine z_iload rfl rfl ?_
        refine z_inv0 (d' := d - 1) (As := [.inl x1, .inl (rget h 23 8 x4), .inl (rget h 7 5 (rget h 23 8 x4)), .inl x2, .inl 1, .inl x3]) rfl rfl (zf_Laws_ask (by omega) _ _ _ _ _ _) rfl rfl rfl (by omega) rfl (fun r15 h16 hR17 hQ18 => ?_)
        obtain ⟨rfl, rfl⟩ := hQ18
        refine z_aload rfl rfl rfl ?_
        refine z_getr (r := 33) rfl rfl rfl rfl ?_
        obtain ⟨r24, h25, hc23, hF⟩ := zbind2 hF
        refine z_inv1 (d' := d - 1) (As := []) rfl rfl (zf_Laws_heeded (by omega) N hc23) rfl rfl rfl (by omega) rfl (fun r19 h20 hR21 hQ22 => ?_)
        obtain ⟨rfl, rfl⟩ := hQ22
        refine z_zeq rfl (fun c26 => ?_) (fun c26 => ?_)
        · rw [if_pos c26] at hF
          refine z_iinc rfl rfl rfl ?_
          refine z_goto rfl ?_
          refine zsubL (L' := [.inr (.inr 38), .inl x1, .inl x2, .inl x3, .inl (w32 (x4 + 1)), zJk]) ⟨Or.inl rfl, Or.inl rfl, Or.inl rfl, Or.inl rfl, Or.inl rfl, Or.inr rfl, trivial⟩ ?_
          exact ih _ _ _ _ _ hF
        · rw [if_neg c26] at hF
          refine zsubL (L' := [zJk, zJk, zJk, zJk, zJk, zJk]) ⟨Or.inr rfl, Or.inr rfl, Or.inr rfl, Or.inr rfl, Or.inr rfl, Or.inr rfl, trivial⟩ ?_
          exact K1 _ (Option.some.inj hF).symm
set_option maxRecDepth 100000 in
set_option maxHeartbeats 4000000 in
theorem zw_Stays_heedsCallAt {l : Launch} {E : zE} {d : Nat} (hd : 4 ≤ d) (N : Nat) (x1 x2 x3 : Int) {h : zHp} {Q : Int → zHp → Prop} {r0 : Int} {h0 : zHp} (hF : sh_Stays_heedsCallAt N x1 x2 x3 h = some (r0, h0)) (K : Q r0 h0) : zW l E d zm_Stays_heedsCallAt 0 [.inr (.inr 38), .inl x1, .inl x2, .inl x3, zJk, zJk] [] h Q := by
  rw [sh_Stays_heedsCallAt] at hF
  refine z_const rfl ?_
  refine z_istore rfl rfl rfl ?_
  obtain ⟨w28, hL27, hF⟩ := zbind1 hF
  rcases w28 with h29 | h30
  · refine zl_Stays_heedsCallAt_L2 (by omega) N (fun q31 e32 => ?_) (fun _ z => by cases z) N _ _ _ _ _ hL27
    obtain rfl := zinl2_0_1 e32
    replace hF := zs2_0_1 hF
    refine z_const rfl ?_
    obtain ⟨rfl, rfl⟩ := zinj2 hF
    exact z_zret rfl rfl (Or.inr rfl) K
  · refine zl_Stays_heedsCallAt_L2 (by omega) N (fun _ z => by cases z) (fun q33 e34 => ?_) N _ _ _ _ _ hL27
    obtain rfl := zinl2_1_1 e34
    replace hF := zs2_1_1 hF
    refine z_const rfl ?_
    obtain ⟨rfl, rfl⟩ := zinj2 hF
    exact z_zret rfl rfl (Or.inl rfl) K
set_option maxRecDepth 100000 in
theorem zf_Stays_heedsCallAt {l : Launch} {E : zE} {d : Nat} (hd : 4 ≤ d) (N : Nat) (x1 x2 x3 : Int) {h : zHp} {r0 : Int} {h0 : zHp} (hF : sh_Stays_heedsCallAt N x1 x2 x3 h = some (r0, h0)) : zC l E d zm_Stays_heedsCallAt [.inr (.inr 38), .inl x1, .inl x2, .inl x3] h (fun r1 h1 => r0 = r1 ∧ h0 = h1) :=
  zC_of zk_Stays_heedsCallAt (by decide) rfl rfl (Nat.le_of_ble_eq_true rfl) (zw_Stays_heedsCallAt hd N _ _ _ hF ⟨rfl, rfl⟩)
