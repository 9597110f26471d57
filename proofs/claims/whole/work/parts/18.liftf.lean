/-! by program (wip/whole/emit.py) out of the claim's listing -/
def sh_Pitches_fitsAll_L6 (N : Nat) : Nat → Int → Int → Int → Int → zHp → Option ((zHp) ⊕ (zHp))
  | 0, _, _, _, _, _ => none
  | n + 1, x1, x2, x3, x5, h => (if sh_Herd_oxen_14 h ≤ x5 then some (.inr h) else zb2 (sh_Laws_heeded N (sh_Laws_ask x5 x1 x2 x3 0 (sh_Herd_hour_14 h) h)) fun r19 h20 => (if (if sh_Herd_get_14 x5 0 h20 = x1 then 1 else 0 : Int) = 0 then (if (if (if sh_Herd_get_14 x5 0 h20 = x1 then 1 else 0 : Int) = 0 then (if sh_Herd_get_14 x5 1 h20 = x1 then 0 else 1 : Int) else 0 : Int) = 0 then sh_Pitches_fitsAll_L6 N n x1 x2 x3 (w32 (x5 + 1)) h20 else (if r19 = 0 then sh_Pitches_fitsAll_L6 N n x1 x2 x3 (w32 (x5 + 1)) h20 else some (.inl h20))) else (if r19 = 0 then some (.inl h20) else (if (if (if sh_Herd_get_14 x5 0 h20 = x1 then 1 else 0 : Int) = 0 then (if sh_Herd_get_14 x5 1 h20 = x1 then 0 else 1 : Int) else 0 : Int) = 0 then sh_Pitches_fitsAll_L6 N n x1 x2 x3 (w32 (x5 + 1)) h20 else (if r19 = 0 then sh_Pitches_fitsAll_L6 N n x1 x2 x3 (w32 (x5 + 1)) h20 else some (.inl h20))))))
def sh_Pitches_fitsAll (N : Nat) (x1 x2 x3 : Int) (h : zHp) : Option (Int × zHp) := zb1 (sh_Pitches_fitsAll_L6 N N x1 x2 x3 0 h) fun w41 => zsum2 w41 (zcu1 fun h42 => some (0, h42)) (zcu1 fun h43 => some (1, h43))
set_option maxRecDepth 100000 in
set_option maxHeartbeats 4000000 in
theorem zl_Pitches_fitsAll_L6 {l : Launch} {E : zE} {d : Nat} (hd : 4 ≤ d) (N : Nat) {Q : Int → zHp → Prop} {res : (zHp) ⊕ (zHp)} (K1 : ∀ (oh : zHp), res = .inl oh → zW l E d zm_Pitches_fitsAll 54 [zJk, zJk, zJk, zJk, zJk, zJk, zJk, zJk, zJk] [] oh Q) (K2 : ∀ (oh : zHp), res = .inr oh → zW l E d zm_Pitches_fitsAll 58 [zJk, zJk, zJk, zJk, zJk, zJk, zJk, zJk, zJk] [] oh Q) : ∀ (n : Nat) (x1 x2 x3 x5 : Int) (h : zHp), sh_Pitches_fitsAll_L6 N n x1 x2 x3 x5 h = some res → zW l E d zm_Pitches_fitsAll 6 [.inr (.inr 78), .inl x1, .inl x2, .inl x3, .inr (.inr 14), .inl x5, zJk, zJk, zJk] [] h Q := by
  intro n
  induction n with
  | zero =>
    intro x1 x2 x3 x5 h hF
    cases (show (none : Option ((zHp) ⊕ (zHp))) = some res from hF)
  | succ n ih =>
    intro x1 x2 x3 x5 h hF
    rw [sh_Pitches_fitsAll_L6] at hF
    refine z_iload rfl rfl ?_
    refine z_aload rfl rfl rfl ?_
    refine z_inv1 (d' := d - 1) (As := []) rfl rfl (zf_Herd_oxen_14 (by omega)) rfl rfl rfl (by omega) rfl (fun r1 h2 hR3 hQ4 => ?_)
    obtain ⟨rfl, rfl⟩ := hQ4
    refine z_cge rfl (fun c5 => ?_) (fun c5 => ?_)
    · rw [if_pos c5] at hF
      refine zsubL (L' := [zJk, zJk, zJk, zJk, zJk, zJk, zJk, zJk, zJk]) ⟨Or.inr rfl, Or.inr rfl, Or.inr rfl, Or.inr rfl, Or.inr rfl, Or.inr rfl, Or.inl rfl, Or.inl rfl, Or.inl rfl, trivial⟩ ?_
      exact K2 _ (Option.some.inj hF).symm
    · rw [if_neg c5] at hF
      refine z_aload rfl rfl rfl ?_
      refine z_getr (r := 33) rfl rfl rfl rfl ?_
      refine z_iload rfl rfl ?_
      refine z_iload rfl rfl ?_
      refine z_iload rfl rfl ?_
      refine z_iload rfl rfl ?_
      refine z_const rfl ?_
      refine z_aload rfl rfl rfl ?_
      refine z_inv1 (d' := d - 1) (As := []) rfl rfl (zf_Herd_hour_14 (by omega)) rfl rfl rfl (by omega) rfl (fun r6 h7 hR8 hQ9 => ?_)
      obtain ⟨rfl, rfl⟩ := hQ9
      refine z_inv0 (d' := d - 1) (As := [.inl x5, .inl x1, .inl x2, .inl x3, .inl 0, .inl (sh_Herd_hour_14 h)]) rfl rfl (zf_Laws_ask (by omega) _ _ _ _ _ _) rfl rfl rfl (by omega) rfl (fun r10 h11 hR12 hQ13 => ?_)
      obtain ⟨rfl, rfl⟩ := hQ13
      refine z_aload rfl rfl rfl ?_
      refine z_getr (r := 33) rfl rfl rfl rfl ?_
      obtain ⟨r19, h20, hc18, hF⟩ := zbind2 hF
      refine z_inv1 (d' := d - 1) (As := []) rfl rfl (zf_Laws_heeded (by omega) N hc18) rfl rfl rfl (by omega) rfl (fun r14 h15 hR16 hQ17 => ?_)
      obtain ⟨rfl, rfl⟩ := hQ17
      refine z_istore rfl rfl rfl ?_
      refine z_aload rfl rfl rfl ?_
      refine z_iload rfl rfl ?_
      refine z_const rfl ?_
      refine z_inv1 (d' := d - 1) (As := [.inl x5, .inl 0]) rfl rfl (zf_Herd_get_14 (by omega) _ _) rfl rfl rfl (by omega) rfl (fun r21 h22 hR23 hQ24 => ?_)
      obtain ⟨rfl, rfl⟩ := hQ24
      refine z_iload rfl rfl ?_
      have hJ26 : zW l E d zm_Pitches_fitsAll 33 [.inr (.inr 78), .inl x1, .inl x2, .inl x3, .inr (.inr 14), .inl x5, .inl r19, zJk, zJk] [.inl (if sh_Herd_get_14 x5 0 h20 = x1 then 1 else 0 : Int)] h20 Q := by
        refine z_istore rfl rfl rfl ?_
        refine z_iload rfl rfl ?_
        have hJ33 : zW l E d zm_Pitches_fitsAll 45 [.inr (.inr 78), .inl x1, .inl x2, .inl x3, .inr (.inr 14), .inl x5, .inl r19, .inl (if sh_Herd_get_14 x5 0 h20 = x1 then 1 else 0 : Int), zJk] [.inl (if (if sh_Herd_get_14 x5 0 h20 = x1 then 1 else 0 : Int) = 0 then (if sh_Herd_get_14 x5 1 h20 = x1 then 0 else 1 : Int) else 0 : Int)] h20 Q := by
          refine z_istore rfl rfl rfl ?_
          refine z_iload rfl rfl ?_
          refine z_zeq rfl (fun c34 => ?_) (fun c34 => ?_)
          · rw [if_pos c34] at hF
            refine z_iload rfl rfl ?_
            refine z_zeq rfl (fun c35 => ?_) (fun c35 => ?_)
            · rw [if_pos c35] at hF
              refine z_iinc rfl rfl rfl ?_
              refine z_goto rfl ?_
              refine zsubL (L' := [.inr (.inr 78), .inl x1, .inl x2, .inl x3, .inr (.inr 14), .inl (w32 (x5 + 1)), zJk, zJk, zJk]) ⟨Or.inl rfl, Or.inl rfl, Or.inl rfl, Or.inl rfl, Or.inl rfl, Or.inl rfl, Or.inr rfl, Or.inr rfl, Or.inr rfl, trivial⟩ ?_
              exact ih _ _ _ _ _ hF
            · rw [if_neg c35] at hF
              refine z_iload rfl rfl ?_
              refine z_zeq rfl (fun c36 => ?_) (fun c36 => ?_)
              · rw [if_pos c36] at hF
                refine z_iinc rfl rfl rfl ?_
                refine z_goto rfl ?_
                refine zsubL (L' := [.inr (.inr 78), .inl x1, .inl x2, .inl x3, .inr (.inr 14), .inl (w32 (x5 + 1)), zJk, zJk, zJk]) ⟨Or.inl rfl, Or.inl rfl, Or.inl rfl, Or.inl rfl, Or.inl rfl, Or.inl rfl, Or.inr rfl, Or.inr rfl, Or.inr rfl, trivial⟩ ?_
                exact ih _ _ _ _ _ hF
              · rw [if_neg c36] at hF
                refine zsubL (L' := [zJk, zJk, zJk, zJk, zJk, zJk, zJk, zJk, zJk]) ⟨Or.inr rfl, Or.inr rfl, Or.inr rfl, Or.inr rfl, Or.inr rfl, Or.inr rfl, Or.inr rfl, Or.inr rfl, Or.inr rfl, trivial⟩ ?_
                exact K1 _ (Option.some.inj hF).symm
          · rw [if_neg c34] at hF
            refine z_iload rfl rfl ?_
            refine z_zeq rfl (fun c37 => ?_) (fun c37 => ?_)
            · rw [if_pos c37] at hF
              refine zsubL (L' := [zJk, zJk, zJk, zJk, zJk, zJk, zJk, zJk, zJk]) ⟨Or.inr rfl, Or.inr rfl, Or.inr rfl, Or.inr rfl, Or.inr rfl, Or.inr rfl, Or.inr rfl, Or.inr rfl, Or.inr rfl, trivial⟩ ?_
              exact K1 _ (Option.some.inj hF).symm
            · rw [if_neg c37] at hF
              refine z_iload rfl rfl ?_
              refine z_zeq rfl (fun c38 => ?_) (fun c38 => ?_)
              · rw [if_pos c38] at hF
                refine z_iinc rfl rfl rfl ?_
                refine z_goto rfl ?_
                refine zsubL (L' := [.inr (.inr 78), .inl x1, .inl x2, .inl x3, .inr (.inr 14), .inl (w32 (x5 + 1)), zJk, zJk, zJk]) ⟨Or.inl rfl, Or.inl rfl, Or.inl rfl, Or.inl rfl, Or.inl rfl, Or.inl rfl, Or.inr rfl, Or.inr rfl, Or.inr rfl, trivial⟩ ?_
                exact ih _ _ _ _ _ hF
              · rw [if_neg c38] at hF
                refine z_iload rfl rfl ?_
                refine z_zeq rfl (fun c39 => ?_) (fun c39 => ?_)
                · rw [if_pos c39] at hF
                  refine z_iinc rfl rfl rfl ?_
                  refine z_goto rfl ?_
                  refine zsubL (L' := [.inr (.inr 78), .inl x1, .inl x2, .inl x3, .inr (.inr 14), .inl (w32 (x5 + 1)), zJk, zJk, zJk]) ⟨Or.inl rfl, Or.inl rfl, Or.inl rfl, Or.inl rfl, Or.inl rfl, Or.inl rfl, Or.inr rfl, Or.inr rfl, Or.inr rfl, trivial⟩ ?_
                  exact ih _ _ _ _ _ hF
                · rw [if_neg c39] at hF
                  refine zsubL (L' := [zJk, zJk, zJk, zJk, zJk, zJk, zJk, zJk, zJk]) ⟨Or.inr rfl, Or.inr rfl, Or.inr rfl, Or.inr rfl, Or.inr rfl, Or.inr rfl, Or.inr rfl, Or.inr rfl, Or.inr rfl, trivial⟩ ?_
                  exact K1 _ (Option.some.inj hF).symm
        refine z_zne rfl (fun c27 => ?_) (fun c27 => ?_)
        · refine z_const rfl ?_
          exact zcast (by first | rfl | (simp only [if_neg c27] <;> rfl)) (by first | rfl | (simp only [if_neg c27] <;> rfl)) hJ33
        · refine z_aload rfl rfl rfl ?_
          refine z_iload rfl rfl ?_
          refine z_const rfl ?_
          refine z_inv1 (d' := d - 1) (As := [.inl x5, .inl 1]) rfl rfl (zf_Herd_get_14 (by omega) _ _) rfl rfl rfl (by omega) rfl (fun r28 h29 hR30 hQ31 => ?_)
          obtain ⟨rfl, rfl⟩ := hQ31
          refine z_iload rfl rfl ?_
          refine z_ceq rfl (fun c32 => ?_) (fun c32 => ?_)
          · refine z_const rfl ?_
            exact zcast (by first | rfl | (simp only [if_pos c27, if_pos c32] <;> rfl)) (by first | rfl | (simp only [if_pos c27, if_pos c32] <;> rfl)) hJ33
          · refine z_const rfl ?_
            refine z_goto rfl ?_
            exact zcast (by first | rfl | (simp only [if_pos c27, if_neg c32] <;> rfl)) (by first | rfl | (simp only [if_pos c27, if_neg c32] <;> rfl)) hJ33
      refine z_cne rfl (fun c25 => ?_) (fun c25 => ?_)
      · refine z_const rfl ?_
        exact zcast (by first | rfl | (simp only [if_neg c25] <;> rfl)) (by first | rfl | (simp only [if_neg c25] <;> rfl)) hJ26
      · refine z_const rfl ?_
        refine z_goto rfl ?_
        exact zcast (by first | rfl | (simp only [if_pos c25] <;> rfl)) (by first | rfl | (simp only [if_pos c25] <;> rfl)) hJ26
set_option maxRecDepth 100000 in
set_option maxHeartbeats 4000000 in
theorem zw_Pitches_fitsAll {l : Launch} {E : zE} {d : Nat} (hd : 4 ≤ d) (N : Nat) (x1 x2 x3 : Int) {h : zHp} {Q : Int → zHp → Prop} {r0 : Int} {h0 : zHp} (hF : sh_Pitches_fitsAll N x1 x2 x3 h = some (r0, h0)) (K : Q r0 h0) : zW l E d zm_Pitches_fitsAll 0 [.inr (.inr 78), .inl x1, .inl x2, .inl x3, zJk, zJk, zJk, zJk, zJk] [] h Q := by
  rw [sh_Pitches_fitsAll] at hF
  refine z_aload rfl rfl rfl ?_
  refine z_getr (r := 1) rfl rfl rfl rfl ?_
  refine z_getr (r := 14) rfl rfl rfl rfl ?_
  refine z_astore rfl rfl rfl rfl ?_
  refine z_const rfl ?_
  refine z_istore rfl rfl rfl ?_
  obtain ⟨w41, hL40, hF⟩ := zbind1 hF
  rcases w41 with h42 | h43
  · refine zl_Pitches_fitsAll_L6 (by omega) N (fun q44 e45 => ?_) (fun _ z => by cases z) N _ _ _ _ _ hL40
    obtain rfl := zinl2_0_1 e45
    replace hF := zs2_0_1 hF
    refine z_const rfl ?_
    obtain ⟨rfl, rfl⟩ := zinj2 hF
    exact z_zret rfl rfl (Or.inl rfl) K
  · refine zl_Pitches_fitsAll_L6 (by omega) N (fun _ z => by cases z) (fun q46 e47 => ?_) N _ _ _ _ _ hL40
    obtain rfl := zinl2_1_1 e47
    replace hF := zs2_1_1 hF
    refine z_const rfl ?_
    obtain ⟨rfl, rfl⟩ := zinj2 hF
    exact z_zret rfl rfl (Or.inr rfl) K
set_option maxRecDepth 100000 in
theorem zf_Pitches_fitsAll {l : Launch} {E : zE} {d : Nat} (hd : 4 ≤ d) (N : Nat) (x1 x2 x3 : Int) {h : zHp} {r0 : Int} {h0 : zHp} (hF : sh_Pitches_fitsAll N x1 x2 x3 h = some (r0, h0)) : zC l E d zm_Pitches_fitsAll [.inr (.inr 78), .inl x1, .inl x2, .inl x3] h (fun r1 h1 => r0 = r1 ∧ h0 = h1) :=
  zC_of zk_Pitches_fitsAll (by decide) rfl rfl (Nat.le_of_ble_eq_true rfl) (zw_Pitches_fitsAll hd N _ _ _ hF ⟨rfl, rfl⟩)
def sh_Pitches_search_L15 (N : Nat) : Nat → Int → Int → Int → zHp → Option (Int × Int × zHp)
  | 0, _, _, _, _ => none
  | n + 1, x2, x3, x4, h => (if 10 ≤ x4 then some (x2, x3, h) else zb2 (sh_Pitches_fitsAll N x3 x4 x2 h) fun r8 h9 => sh_Pitches_search_L15 N n x2 x3 (w32 (x4 + 1)) (rput h9 80 50 (w32 ((w32 (x3 * 10)) + x4)) (if r8 = 0 then 0 else 1 : Int)))
def sh_Pitches_search_L8 (N : Nat) : Nat → Int → Int → zHp → Option (zHp)
  | 0, _, _, _ => none
  | n + 1, x2, x3, h => (if h 1 0 ≤ x3 then some h else zb3 (sh_Pitches_search_L15 N N x2 x3 0 h) fun y17 y18 h19 => sh_Pitches_search_L8 N n y17 (w32 (y18 + 1)) h19)
def sh_Pitches_search (N : Nat) (x1 x2 : Int) (h : zHp) : Option zHp := zb1 (sh_Pitches_search_L8 N N x2 0 (zst (zst h 78 5 x1) 78 6 (-1))) fun h21 => zb2 (sh_Pitches_choose N 0 0 h21) fun r27 h28 => some h28
set_option maxRecDepth 100000 in
set_option maxHeartbeats 4000000 in
theorem zl_Pitches_search_L15 {l : Launch} {E : zE} {d : Nat} (hd : 24 ≤ d) (N : Nat) {Q : Int → zHp → Prop} {o2 o3 : Int} {oh : zHp} (K1 : zW l E d zm_Pitches_search 37 [.inr (.inr 78), zJk, .inl o2, .inl o3, zJk] [] oh Q) : ∀ (n : Nat) (x2 x3 x4 : Int) (h : zHp), sh_Pitches_search_L15 N n x2 x3 x4 h = some (o2, o3, oh) → zW l E d zm_Pitches_search 15 [.inr (.inr 78), zJk, .inl x2, .inl x3, .inl x4] [] h Q := by
  intro n
  induction n with
  | zero =>
    intro x2 x3 x4 h hF
    cases (show (none : Option (Int × Int × zHp)) = some (o2, o3, oh) from hF)
  | succ n ih =>
    intro x2 x3 x4 h hF
    rw [sh_Pitches_search_L15] at hF
    refine z_iload rfl rfl ?_
    refine z_const rfl ?_
    refine z_cge rfl (fun c2 => ?_) (fun c2 => ?_)
    · rw [if_pos c2] at hF
      refine zsubL (L' := [.inr (.inr 78), zJk, .inl x2, .inl x3, zJk]) ⟨Or.inl rfl, Or.inl rfl, Or.inl rfl, Or.inl rfl, Or.inr rfl, trivial⟩ ?_
      obtain ⟨rfl, rfl, rfl⟩ := zinj3 hF
      exact K1
    · rw [if_neg c2] at hF
      refine z_aload rfl rfl rfl ?_
      refine z_getr (r := 79) rfl rfl rfl rfl ?_
      refine z_iload rfl rfl ?_
      refine z_const rfl ?_
      refine z_imul rfl ?_
      refine z_iload rfl rfl ?_
      refine z_iadd rfl ?_
      refine z_aload rfl rfl rfl ?_
      refine z_iload rfl rfl ?_
      refine z_iload rfl rfl ?_
      refine z_iload rfl rfl ?_
      obtain ⟨r8, h9, hc7, hF⟩ := zbind2 hF
      refine z_inv1 (d' := d - 1) (As := [.inl x3, .inl x4, .inl x2]) rfl rfl (zf_Pitches_fitsAll (by omega) N _ _ _ hc7) rfl rfl rfl (by omega) rfl (fun r3 h4 hR5 hQ6 => ?_)
      obtain ⟨rfl, rfl⟩ := hQ6
      have hJ11 : zW l E d zm_Pitches_search 34 [.inr (.inr 78), zJk, .inl x2, .inl x3, .inl x4] [.inl (if r8 = 0 then 0 else 1 : Int), .inl (w32 ((w32 (x3 * 10)) + x4)), .inr (.inr 79)] h9 Q := by
        refine z_inv0 (d' := d - 1) (As := [.inl (w32 ((w32 (x3 * 10)) + x4)), .inl (if r8 = 0 then 0 else 1 : Int)]) rfl rfl (zf_Row_put (r := 79) (a := 80) (n := 50) rfl rfl _ _) rfl rfl rfl (by omega) rfl (fun r12 h13 hR14 hQ15 => ?_)
        obtain ⟨rfl, rfl⟩ := hQ15
        refine z_iinc rfl rfl rfl ?_
        refine z_goto rfl ?_
        exact ih _ _ _ _ hF
      refine z_zeq rfl (fun c10 => ?_) (fun c10 => ?_)
      · refine z_const rfl ?_
        exact zcast (by first | rfl | (simp only [if_pos c10] <;> rfl)) (by first | rfl | (simp only [if_pos c10] <;> rfl)) hJ11
      · refine z_const rfl ?_
        refine z_goto rfl ?_
        exact zcast (by first | rfl | (simp only [if_neg c10] <;> rfl)) (by first | rfl | (simp only [if_neg c10] <;> rfl)) hJ11
set_option maxRecDepth 100000 in
set_option maxHeartbeats 4000000 in
theorem zl_Pitches_search_L8 {l : Launch} {E : zE} {d : Nat} (hd : 24 ≤ d) (N : Nat) {Q : Int → zHp → Prop} {oh : zHp} (K1 : zW l E d zm_Pitches_search 39 [.inr (.inr 78), zJk, zJk, zJk, zJk] [] oh Q) : ∀ (n : Nat) (x2 x3 : Int) (h : zHp), sh_Pitches_search_L8 N n x2 x3 h = some oh → zW l E d zm_Pitches_search 8 [.inr (.inr 78), zJk, .inl x2, .inl x3, zJk] [] h Q := by
  intro n
  induction n with
  | zero =>
    intro x2 x3 h hF
    cases (show (none : Option (zHp)) = some oh from hF)
  | succ n ih =>
    intro x2 x3 h hF
    rw [sh_Pitches_search_L8] at hF
    refine z_iload rfl rfl ?_
    refine z_aload rfl rfl rfl ?_
    refine z_getr (r := 1) rfl rfl rfl rfl ?_
    refine z_geti rfl rfl rfl rfl ?_
    refine z_cge rfl (fun c1 => ?_) (fun c1 => ?_)
    · rw [if_pos c1] at hF
      refine zsubL (L' := [.inr (.inr 78), zJk, zJk, zJk, zJk]) ⟨Or.inl rfl, Or.inl rfl, Or.inr rfl, Or.inr rfl, Or.inl rfl, trivial⟩ ?_
      obtain rfl := Option.some.inj hF
      exact K1
    · rw [if_neg c1] at hF
      refine z_const rfl ?_
      refine z_istore rfl rfl rfl ?_
      obtain ⟨y17, y18, h19, hL16, hF⟩ := zbind3 hF
      refine zl_Pitches_search_L15 (by omega) N ?_ N _ _ _ _ hL16
      refine z_iinc rfl rfl rfl ?_
      refine z_goto rfl ?_
      exact ih _ _ _ hF
set_option maxRecDepth 100000 in
set_option maxHeartbeats 4000000 in
theorem zw_Pitches_search {l : Launch} {E : zE} {d : Nat} (hd : 24 ≤ d) (N : Nat) (x1 x2 : Int) {h : zHp} {Q : Int → zHp → Prop} {h0 : zHp} (hF : sh_Pitches_search N x1 x2 h = some h0) (K : Q 0 h0) : zW l E d zm_Pitches_search 0 [.inr (.inr 78), .inl x1, .inl x2, zJk, zJk] [] h Q := by
  rw [sh_Pitches_search] at hF
  refine z_aload rfl rfl rfl ?_
  refine z_iload rfl rfl ?_
  refine z_puti rfl rfl rfl rfl ?_
  refine z_aload rfl rfl rfl ?_
  refine z_const rfl ?_
  refine z_puti rfl rfl rfl rfl ?_
  refine z_const rfl ?_
  refine z_istore rfl rfl rfl ?_
  refine zsubL (L' := [.inr (.inr 78), zJk, .inl x2, .inl 0, zJk]) ⟨Or.inl rfl, Or.inr rfl, Or.inl rfl, Or.inl rfl, Or.inl rfl, trivial⟩ ?_
  obtain ⟨h21, hL20, hF⟩ := zbind1 hF
  refine zl_Pitches_search_L8 (by omega) N ?_ N _ _ _ hL20
  refine z_aload rfl rfl rfl ?_
  refine z_const rfl ?_
  refine z_const rfl ?_
  obtain ⟨r27, h28, hc26, hF⟩ := zbind2 hF
  refine z_inv0 (d' := d - 1) (As := [.inl 0, .inl 0]) rfl rfl (zf_Pitches_choose (by omega) N _ _ hc26) rfl rfl rfl (by omega) rfl (fun r22 h23 hR24 hQ25 => ?_)
  obtain ⟨rfl, rfl⟩ := hQ25
  obtain rfl := Option.some.inj hF
  exact z_ret rfl rfl rfl K
set_option maxRecDepth 100000 in
theorem zf_Pitches_search {l : Launch} {E : zE} {d : Nat} (hd : 24 ≤ d) (N : Nat) (x1 x2 : Int) {h : zHp} {h0 : zHp} (hF : sh_Pitches_search N x1 x2 h = some h0) : zC l E d zm_Pitches_search [.inr (.inr 78), .inl x1, .inl x2] h (fun r1 h1 => 0 = r1 ∧ h0 = h1) :=
  zC_of zk_Pitches_search (by decide) rfl rfl (Nat.le_of_ble_eq_true rfl) (zw_Pitches_search hd N _ _ hF ⟨rfl, rfl⟩)
def sh_Ox_apart (N : Nat) (x1 x2 x3 : Int) (h : zHp) : Option (Int × zHp) := (if sh_Ox_isDigit x1 = 0 then some ((-1), h) else (if sh_Ox_isField x2 h = 0 then some ((-1), h) else (if sh_Ox_isFarmOrNone x3 h = 0 then some ((-1), h) else zb1 (sh_Pitches_search N x1 x2 h) fun h21 => if h21 78 6 = (-1) then some (h21 78 6, h21) else (if x3 = (-1) then some (h21 78 6, h21) else some (rget h21 84 5 x3, h21)))))
set_option maxRecDepth 100000 in
set_option maxHeartbeats 4000000 in
theorem zw_Ox_apart {l : Launch} {E : zE} {d : Nat} (hd : 25 ≤ d) (N : Nat) (x1 x2 x3 : Int) {h : zHp} {Q : Int → zHp → Prop} {r0 : Int} {h0 : zHp} (hF : sh_Ox_apart N x1 x2 x3 h = some (r0, h0)) (K : Q r0 h0) : zW l E d zm_Ox_apart 0 [.inr (.inr 0), .inl x1, .inl x2, .inl x3] [] h Q := by
  rw [sh_Ox_apart] at hF
  refine z_iload rfl rfl ?_
  refine z_ivs1 (d' := d - 1) (As := [.inl x1]) rfl rfl (zf_Ox_isDigit (by omega) _) rfl (by omega) rfl (fun r1 h2 hR3 hQ4 => ?_)
  obtain ⟨rfl, rfl⟩ := hQ4
  refine z_zeq rfl (fun c5 => ?_) (fun c5 => ?_)
  · rw [if_pos c5] at hF
    refine z_const rfl ?_
    obtain ⟨rfl, rfl⟩ := zinj2 hF
    exact z_iret rfl rfl K
  · rw [if_neg c5] at hF
    refine z_aload rfl rfl rfl ?_
    refine z_iload rfl rfl ?_
    refine z_inv1 (d' := d - 1) (As := [.inl x2]) rfl rfl (zf_Ox_isField (by omega) _) rfl rfl rfl (by omega) rfl (fun r6 h7 hR8 hQ9 => ?_)
    obtain ⟨rfl, rfl⟩ := hQ9
    refine z_zeq rfl (fun c10 => ?_) (fun c10 => ?_)
    · rw [if_pos c10] at hF
      refine z_const rfl ?_
      obtain ⟨rfl, rfl⟩ := zinj2 hF
      exact z_iret rfl rfl K
    · rw [if_neg c10] at hF
      refine z_aload rfl rfl rfl ?_
      refine z_iload rfl rfl ?_
      refine z_inv1 (d' := d - 1) (As := [.inl x3]) rfl rfl (zf_Ox_isFarmOrNone (by omega) _) rfl rfl rfl (by omega) rfl (fun r11 h12 hR13 hQ14 => ?_)
      obtain ⟨rfl, rfl⟩ := hQ14
      refine z_zne rfl (fun c15 => ?_) (fun c15 => ?_)
      · rw [if_neg c15] at hF
        refine z_aload rfl rfl rfl ?_
        refine z_getr (r := 78) rfl rfl rfl rfl ?_
        refine z_iload rfl rfl ?_
        refine z_iload rfl rfl ?_
        obtain ⟨h21, hc20, hF⟩ := zbind1 hF
        refine z_inv0 (d' := d - 1) (As := [.inl x1, .inl x2]) rfl rfl (zf_Pitches_search (by omega) N _ _ hc20) rfl rfl rfl (by omega) rfl (fun r16 h17 hR18 hQ19 => ?_)
        obtain ⟨rfl, rfl⟩ := hQ19
        refine z_aload rfl rfl rfl ?_
        refine z_getr (r := 78) rfl rfl rfl rfl ?_
        refine z_geti rfl rfl rfl rfl ?_
        refine z_const rfl ?_
        refine z_ceq rfl (fun c22 => ?_) (fun c22 => ?_)
        · rw [if_pos c22] at hF
          refine z_aload rfl rfl rfl ?_
          refine z_getr (r := 78) rfl rfl rfl rfl ?_
          refine z_geti rfl rfl rfl rfl ?_
          obtain ⟨rfl, rfl⟩ := zinj2 hF
          exact z_iret rfl rfl K
        · rw [if_neg c22] at hF
          refine z_iload rfl rfl ?_
          refine z_const rfl ?_
          refine z_cne rfl (fun c23 => ?_) (fun c23 => ?_)
          · rw [if_neg c23] at hF
            refine z_aload rfl rfl rfl ?_
            refine z_getr (r := 78) rfl rfl rfl rfl ?_
            refine z_getr (r := 83) rfl rfl rfl rfl ?_
            refine z_iload rfl rfl ?_
            refine z_inv1 (d' := d - 1) (As := [.inl x3]) rfl rfl (zf_Row_get (r := 83) (a := 84) (n := 5) rfl rfl _) rfl rfl rfl (by omega) rfl (fun r24 h25 hR26 hQ27 => ?_)
            obtain ⟨rfl, rfl⟩ := hQ27
            obtain ⟨rfl, rfl⟩ := zinj2 hF
            exact z_iret rfl rfl K
          · rw [if_pos c23] at hF
            refine z_aload rfl rfl rfl ?_
            refine z_getr (r := 78) rfl rfl rfl rfl ?_
            refine z_geti rfl rfl rfl rfl ?_
            obtain ⟨rfl, rfl⟩ := zinj2 hF
            exact z_iret rfl rfl K
      · rw [if_pos c15] at hF
        refine z_const rfl ?_
        obtain ⟨rfl, rfl⟩ := zinj2 hF
        exact z_iret rfl rfl K
set_option maxRecDepth 100000 in
theorem zf_Ox_apart {l : Launch} {E : zE} {d : Nat} (hd : 25 ≤ d) (N : Nat) (x1 x2 x3 : Int) {h : zHp} {r0 : Int} {h0 : zHp} (hF : sh_Ox_apart N x1 x2 x3 h = some (r0, h0)) : zC l E d zm_Ox_apart [.inr (.inr 0), .inl x1, .inl x2, .inl x3] h (fun r1 h1 => r0 = r1 ∧ h0 = h1) :=
  zC_of zk_Ox_apart (by decide) rfl rfl (Nat.le_of_ble_eq_true rfl) (zw_Ox_apart hd N _ _ _ hF ⟨rfl, rfl⟩)
def sh_Mo_mayBe_L2 (N : Nat) : Nat → Int → Int → Int → Int → zHp → Option ((zHp) ⊕ ((zHp) ⊕ (zHp)))
  | 0, _, _, _, _, _ => none
  | n + 1, x1, x2, x3, x4, h => (if h 86 2 ≤ x4 then some (.inr (.inr h)) else zb1 (sh_Mo_name N x4 x1 x2 x3 0 (h 86 3) h) fun h7 => zb2 (sh_Mo_isHeeded N h7) fun r13 h14 => zb1 (sh_Mo_told N x4 0 h14) fun r20 => if r20 = x1 then (if r13 = 0 then some (.inl h14) else sh_Mo_mayBe_L2 N n x1 x2 x3 (w32 (x4 + 1)) h14) else (if r13 = 0 then sh_Mo_mayBe_L2 N n x1 x2 x3 (w32 (x4 + 1)) h14 else zb1 (sh_Mo_told N x4 1 h14) fun r28 => if r28 = x1 then sh_Mo_mayBe_L2 N n x1 x2 x3 (w32 (x4 + 1)) h14 else some (.inr (.inl h14))))
def sh_Mo_mayBe (N : Nat) (x1 x2 x3 : Int) (h : zHp) : Option (Int × zHp) := zb1 (sh_Mo_mayBe_L2 N N x1 x2 x3 0 h) fun w32 => zsum3 w32 (zcu1 fun h33 => some (0, h33)) (zcu1 fun h34 => some (0, h34)) (zcu1 fun h35 => some (1, h35))
set_option maxRecDepth 100000 in
set_option maxHeartbeats 4000000 in
theorem zl_Mo_mayBe_L2 {l : Launch} {E : zE} {d : Nat} (hd : 5 ≤ d) (N : Nat) {Q : Int → zHp → Prop} {res : (zHp) ⊕ ((zHp) ⊕ (zHp))} (K1 : ∀ (oh : zHp), res = .inl oh → zW l E d zm_Mo_mayBe 30 [zJk, zJk, zJk, zJk, zJk, zJk] [] oh Q) (K2 : ∀ (oh : zHp), res = .inr (.inl oh) → zW l E d zm_Mo_mayBe 39 [zJk, zJk, zJk, zJk, zJk, zJk] [] oh Q) (K3 : ∀ (oh : zHp), res = .inr (.inr oh) → zW l E d zm_Mo_mayBe 43 [zJk, zJk, zJk, zJk, zJk, zJk] [] oh Q) : ∀ (n : Nat) (x1 x2 x3 x4 : Int) (h : zHp), sh_Mo_mayBe_L2 N n x1 x2 x3 x4 h = some res → zW l E d zm_Mo_mayBe 2 [.inr (.inr 85), .inl x1, .inl x2, .inl x3, .inl x4, zJk] [] h Q := by
  intro n
  induction n with
  | zero =>
    intro x1 x2 x3 x4 h hF
    cases (show (none : Option ((zHp) ⊕ ((zHp) ⊕ (zHp)))) = some res from hF)
  | succ n ih =>
    intro x1 x2 x3 x4 h hF
    rw [sh_Mo_mayBe_L2] at hF
    refine z_iload rfl rfl ?_
    refine z_aload rfl rfl rfl ?_
    refine z_getr (r := 86) rfl rfl rfl rfl ?_
    refine z_const rfl ?_
    refine z_ialdc 2 rfl rfl rfl (by decide) ?_
    refine z_cge rfl (fun c1 => ?_) (fun c1 => ?_)
    · rw [if_pos c1] at hF
      refine zsubL (L' := [zJk, zJk, zJk, zJk, zJk, zJk]) ⟨Or.inr rfl, Or.inr rfl, Or.inr rfl, Or.inr rfl, Or.inr rfl, Or.inl rfl, trivial⟩ ?_
      exact K3 _ (Option.some.inj hF).symm
    · rw [if_neg c1] at hF
      refine z_aload rfl rfl rfl ?_
      refine z_iload rfl rfl ?_
      refine z_iload rfl rfl ?_
      refine z_iload rfl rfl ?_
      refine z_iload rfl rfl ?_
      refine z_const rfl ?_
      refine z_aload rfl rfl rfl ?_
      refine z_getr (r := 86) rfl rfl rfl rfl ?_
      refine z_const rfl ?_
      refine z_ialdc 3 rfl rfl rfl (by decide) ?_
      obtain ⟨h7, hc6, hF⟩ := zbind1 hF
      refine z_inv0 (d' := d - 1) (As := [.inl x4, .inl x1, .inl x2, .inl x3, .inl 0, .inl (h 86 3)]) rfl rfl (zf_Mo_name (by omega) N _ _ _ _ _ _ hc6) rfl rfl rfl (by omega) rfl (fun r2 h3 hR4 hQ5 => ?_)
      obtain ⟨rfl, rfl⟩ := hQ5
      refine z_aload rfl rfl rfl ?_
      obtain ⟨r13, h14, hc12, hF⟩ := zbind2 hF
      refine z_inv1 (d' := d - 1) (As := []) rfl rfl (zf_Mo_isHeeded (by omega) N hc12) rfl rfl rfl (by omega) rfl (fun r8 h9 hR10 hQ11 => ?_)
      obtain ⟨rfl, rfl⟩ := hQ11
      refine z_istore rfl rfl rfl ?_
      refine z_aload rfl rfl rfl ?_
      refine z_iload rfl rfl ?_
      refine z_const rfl ?_
      obtain ⟨r20, hc19, hF⟩ := zbind1 hF
      refine z_inv1 (d' := d - 1) (As := [.inl x4, .inl 0]) rfl rfl (zf_Mo_told (by omega) N _ _ hc19) rfl rfl rfl (by omega) rfl (fun r15 h16 hR17 hQ18 => ?_)
      obtain ⟨rfl, rfl⟩ := hQ18
      refine z_iload rfl rfl ?_
      refine z_cne rfl (fun c21 => ?_) (fun c21 => ?_)
      · rw [if_neg c21] at hF
        refine z_iload rfl rfl ?_
        refine z_zeq rfl (fun c22 => ?_) (fun c22 => ?_)
        · rw [if_pos c22] at hF
          refine z_iinc rfl rfl rfl ?_
          refine z_goto rfl ?_
          refine zsubL (L' := [.inr (.inr 85), .inl x1, .inl x2, .inl x3, .inl (w32 (x4 + 1)), zJk]) ⟨Or.inl rfl, Or.inl rfl, Or.inl rfl, Or.inl rfl, Or.inl rfl, Or.inr rfl, trivial⟩ ?_
          exact ih _ _ _ _ _ hF
        · rw [if_neg c22] at hF
          refine z_aload rfl rfl rfl ?_
          refine z_iload rfl rfl ?_
          refine z_const rfl ?_
          obtain ⟨r28, hc27, hF⟩ := zbind1 hF
          refine z_inv1 (d' := d - 1) (As := [.inl x4, .inl 1]) rfl rfl (zf_Mo_told (by omega) N _ _ hc27) rfl rfl rfl (by omega) rfl (fun r23 h24 hR25 hQ26 => ?_)
          obtain ⟨rfl, rfl⟩ := hQ26
          refine z_iload rfl rfl ?_
          refine z_ceq rfl (fun c29 => ?_) (fun c29 => ?_)
          · rw [if_pos c29] at hF
            refine z_iinc rfl rfl rfl ?_
            refine z_goto rfl ?_
            refine zsubL (L' := [.inr (.inr 85), .inl x1, .inl x2, .inl x3, .inl (w32 (x4 + 1)), zJk]) ⟨Or.inl rfl, Or.inl rfl, Or.inl rfl, Or.inl rfl, Or.inl rfl, Or.inr rfl, trivial⟩ ?_
            exact ih _ _ _ _ _ hF
          · rw [if_neg c29] at hF
            refine zsubL (L' := [zJk, zJk, zJk, zJk, zJk, zJk]) ⟨Or.inr rfl, Or.inr rfl, Or.inr rfl, Or.inr rfl, Or.inr rfl, Or.inr rfl, trivial⟩ ?_
            exact K2 _ (Option.some.inj hF).symm
      · rw [if_pos c21] at hF
        refine z_iload rfl rfl ?_
        refine z_zne rfl (fun c30 => ?_) (fun c30 => ?_)
        · rw [if_neg c30] at hF
          refine z_iinc rfl rfl rfl ?_
          refine z_goto rfl ?_
          refine zsubL (L' := [.inr (.inr 85), .inl x1, .inl x2, .inl x3, .inl (w32 (x4 + 1)), zJk]) ⟨Or.inl rfl, Or.inl rfl, Or.inl rfl, Or.inl rfl, Or.inl rfl, Or.inr rfl, trivial⟩ ?_
          exact ih _ _ _ _ _ hF
        · rw [if_pos c30] at hF
          refine zsubL (L' := [zJk, zJk, zJk, zJk, zJk, zJk]) ⟨Or.inr rfl, Or.inr rfl, Or.inr rfl, Or.inr rfl, Or.inr rfl, Or.inr rfl, trivial⟩ ?_
          exact K1 _ (Option.some.inj hF).symm
set_option maxRecDepth 100000 in
set_option maxHeartbeats 4000000 in
theorem zw_Mo_mayBe {l : Launch} {E : zE} {d : Nat} (hd : 5 ≤ d) (N : Nat) (x1 x2 x3 : Int) {h : zHp} {Q : Int → zHp → Prop} {r0 : Int} {h0 : zHp} (hF : sh_Mo_mayBe N x1 x2 x3 h = some (r0, h0)) (K : Q r0 h0) : zW l E d zm_Mo_mayBe 0 [.inr (.inr 85), .inl x1, .inl x2, .inl x3, zJk, zJk] [] h Q := by
  rw [sh_Mo_mayBe] at hF
  refine z_const rfl ?_
  refine z_istore rfl rfl rfl ?_
  obtain ⟨w32, hL31, hF⟩ := zbind1 hF
  rcases w32 with h33 | h34 | h35
  · refine zl_Mo_mayBe_L2 (by omega) N (fun q36 e37 => ?_) (fun _ z => by cases z) (fun _ z => by cases z) N _ _ _ _ _ hL31
    obtain rfl := zinl3_0_1 e37
    replace hF := zs3_0_1 hF
    refine z_goto rfl ?_
    refine z_const rfl ?_
    obtain ⟨rfl, rfl⟩ := zinj2 hF
    exact z_zret rfl rfl (Or.inl rfl) K
  · refine zl_Mo_mayBe_L2 (by omega) N (fun _ z => by cases z) (fun q38 e39 => ?_) (fun _ z => by cases z) N _ _ _ _ _ hL31
    obtain rfl := zinl3_1_1 e39
    replace hF := zs3_1_1 hF
    refine z_const rfl ?_
    obtain ⟨rfl, rfl⟩ := zinj2 hF
    exact z_zret rfl rfl (Or.inl rfl) K
  · refine zl_Mo_mayBe_L2 (by omega) N (fun _ z => by cases z) (fun _ z => by cases z) (fun q40 e41 => ?_) N _ _ _ _ _ hL31
    obtain rfl := zinl3_2_1 e41
    replace hF := zs3_2_1 hF
    refine z_const rfl ?_
    obtain ⟨rfl, rfl⟩ := zinj2 hF
    exact z_zret rfl rfl (Or.inr rfl) K
set_option maxRecDepth 100000 in
theorem zf_Mo_mayBe {l : Launch} {E : zE} {d : Nat} (hd : 5 ≤ d) (N : Nat) (x1 x2 x3 : Int) {h : zHp} {r0 : Int} {h0 : zHp} (hF : sh_Mo_mayBe N x1 x2 x3 h = some (r0, h0)) : zC l E d zm_Mo_mayBe [.inr (.inr 85), .inl x1, .inl x2, .inl x3] h (fun r1 h1 => r0 = r1 ∧ h0 = h1) :=
  zC_of zk_Mo_mayBe (by decide) rfl rfl (Nat.le_of_ble_eq_true rfl) (zw_Mo_mayBe hd N _ _ _ hF ⟨rfl, rfl⟩)
def sh_Mo_changed_L4 (N : Nat) (h : zHp) : Nat → Int → Int → Int → Option (Int)
  | 0, _, _, _ => none
  | n + 1, x1, x2, x3 => (if x1 ≤ x3 then some x2 else if 0 ≤ x3 ∧ x3 < 5 then zb1 (sh_Mo_pitchOf N x3 h) fun r8 => sh_Mo_changed_L4 N h n x1 (w32 (x2 + (sh_Mo_gap (h 98 x3.toNat) r8))) (w32 (x3 + 1)) else none)
def sh_Mo_changed (N : Nat) (x1 : Int) (h : zHp) : Option Int := zb1 (sh_Mo_changed_L4 N h N x1 0 0) fun y14 => some y14
set_option maxRecDepth 100000 in
set_option maxHeartbeats 4000000 in
theorem zl_Mo_changed_L4 {l : Launch} {E : zE} {d : Nat} (hd : 2 ≤ d) (N : Nat) {h : zHp} {Q : Int → zHp → Prop} {o2 : Int} (K1 : zW l E d zm_Mo_changed 20 [zJk, zJk, .inl o2, zJk] [] h Q) : ∀ (n : Nat) (x1 x2 x3 : Int) , sh_Mo_changed_L4 N h n x1 x2 x3 = some o2 → zW l E d zm_Mo_changed 4 [.inr (.inr 85), .inl x1, .inl x2, .inl x3] [] h Q := by
  intro n
  induction n with
  | zero =>
    intro x1 x2 x3 hF
    cases (show (none : Option (Int)) = some o2 from hF)
  | succ n ih =>
    intro x1 x2 x3 hF
    rw [sh_Mo_changed_L4] at hF
    refine z_iload rfl rfl ?_
    refine z_iload rfl rfl ?_
    refine z_cge rfl (fun c1 => ?_) (fun c1 => ?_)
    · rw [if_pos c1] at hF
      refine zsubL (L' := [zJk, zJk, .inl x2, zJk]) ⟨Or.inr rfl, Or.inr rfl, Or.inl rfl, Or.inr rfl, trivial⟩ ?_
      obtain rfl := Option.some.inj hF
      exact K1
    · rw [if_neg c1] at hF
      refine z_iload rfl rfl ?_
      refine z_aload rfl rfl rfl ?_
      refine z_getr (r := 98) rfl rfl rfl rfl ?_
      refine z_iload rfl rfl ?_
      obtain ⟨g2, hF⟩ := zguard hF
      refine z_iald rfl rfl g2.1 g2.2 ?_
      refine z_aload rfl rfl rfl ?_
      refine z_iload rfl rfl ?_
      obtain ⟨r8, hc7, hF⟩ := zbind1 hF
      refine z_inv1 (d' := d - 1) (As := [.inl x3]) rfl rfl (zf_Mo_pitchOf (by omega) N _ hc7) rfl rfl rfl (by omega) rfl (fun r3 h4 hR5 hQ6 => ?_)
      obtain ⟨rfl, rfl⟩ := hQ6
      refine z_ivs1 (d' := d - 1) (As := [.inl (h 98 x3.toNat), .inl r8]) rfl rfl (zf_Mo_gap (by omega) _ _) rfl (by omega) rfl (fun r9 h10 hR11 hQ12 => ?_)
      obtain ⟨rfl, rfl⟩ := hQ12
      refine z_iadd rfl ?_
      refine z_istore rfl rfl rfl ?_
      refine z_iinc rfl rfl rfl ?_
      refine z_goto rfl ?_
      exact ih _ _ _ hF
set_option maxRecDepth 100000 in
set_option maxHeartbeats 4000000 in
theorem zw_Mo_changed {l : Launch} {E : zE} {d : Nat} (hd : 2 ≤ d) (N : Nat) (x1 : Int) {h : zHp} {Q : Int → zHp → Prop} {r0 : Int} (hF : sh_Mo_changed N x1 h = some r0) (K : Q r0 h) : zW l E d zm_Mo_changed 0 [.inr (.inr 85), .inl x1, zJk, zJk] [] h Q := by
  rw [sh_Mo_changed] at hF
  refine z_const rfl ?_
  refine z_istore rfl rfl rfl ?_
  refine z_const rfl ?_
  refine z_istore rfl rfl rfl ?_
  obtain ⟨y14, hL13, hF⟩ := zbind1 hF
  refine zl_Mo_changed_L4 (by omega) N ?_ N _ _ _ hL13
  refine z_iload rfl rfl ?_
  obtain rfl := Option.some.inj hF
  exact z_iret rfl rfl K
set_option maxRecDepth 100000 in
theorem zf_Mo_changed {l : Launch} {E : zE} {d : Nat} (hd : 2 ≤ d) (N : Nat) (x1 : Int) {h : zHp} {r0 : Int} (hF : sh_Mo_changed N x1 h = some r0) : zC l E d zm_Mo_changed [.inr (.inr 85), .inl x1] h (fun r1 h1 => r0 = r1 ∧ h = h1) :=
  zC_of zk_Mo_changed (by decide) rfl rfl (Nat.le_of_ble_eq_true rfl) (zw_Mo_changed hd N _ hF ⟨rfl, rfl⟩)
def sh_Mo_isApart_L2 (N : Nat) (h : zHp) : Nat → Int → Int → Int → Option ((Nat) ⊕ (Nat))
  | 0, _, _, _ => none
  | n + 1, x1, x2, x3 => (if x1 ≤ x3 then some (.inr 0) else if 0 ≤ x3 ∧ x3 < 5 then if 0 ≤ x1 ∧ x1 < 5 then if x2 ≤ sh_Mo_gap (h 98 x3.toNat) (h 98 x1.toNat) then sh_Mo_isApart_L2 N h n x1 x2 (w32 (x3 + 1)) else some (.inl 0) else none else none)
def sh_Mo_isApart (N : Nat) (x1 x2 : Int) (h : zHp) : Option Int := zb1 (sh_Mo_isApart_L2 N h N x1 x2 0) fun w10 => zsum2 w10 (zcu1 fun y11 => some 0) (zcu1 fun y12 => some 1)
set_option maxRecDepth 100000 in
set_option maxHeartbeats 4000000 in
theorem zl_Mo_isApart_L2 {l : Launch} {E : zE} {d : Nat} (hd : 2 ≤ d) (N : Nat) {h : zHp} {Q : Int → zHp → Prop} {res : (Nat) ⊕ (Nat)} (K1 : ∀ (on : Nat), res = .inl on → zW l E d zm_Mo_isApart 16 [zJk, zJk, zJk, zJk] [] h Q) (K2 : ∀ (on : Nat), res = .inr on → zW l E d zm_Mo_isApart 20 [zJk, zJk, zJk, zJk] [] h Q) : ∀ (n : Nat) (x1 x2 x3 : Int) , sh_Mo_isApart_L2 N h n x1 x2 x3 = some res → zW l E d zm_Mo_isApart 2 [.inr (.inr 85), .inl x1, .inl x2, .inl x3] [] h Q := by
  intro n
  induction n with
  | zero =>
    intro x1 x2 x3 hF
    cases (show (none : Option ((Nat) ⊕ (Nat))) = some res from hF)
  | succ n ih =>
    intro x1 x2 x3 hF
    rw [sh_Mo_isApart_L2] at hF
    refine z_iload rfl rfl ?_
    refine z_iload rfl rfl ?_
    refine z_cge rfl (fun c1 => ?_) (fun c1 => ?_)
    · rw [if_pos c1] at hF
      refine zsubL (L' := [zJk, zJk, zJk, zJk]) ⟨Or.inr rfl, Or.inr rfl, Or.inr rfl, Or.inr rfl, trivial⟩ ?_
      exact K2 _ (Option.some.inj hF).symm
    · rw [if_neg c1] at hF
      refine z_aload rfl rfl rfl ?_
      refine z_getr (r := 98) rfl rfl rfl rfl ?_
      refine z_iload rfl rfl ?_
      obtain ⟨g2, hF⟩ := zguard hF
      refine z_iald rfl rfl g2.1 g2.2 ?_
      refine z_aload rfl rfl rfl ?_
      refine z_getr (r := 98) rfl rfl rfl rfl ?_
      refine z_iload rfl rfl ?_
      obtain ⟨g3, hF⟩ := zguard hF
      refine z_iald rfl rfl g3.1 g3.2 ?_
      refine z_ivs1 (d' := d - 1) (As := [.inl (h 98 x3.toNat), .inl (h 98 x1.toNat)]) rfl rfl (zf_Mo_gap (by omega) _ _) rfl (by omega) rfl (fun r4 h5 hR6 hQ7 => ?_)
      obtain ⟨rfl, rfl⟩ := hQ7
      refine z_iload rfl rfl ?_
      refine z_cge rfl (fun c8 => ?_) (fun c8 => ?_)
      · rw [if_pos c8] at hF
        refine z_iinc rfl rfl rfl ?_
        refine z_goto rfl ?_
        exact ih _ _ _ hF
      · rw [if_neg c8] at hF
        refine zsubL (L' := [zJk, zJk, zJk, zJk]) ⟨Or.inr rfl, Or.inr rfl, Or.inr rfl, Or.inr rfl, trivial⟩ ?_
        exact K1 _ (Option.some.inj hF).symm
set_option maxRecDepth 100000 in
set_option maxHeartbeats 4000000 in
theorem zw_Mo_isApart {l : Launch} {E : zE} {d : Nat} (hd : 2 ≤ d) (N : Nat) (x1 x2 : Int) {h : zHp} {Q : Int → zHp → Prop} {r0 : Int} (hF : sh_Mo_isApart N x1 x2 h = some r0) (K : Q r0 h) : zW l E d zm_Mo_isApart 0 [.inr (.inr 85), .inl x1, .inl x2, zJk] [] h Q := by
  rw [sh_Mo_isApart] at hF
  refine z_const rfl ?_
  refine z_istore rfl rfl rfl ?_
  obtain ⟨w10, hL9, hF⟩ := zbind1 hF
  rcases w10 with y11 | y12
  · refine zl_Mo_isApart_L2 (by omega) N (fun q13 e14 => ?_) (fun _ z => by cases z) N _ _ _ hL9
    obtain rfl := zinl2_0_1 e14
    replace hF := zs2_0_1 hF
    refine z_const rfl ?_
    obtain rfl := Option.some.inj hF
    exact z_zret rfl rfl (Or.inl rfl) K
  · refine zl_Mo_isApart_L2 (by omega) N (fun _ z => by cases z) (fun q15 e16 => ?_) N _ _ _ hL9
    obtain rfl := zinl2_1_1 e16
    replace hF := zs2_1_1 hF
    refine z_const rfl ?_
    obtain rfl := Option.some.inj hF
    exact z_zret rfl rfl (Or.inr rfl) K
set_option maxRecDepth 100000 in
theorem zf_Mo_isApart {l : Launch} {E : zE} {d : Nat} (hd : 2 ≤ d) (N : Nat) (x1 x2 : Int) {h : zHp} {r0 : Int} (hF : sh_Mo_isApart N x1 x2 h = some r0) : zC l E d zm_Mo_isApart [.inr (.inr 85), .inl x1, .inl x2] h (fun r1 h1 => r0 = r1 ∧ h = h1) :=
  zC_of zk_Mo_isApart (by decide) rfl rfl (Nat.le_of_ble_eq_true rfl) (zw_Mo_isApart hd N _ _ hF ⟨rfl, rfl⟩)
def sh_Mo_set_L12 (N : Nat) : Nat → Int → Int → Int → Int → Int → zHp → Option (Int × Int × Int × Int × zHp)
  | 0, _, _, _, _, _, _ => none
  | n + 1, x1, x2, x3, x4, x5, h => (if 10 ≤ x5 then some (x1, x2, x3, x4, h) else zb2 (sh_Mo_mayBe N x4 x5 x2 h) fun r8 h9 => if 0 ≤ w32 ((w32 (10 * x4)) + x5) ∧ w32 ((w32 (10 * x4)) + x5) < 50 then sh_Mo_set_L12 N n x1 x2 x3 x4 (w32 (x5 + 1)) (zst h9 97 (w32 ((w32 (10 * x4)) + x5)).toNat r8) else none)
def sh_Mo_set_L7 (N : Nat) : Nat → Int → Int → Int → Int → zHp → Option (Int × Int × zHp)
  | 0, _, _, _, _, _ => none
  | n + 1, x1, x2, x3, x4, h => (if x3 ≤ x4 then some (x1, x3, h) else zb5 (sh_Mo_set_L12 N N x1 x2 x3 x4 0 h) fun y12 y13 y14 y15 h16 => sh_Mo_set_L7 N n y12 y13 y14 (w32 (y15 + 1)) h16)
def sh_Mo_set_L82 (N : Nat) : Nat → Int → Int → Int → Int → zHp → Option (Int × Int × Int × Int × zHp)
  | 0, _, _, _, _, _ => none
  | n + 1, x1, x3, x4, x5, h => if 0 ≤ x5 ∧ x5 < 5 then if 10 ≤ h 98 x5.toNat then some (x1, x3, x4, x5, h) else if 0 ≤ x5 ∧ x5 < 5 then if 0 ≤ w32 ((w32 (10 * x5)) + (h 98 x5.toNat)) ∧ w32 ((w32 (10 * x5)) + (h 98 x5.toNat)) < 50 then if h 97 (w32 ((w32 (10 * x5)) + (h 98 x5.toNat))).toNat = 0 then if 0 ≤ x5 ∧ x5 < 5 then if 0 ≤ x5 ∧ x5 < 5 then sh_Mo_set_L82 N n x1 x3 x4 x5 (zst h 98 x5.toNat (w32 ((h 98 x5.toNat) + 1))) else none else none else zb1 (sh_Mo_isApart N x5 x1 h) fun r38 => if r38 = 0 then if 0 ≤ x5 ∧ x5 < 5 then if 0 ≤ x5 ∧ x5 < 5 then sh_Mo_set_L82 N n x1 x3 x4 x5 (zst h 98 x5.toNat (w32 ((h 98 x5.toNat) + 1))) else none else none else some (x1, x3, x4, x5, h) else none else none else none
def sh_Mo_set_L59 (N : Nat) : Nat → Int → Int → Int → Int → Int → zHp → Option (Int × Int × Int × Int × zHp)
  | 0, _, _, _, _, _, _ => none
  | n + 1, x1, x3, x4, x5, x7, h => (if x3 ≤ x7 then some (x1, x3, x4, x5, h) else if 0 ≤ x7 ∧ x7 < 5 then if 0 ≤ x7 ∧ x7 < 5 then sh_Mo_set_L59 N n x1 x3 x4 x5 (w32 (x7 + 1)) (zst h 99 x7.toNat (h 98 x7.toNat)) else none else none)
def sh_Mo_set_L41 (N : Nat) : Nat → Int → Int → Int → Int → zHp → Option (Int × zHp)
  | 0, _, _, _, _, _ => none
  | n + 1, x1, x3, x4, x5, h => (if x5 < 0 then some (x4, h) else (if x5 = x3 then zb1 (sh_Mo_changed N x3 h) fun r57 => if x4 < 0 then zb5 (sh_Mo_set_L59 N N x1 x3 r57 x5 0 h) fun y64 y65 y66 y67 h68 => sh_Mo_set_L41 N n y64 y65 y66 (w32 (y67 + (-1))) h68 else (if x4 ≤ r57 then sh_Mo_set_L41 N n x1 x3 x4 (w32 (x5 + (-1))) h else zb5 (sh_Mo_set_L59 N N x1 x3 r57 x5 0 h) fun y72 y73 y74 y75 h76 => sh_Mo_set_L41 N n y72 y73 y74 (w32 (y75 + (-1))) h76) else if 0 ≤ x5 ∧ x5 < 5 then if 0 ≤ x5 ∧ x5 < 5 then zb5 (sh_Mo_set_L82 N N x1 x3 x4 x5 (zst h 98 x5.toNat (w32 ((h 98 x5.toNat) + 1)))) fun y43 y44 y45 y46 h47 => if 0 ≤ y46 ∧ y46 < 5 then if h47 98 y46.toNat ≤ 9 then (if y44 ≤ w32 (y46 + 1) then sh_Mo_set_L41 N n y43 y44 y45 (w32 (y46 + 1)) h47 else if 0 ≤ w32 (y46 + 1) ∧ w32 (y46 + 1) < 5 then sh_Mo_set_L41 N n y43 y44 y45 (w32 (y46 + 1)) (zst h47 98 (w32 (y46 + 1)).toNat (-1)) else none) else sh_Mo_set_L41 N n y43 y44 y45 (w32 (y46 + (-1))) h47 else none else none else none))
def sh_Mo_set (N : Nat) (x1 x2 : Int) (h : zHp) : Option (Int × zHp) := zb3 (sh_Mo_set_L7 N N x1 x2 (h 86 0) 0 h) fun y18 y19 h20 => zb2 (sh_Mo_set_L41 N N y18 y19 (-1) 0 (zst h20 98 0 (-1))) fun y78 h79 => some (y78, h79)
set_option maxRecDepth 100000 in
set_option maxHeartbeats 4000000 in
theorem zl_Mo_set_L12 {l : Launch} {E : zE} {d : Nat} (hd : 6 ≤ d) (N : Nat) {Q : Int → zHp → Prop} {o1 o2 o3 o4 : Int} {oh : zHp} (K1 : zW l E d zm_Mo_set 30 [.inr (.inr 85), .inl o1, .inl o2, .inl o3, .inl o4, zJk, zJk, zJk] [] oh Q) : ∀ (n : Nat) (x1 x2 x3 x4 x5 : Int) (h : zHp), sh_Mo_set_L12 N n x1 x2 x3 x4 x5 h = some (o1, o2, o3, o4, oh) → zW l E d zm_Mo_set 12 [.inr (.inr 85), .inl x1, .inl x2, .inl x3, .inl x4, .inl x5, zJk, zJk] [] h Q := by
  intro n
  induction n with
  | zero =>
    intro x1 x2 x3 x4 x5 h hF
    cases (show (none : Option (Int × Int × Int × Int × zHp)) = some (o1, o2, o3, o4, oh) from hF)
  | succ n ih =>
    intro x1 x2 x3 x4 x5 h hF
    rw [sh_Mo_set_L12] at hF
    refine z_iload rfl rfl ?_
    refine z_const rfl ?_
    refine z_cge rfl (fun c2 => ?_) (fun c2 => ?_)
    · rw [if_pos c2] at hF
      refine zsubL (L' := [.inr (.inr 85), .inl x1, .inl x2, .inl x3, .inl x4, zJk, zJk, zJk]) ⟨Or.inl rfl, Or.inl rfl, Or.inl rfl, Or.inl rfl, Or.inl rfl, Or.inr rfl, Or.inl rfl, Or.inl rfl, trivial⟩ ?_
      obtain ⟨rfl, rfl, rfl, rfl, rfl⟩ := zinj5 hF
      exact K1
    · rw [if_neg c2] at hF
      refine z_aload rfl rfl rfl ?_
      refine z_getr (r := 97) rfl rfl rfl rfl ?_
      refine z_const rfl ?_
      refine z_iload rfl rfl ?_
      refine z_imul rfl ?_
      refine z_iload rfl rfl ?_
      refine z_iadd rfl ?_
      refine z_aload rfl rfl rfl ?_
      refine z_iload rfl rfl ?_
      refine z_iload rfl rfl ?_
      refine z_iload rfl rfl ?_
      obtain ⟨r8, h9, hc7, hF⟩ := zbind2 hF
      refine z_inv1 (d' := d - 1) (As := [.inl x4, .inl x5, .inl x2]) rfl rfl (zf_Mo_mayBe (by omega) N _ _ _ hc7) rfl rfl rfl (by omega) rfl (fun r3 h4 hR5 hQ6 => ?_)
      obtain ⟨rfl, rfl⟩ := hQ6
      obtain ⟨g10, hF⟩ := zguard hF
      refine z_bast rfl rfl g10.1 g10.2 (zRr_z rfl hR5) ?_
      refine z_iinc rfl rfl rfl ?_
      refine z_goto rfl ?_
      exact ih _ _ _ _ _ _ hF
set_option maxRecDepth 100000 in
set_option maxHeartbeats 4000000 in
theorem zl_Mo_set_L7 {l : Launch} {E : zE} {d : Nat} (hd : 6 ≤ d) (N : Nat) {Q : Int → zHp → Prop} {o1 o3 : Int} {oh : zHp} (K1 : zW l E d zm_Mo_set 32 [.inr (.inr 85), .inl o1, zJk, .inl o3, zJk, zJk, zJk, zJk] [] oh Q) : ∀ (n : Nat) (x1 x2 x3 x4 : Int) (h : zHp), sh_Mo_set_L7 N n x1 x2 x3 x4 h = some (o1, o3, oh) → zW l E d zm_Mo_set 7 [.inr (.inr 85), .inl x1, .inl x2, .inl x3, .inl x4, zJk, zJk, zJk] [] h Q := by
  intro n
  induction n with
  | zero =>
    intro x1 x2 x3 x4 h hF
    cases (show (none : Option (Int × Int × zHp)) = some (o1, o3, oh) from hF)
  | succ n ih =>
    intro x1 x2 x3 x4 h hF
    rw [sh_Mo_set_L7] at hF
    refine z_iload rfl rfl ?_
    refine z_iload rfl rfl ?_
    refine z_cge rfl (fun c1 => ?_) (fun c1 => ?_)
    · rw [if_pos c1] at hF
      refine zsubL (L' := [.inr (.inr 85), .inl x1, zJk, .inl x3, zJk, zJk, zJk, zJk]) ⟨Or.inl rfl, Or.inl rfl, Or.inr rfl, Or.inl rfl, Or.inr rfl, Or.inl rfl, Or.inl rfl, Or.inl rfl, trivial⟩ ?_
      obtain ⟨rfl, rfl, rfl⟩ := zinj3 hF
      exact K1
    · rw [if_neg c1] at hF
      refine z_const rfl ?_
      refine z_istore rfl rfl rfl ?_
      obtain ⟨y12, y13, y14, y15, h16, hL11, hF⟩ := zbind5 hF
      refine zl_Mo_set_L12 (by omega) N ?_ N _ _ _ _ _ _ hL11
      refine z_iinc rfl rfl rfl ?_
      refine z_goto rfl ?_
      exact ih _ _ _ _ _ hF
set_option maxRecDepth 100000 in
set_option maxHeartbeats 4000000 in
theorem zl_Mo_set_L82 {l : Launch} {E : zE} {d : Nat} (hd : 6 ≤ d) (N : Nat) {Q : Int → zHp → Prop} {o1 o3 o4 o5 : Int} {oh : zHp} (K1 : zW l E d zm_Mo_set 114 [.inr (.inr 85), .inl o1, zJk, .inl o3, .inl o4, .inl o5, zJk, zJk] [] oh Q) : ∀ (n : Nat) (x1 x3 x4 x5 : Int) (h : zHp), sh_Mo_set_L82 N n x1 x3 x4 x5 h = some (o1, o3, o4, o5, oh) → zW l E d zm_Mo_set 82 [.inr (.inr 85), .inl x1, zJk, .inl x3, .inl x4, .inl x5, zJk, zJk] [] h Q := by
  intro n
  induction n with
  | zero =>
    intro x1 x3 x4 x5 h hF
    cases (show (none : Option (Int × Int × Int × Int × zHp)) = some (o1, o3, o4, o5, oh) from hF)
  | succ n ih =>
    intro x1 x3 x4 x5 h hF
    rw [sh_Mo_set_L82] at hF
    refine z_aload rfl rfl rfl ?_
    refine z_getr (r := 98) rfl rfl rfl rfl ?_
    refine z_iload rfl rfl ?_
    obtain ⟨g25, hF⟩ := zguard hF
    refine z_iald rfl rfl g25.1 g25.2 ?_
    refine z_const rfl ?_
    refine z_cge rfl (fun c26 => ?_) (fun c26 => ?_)
    · rw [if_pos c26] at hF
      obtain ⟨rfl, rfl, rfl, rfl, rfl⟩ := zinj5 hF
      exact K1
    · rw [if_neg c26] at hF
      refine z_aload rfl rfl rfl ?_
      refine z_getr (r := 97) rfl rfl rfl rfl ?_
      refine z_const rfl ?_
      refine z_iload rfl rfl ?_
      refine z_imul rfl ?_
      refine z_aload rfl rfl rfl ?_
      refine z_getr (r := 98) rfl rfl rfl rfl ?_
      refine z_iload rfl rfl ?_
      obtain ⟨g27, hF⟩ := zguard hF
      refine z_iald rfl rfl g27.1 g27.2 ?_
      refine z_iadd rfl ?_
      obtain ⟨g28, hF⟩ := zguard hF
      refine z_bald rfl rfl g28.1 g28.2 (fun z29 => ?_)
      refine z_zeq rfl (fun c30 => ?_) (fun c30 => ?_)
      · rw [if_pos c30] at hF
        refine z_aload rfl rfl rfl ?_
        refine z_getr (r := 98) rfl rfl rfl rfl ?_
        refine z_iload rfl rfl ?_
        refine z_dup2 rfl rfl rfl ?_
        obtain ⟨g31, hF⟩ := zguard hF
        refine z_iald rfl rfl g31.1 g31.2 ?_
        refine z_const rfl ?_
        refine z_iadd rfl ?_
        obtain ⟨g32, hF⟩ := zguard hF
        refine z_iast rfl rfl g32.1 g32.2 ?_
        refine z_goto rfl ?_
        exact ih _ _ _ _ _ hF
      · rw [if_neg c30] at hF
        refine z_aload rfl rfl rfl ?_
        refine z_iload rfl rfl ?_
        refine z_iload rfl rfl ?_
        obtain ⟨r38, hc37, hF⟩ := zbind1 hF
        refine z_inv1 (d' := d - 1) (As := [.inl x5, .inl x1]) rfl rfl (zf_Mo_isApart (by omega) N _ _ hc37) rfl rfl rfl (by omega) rfl (fun r33 h34 hR35 hQ36 => ?_)
        obtain ⟨rfl, rfl⟩ := hQ36
        refine z_zne rfl (fun c39 => ?_) (fun c39 => ?_)
        · rw [if_neg c39] at hF
          obtain ⟨rfl, rfl, rfl, rfl, rfl⟩ := zinj5 hF
          exact K1
        · rw [if_pos c39] at hF
          refine z_aload rfl rfl rfl ?_
          refine z_getr (r := 98) rfl rfl rfl rfl ?_
          refine z_iload rfl rfl ?_
          refine z_dup2 rfl rfl rfl ?_
          obtain ⟨g40, hF⟩ := zguard hF
          refine z_iald rfl rfl g40.1 g40.2 ?_
          refine z_const rfl ?_
          refine z_iadd rfl ?_
          obtain ⟨g41, hF⟩ := zguard hF
          refine z_iast rfl rfl g41.1 g41.2 ?_
          refine z_goto rfl ?_
          exact ih _ _ _ _ _ hF
set_option maxRecDepth 100000 in
set_option maxHeartbeats 4000000 in
theorem zl_Mo_set_L59 {l : Launch} {E : zE} {d : Nat} (hd : 6 ≤ d) (N : Nat) {Q : Int → zHp → Prop} {o1 o3 o4 o5 : Int} {oh : zHp} (K1 : zW l E d zm_Mo_set 72 [.inr (.inr 85), .inl o1, zJk, .inl o3, .inl o4, .inl o5, zJk, zJk] [] oh Q) : ∀ (n : Nat) (x1 x3 x4 x5 x7 : Int) (h : zHp), sh_Mo_set_L59 N n x1 x3 x4 x5 x7 h = some (o1, o3, o4, o5, oh) → zW l E d zm_Mo_set 59 [.inr (.inr 85), .inl x1, zJk, .inl x3, .inl x4, .inl x5, zJk, .inl x7] [] h Q := by
  intro n
  induction n with
  | zero =>
    intro x1 x3 x4 x5 x7 h hF
    cases (show (none : Option (Int × Int × Int × Int × zHp)) = some (o1, o3, o4, o5, oh) from hF)
  | succ n ih =>
    intro x1 x3 x4 x5 x7 h hF
    rw [sh_Mo_set_L59] at hF
    refine z_iload rfl rfl ?_
    refine z_iload rfl rfl ?_
    refine z_cge rfl (fun c60 => ?_) (fun c60 => ?_)
    · rw [if_pos c60] at hF
      refine zsubL (L' := [.inr (.inr 85), .inl x1, zJk, .inl x3, .inl x4, .inl x5, zJk, zJk]) ⟨Or.inl rfl, Or.inl rfl, Or.inl rfl, Or.inl rfl, Or.inl rfl, Or.inl rfl, Or.inl rfl, Or.inr rfl, trivial⟩ ?_
      obtain ⟨rfl, rfl, rfl, rfl, rfl⟩ := zinj5 hF
      exact K1
    · rw [if_neg c60] at hF
      refine z_aload rfl rfl rfl ?_
      refine z_getr (r := 99) rfl rfl rfl rfl ?_
      refine z_iload rfl rfl ?_
      refine z_aload rfl rfl rfl ?_
      refine z_getr (r := 98) rfl rfl rfl rfl ?_
      refine z_iload rfl rfl ?_
      obtain ⟨g61, hF⟩ := zguard hF
      refine z_iald rfl rfl g61.1 g61.2 ?_
      obtain ⟨g62, hF⟩ := zguard hF
      refine z_iast rfl rfl g62.1 g62.2 ?_
      refine z_iinc rfl rfl rfl ?_
      refine z_goto rfl ?_
      exact ih _ _ _ _ _ _ hF
set_option maxRecDepth 100000 in
set_option maxHeartbeats 4000000 in
theorem zl_Mo_set_L41 {l : Launch} {E : zE} {d : Nat} (hd : 6 ≤ d) (N : Nat) {Q : Int → zHp → Prop} {o4 : Int} {oh : zHp} (K1 : zW l E d zm_Mo_set 132 [zJk, zJk, zJk, zJk, .inl o4, zJk, zJk, zJk] [] oh Q) : ∀ (n : Nat) (x1 x3 x4 x5 : Int) (h : zHp), sh_Mo_set_L41 N n x1 x3 x4 x5 h = some (o4, oh) → zW l E d zm_Mo_set 41 [.inr (.inr 85), .inl x1, zJk, .inl x3, .inl x4, .inl x5, zJk, zJk] [] h Q := by
  intro n
  induction n with
  | zero =>
    intro x1 x3 x4 x5 h hF
    cases (show (none : Option (Int × zHp)) = some (o4, oh) from hF)
  | succ n ih =>
    intro x1 x3 x4 x5 h hF
    rw [sh_Mo_set_L41] at hF
    refine z_iload rfl rfl ?_
    refine z_zlt rfl (fun c21 => ?_) (fun c21 => ?_)
    · rw [if_pos c21] at hF
      refine zsubL (L' := [zJk, zJk, zJk, zJk, .inl x4, zJk, zJk, zJk]) ⟨Or.inr rfl, Or.inr rfl, Or.inl rfl, Or.inr rfl, Or.inl rfl, Or.inr rfl, Or.inl rfl, Or.inl rfl, trivial⟩ ?_
      obtain ⟨rfl, rfl⟩ := zinj2 hF
      exact K1
    · rw [if_neg c21] at hF
      refine z_iload rfl rfl ?_
      refine z_iload rfl rfl ?_
      refine z_cne rfl (fun c22 => ?_) (fun c22 => ?_)
      · rw [if_neg c22] at hF
        refine z_aload rfl rfl rfl ?_
        refine z_getr (r := 98) rfl rfl rfl rfl ?_
        refine z_iload rfl rfl ?_
        refine z_dup2 rfl rfl rfl ?_
        obtain ⟨g23, hF⟩ := zguard hF
        refine z_iald rfl rfl g23.1 g23.2 ?_
        refine z_const rfl ?_
        refine z_iadd rfl ?_
        obtain ⟨g24, hF⟩ := zguard hF
        refine z_iast rfl rfl g24.1 g24.2 ?_
        obtain ⟨y43, y44, y45, y46, h47, hL42, hF⟩ := zbind5 hF
        refine zl_Mo_set_L82 (by omega) N ?_ N _ _ _ _ _ hL42
        refine z_aload rfl rfl rfl ?_
        refine z_getr (r := 98) rfl rfl rfl rfl ?_
        refine z_iload rfl rfl ?_
        obtain ⟨g48, hF⟩ := zguard hF
        refine z_iald rfl rfl g48.1 g48.2 ?_
        refine z_const rfl ?_
        refine z_cle rfl (fun c49 => ?_) (fun c49 => ?_)
        · rw [if_pos c49] at hF
          refine z_iinc rfl rfl rfl ?_
          refine z_iload rfl rfl ?_
          refine z_iload rfl rfl ?_
          refine z_cge rfl (fun c50 => ?_) (fun c50 => ?_)
          · rw [if_pos c50] at hF
            exact ih _ _ _ _ _ hF
          · rw [if_neg c50] at hF
            refine z_aload rfl rfl rfl ?_
            refine z_getr (r := 98) rfl rfl rfl rfl ?_
            refine z_iload rfl rfl ?_
            refine z_const rfl ?_
            obtain ⟨g51, hF⟩ := zguard hF
            refine z_iast rfl rfl g51.1 g51.2 ?_
            refine z_goto rfl ?_
            exact ih _ _ _ _ _ hF
        · rw [if_neg c49] at hF
          refine z_iinc rfl rfl rfl ?_
          refine z_goto rfl ?_
          exact ih _ _ _ _ _ hF
      · rw [if_pos c22] at hF
        refine z_aload rfl rfl rfl ?_
        refine z_iload rfl rfl ?_
        obtain ⟨r57, hc56, hF⟩ := zbind1 hF
        refine z_inv1 (d' := d - 1) (As := [.inl x3]) rfl rfl (zf_Mo_changed (by omega) N _ hc56) rfl rfl rfl (by omega) rfl (fun r52 h53 hR54 hQ55 => ?_)
        obtain ⟨rfl, rfl⟩ := hQ55
        refine z_istore rfl rfl rfl ?_
        refine z_iload rfl rfl ?_
        refine z_zlt rfl (fun c59 => ?_) (fun c59 => ?_)
        · rw [if_pos c59] at hF
          refine z_iload rfl rfl ?_
          refine z_istore rfl rfl rfl ?_
          refine z_const rfl ?_
          refine z_istore rfl rfl rfl ?_
          refine zsubL (L' := [.inr (.inr 85), .inl x1, zJk, .inl x3, .inl r57, .inl x5, zJk, .inl 0]) ⟨Or.inl rfl, Or.inl rfl, Or.inl rfl, Or.inl rfl, Or.inl rfl, Or.inl rfl, Or.inr rfl, Or.inl rfl, trivial⟩ ?_
          obtain ⟨y64, y65, y66, y67, h68, hL63, hF⟩ := zbind5 hF
          refine zl_Mo_set_L59 (by omega) N ?_ N _ _ _ _ _ _ hL63
          refine z_iinc rfl rfl rfl ?_
          refine z_goto rfl ?_
          exact ih _ _ _ _ _ hF
        · rw [if_neg c59] at hF
          refine z_iload rfl rfl ?_
          refine z_iload rfl rfl ?_
          refine z_cge rfl (fun c70 => ?_) (fun c70 => ?_)
          · rw [if_pos c70] at hF
            refine z_iinc rfl rfl rfl ?_
            refine z_goto rfl ?_
            refine zsubL (L' := [.inr (.inr 85), .inl x1, zJk, .inl x3, .inl x4, .inl (w32 (x5 + (-1))), zJk, zJk]) ⟨Or.inl rfl, Or.inl rfl, Or.inl rfl, Or.inl rfl, Or.inl rfl, Or.inl rfl, Or.inr rfl, Or.inl rfl, trivial⟩ ?_
            exact ih _ _ _ _ _ hF
          · rw [if_neg c70] at hF
            refine z_iload rfl rfl ?_
            refine z_istore rfl rfl rfl ?_
            refine z_const rfl ?_
            refine z_istore rfl rfl rfl ?_
            refine zsubL (L' := [.inr (.inr 85), .inl x1, zJk, .inl x3, .inl r57, .inl x5, zJk, .inl 0]) ⟨Or.inl rfl, Or.inl rfl, Or.inl rfl, Or.inl rfl, Or.inl rfl, Or.inl rfl, Or.inr rfl, Or.inl rfl, trivial⟩ ?_
            obtain ⟨y72, y73, y74, y75, h76, hL71, hF⟩ := zbind5 hF
            refine zl_Mo_set_L59 (by omega) N ?_ N _ _ _ _ _ _ hL71
            refine z_iinc rfl rfl rfl ?_
            refine z_goto rfl ?_
            exact ih _ _ _ _ _ hF
set_option maxRecDepth 100000 in
set_option maxHeartbeats 4000000 in
theorem zw_Mo_set {l : Launch} {E : zE} {d : Nat} (hd : 6 ≤ d) (N : Nat) (x1 x2 : Int) {h : zHp} {Q : Int → zHp → Prop} {r0 : Int} {h0 : zHp} (hF : sh_Mo_set N x1 x2 h = some (r0, h0)) (K : Q r0 h0) : zW l E d zm_Mo_set 0 [.inr (.inr 85), .inl x1, .inl x2, zJk, zJk, zJk, zJk, zJk] [] h Q := by
  rw [sh_Mo_set] at hF
  refine z_aload rfl rfl rfl ?_
  refine z_getr (r := 86) rfl rfl rfl rfl ?_
  refine z_const rfl ?_
  refine z_ialdc 0 rfl rfl rfl (by decide) ?_
  refine z_istore rfl rfl rfl ?_
  refine z_const rfl ?_
  refine z_istore rfl rfl rfl ?_
  obtain ⟨y18, y19, h20, hL17, hF⟩ := zbind3 hF
  refine zl_Mo_set_L7 (by omega) N ?_ N _ _ _ _ _ hL17
  refine z_const rfl ?_
  refine z_istore rfl rfl rfl ?_
  refine z_const rfl ?_
  refine z_istore rfl rfl rfl ?_
  refine z_aload rfl rfl rfl ?_
  refine z_getr (r := 98) rfl rfl rfl rfl ?_
  refine z_const rfl ?_
  refine z_const rfl ?_
  refine z_iastc 0 rfl rfl rfl (by decide) ?_
  obtain ⟨y78, h79, hL77, hF⟩ := zbind2 hF
  refine zl_Mo_set_L41 (by omega) N ?_ N _ _ _ _ _ hL77
  refine z_iload rfl rfl ?_
  obtain ⟨rfl, rfl⟩ := zinj2 hF
  exact z_iret rfl rfl K
set_option maxRecDepth 100000 in
theorem zf_Mo_set {l : Launch} {E : zE} {d : Nat} (hd : 6 ≤ d) (N : Nat) (x1 x2 : Int) {h : zHp} {r0 : Int} {h0 : zHp} (hF : sh_Mo_set N x1 x2 h = some (r0, h0)) : zC l E d zm_Mo_set [.inr (.inr 85), .inl x1, .inl x2] h (fun r1 h1 => r0 = r1 ∧ h0 = h1) :=
  zC_of zk_Mo_set (by decide) rfl rfl (Nat.le_of_ble_eq_true rfl) (zw_Mo_set hd N _ _ hF ⟨rfl, rfl⟩)
def sh_Mo_apart (N : Nat) (x1 x2 x3 : Int) (h : zHp) : Option (Int × zHp) := (if sh_Mo_isIn x1 0 9 = 0 then some ((-1), h) else (if sh_Mo_isField x2 h = 0 then some ((-1), h) else (if x3 = (-1) then zb2 (sh_Mo_set N x1 x2 h) fun r17 h18 => if r17 < 0 then some (r17, h18) else (if 0 ≤ x3 then if 0 ≤ x3 ∧ x3 < 5 then some (h18 99 x3.toNat, h18) else none else some (r17, h18)) else (if sh_Mo_isFarm x3 h = 0 then some ((-1), h) else zb2 (sh_Mo_set N x1 x2 h) fun r35 h36 => if r35 < 0 then some (r35, h36) else (if 0 ≤ x3 then if 0 ≤ x3 ∧ x3 < 5 then some (h36 99 x3.toNat, h36) else none else some (r35, h36))))))
set_option maxRecDepth 100000 in
set_option maxHeartbeats 4000000 in
theorem zw_Mo_apart {l : Launch} {E : zE} {d : Nat} (hd : 7 ≤ d) (N : Nat) (x1 x2 x3 : Int) {h : zHp} {Q : Int → zHp → Prop} {r0 : Int} {h0 : zHp} (hF : sh_Mo_apart N x1 x2 x3 h = some (r0, h0)) (K : Q r0 h0) : zW l E d zm_Mo_apart 0 [.inr (.inr 85), .inl x1, .inl x2, .inl x3, zJk] [] h Q := by
  rw [sh_Mo_apart] at hF
  refine z_iload rfl rfl ?_
  refine z_const rfl ?_
  refine z_const rfl ?_
  refine z_ivs1 (d' := d - 1) (As := [.inl x1, .inl 0, .inl 9]) rfl rfl (zf_Mo_isIn (by omega) _ _ _) rfl (by omega) rfl (fun r1 h2 hR3 hQ4 => ?_)
  obtain ⟨rfl, rfl⟩ := hQ4
  refine z_zeq rfl (fun c5 => ?_) (fun c5 => ?_)
  · rw [if_pos c5] at hF
    refine z_const rfl ?_
    obtain ⟨rfl, rfl⟩ := zinj2 hF
    exact z_iret rfl rfl K
  · rw [if_neg c5] at hF
    refine z_aload rfl rfl rfl ?_
    refine z_iload rfl rfl ?_
    refine z_inv1 (d' := d - 1) (As := [.inl x2]) rfl rfl (zf_Mo_isField (by omega) _) rfl rfl rfl (by omega) rfl (fun r6 h7 hR8 hQ9 => ?_)
    obtain ⟨rfl, rfl⟩ := hQ9
    refine z_zeq rfl (fun c10 => ?_) (fun c10 => ?_)
    · rw [if_pos c10] at hF
      refine z_const rfl ?_
      obtain ⟨rfl, rfl⟩ := zinj2 hF
      exact z_iret rfl rfl K
    · rw [if_neg c10] at hF
      refine z_iload rfl rfl ?_
      refine z_const rfl ?_
      refine z_ceq rfl (fun c11 => ?_) (fun c11 => ?_)
      · rw [if_pos c11] at hF
        refine z_aload rfl rfl rfl ?_
        refine z_iload rfl rfl ?_
        refine z_iload rfl rfl ?_
        obtain ⟨r17, h18, hc16, hF⟩ := zbind2 hF
        refine z_inv1 (d' := d - 1) (As := [.inl x1, .inl x2]) rfl rfl (zf_Mo_set (by omega) N _ _ hc16) rfl rfl rfl (by omega) rfl (fun r12 h13 hR14 hQ15 => ?_)
        obtain ⟨rfl, rfl⟩ := hQ15
        refine z_istore rfl rfl rfl ?_
        refine z_iload rfl rfl ?_
        refine z_zlt rfl (fun c21 => ?_) (fun c21 => ?_)
        · rw [if_pos c21] at hF
          refine z_iload rfl rfl ?_
          refine z_goto rfl ?_
          obtain ⟨rfl, rfl⟩ := zinj2 hF
          exact z_iret rfl rfl K
        · rw [if_neg c21] at hF
          refine z_iload rfl rfl ?_
          refine z_zge rfl (fun c23 => ?_) (fun c23 => ?_)
          · rw [if_pos c23] at hF
            refine z_aload rfl rfl rfl ?_
            refine z_getr (r := 99) rfl rfl rfl rfl ?_
            refine z_iload rfl rfl ?_
            obtain ⟨g24, hF⟩ := zguard hF
            refine z_iald rfl rfl g24.1 g24.2 ?_
            obtain ⟨rfl, rfl⟩ := zinj2 hF
            exact z_iret rfl rfl K
          · rw [if_neg c23] at hF
            refine z_iload rfl rfl ?_
            refine z_goto rfl ?_
            obtain ⟨rfl, rfl⟩ := zinj2 hF
            exact z_iret rfl rfl K
      · rw [if_neg c11] at hF
        refine z_aload rfl rfl rfl ?_
        refine z_iload rfl rfl ?_
        refine z_inv1 (d' := d - 1) (As := [.inl x3]) rfl rfl (zf_Mo_isFarm (by omega) _) rfl rfl rfl (by omega) rfl (fun r25 h26 hR27 hQ28 => ?_)
        obtain ⟨rfl, rfl⟩ := hQ28
        refine z_zne rfl (fun c29 => ?_) (fun c29 => ?_)
        · rw [if_neg c29] at hF
          refine z_aload rfl rfl rfl ?_
          refine z_iload rfl rfl ?_
          refine z_iload rfl rfl ?_
          obtain ⟨r35, h36, hc34, hF⟩ := zbind2 hF
          refine z_inv1 (d' := d - 1) (As := [.inl x1, .inl x2]) rfl rfl (zf_Mo_set (by omega) N _ _ hc34) rfl rfl rfl (by omega) rfl (fun r30 h31 hR32 hQ33 => ?_)
          obtain ⟨rfl, rfl⟩ := hQ33
          refine z_istore rfl rfl rfl ?_
          refine z_iload rfl rfl ?_
          refine z_zlt rfl (fun c39 => ?_) (fun c39 => ?_)
          · rw [if_pos c39] at hF
            refine z_iload rfl rfl ?_
            refine z_goto rfl ?_
            obtain ⟨rfl, rfl⟩ := zinj2 hF
            exact z_iret rfl rfl K
          · rw [if_neg c39] at hF
            refine z_iload rfl rfl ?_
            refine z_zge rfl (fun c41 => ?_) (fun c41 => ?_)
            · rw [if_pos c41] at hF
              refine z_aload rfl rfl rfl ?_
              refine z_getr (r := 99) rfl rfl rfl rfl ?_
              refine z_iload rfl rfl ?_
              obtain ⟨g42, hF⟩ := zguard hF
              refine z_iald rfl rfl g42.1 g42.2 ?_
              obtain ⟨rfl, rfl⟩ := zinj2 hF
              exact z_iret rfl rfl K
            · rw [if_neg c41] at hF
              refine z_iload rfl rfl ?_
              refine z_goto rfl ?_
              obtain ⟨rfl, rfl⟩ := zinj2 hF
              exact z_iret rfl rfl K
        · rw [if_pos c29] at hF
          refine z_const rfl ?_
          obtain ⟨rfl, rfl⟩ := zinj2 hF
          exact z_iret rfl rfl K
set_option maxRecDepth 100000 in
theorem zf_Mo_apart {l : Launch} {E : zE} {d : Nat} (hd : 7 ≤ d) (N : Nat) (x1 x2 x3 : Int) {h : zHp} {r0 : Int} {h0 : zHp} (hF : sh_Mo_apart N x1 x2 x3 h = some (r0, h0)) : zC l E d zm_Mo_apart [.inr (.inr 85), .inl x1, .inl x2, .inl x3] h (fun r1 h1 => r0 = r1 ∧ h0 = h1) :=
  zC_of zk_Mo_apart (by decide) rfl rfl (Nat.le_of_ble_eq_true rfl) (zw_Mo_apart hd N _ _ _ hF ⟨rfl, rfl⟩)
def sh_Herd_copyFrom_64_14 (h : zHp) : zHp := rcopy h 66 71 16 71
set_option maxRecDepth 100000 in
set_option maxHeartbeats 4000000 in
theorem zw_Herd_copyFrom_64_14 {l : Launch} {E : zE} {d : Nat} (hd : 2 ≤ d) {h : zHp} {Q : Int → zHp → Prop} {h0 : zHp} (hF : sh_Herd_copyFrom_64_14 h = h0) (K : Q 0 h0) : zW l E d zm_Herd_copyFrom 0 [.inr (.inr 64), .inr (.inr 14)] [] h Q := by
  rw [sh_Herd_copyFrom_64_14] at hF
  refine z_aload rfl rfl rfl ?_
  refine z_getr (r := 65) rfl rfl rfl rfl ?_
  refine z_aload rfl rfl rfl ?_
  refine z_getr (r := 15) rfl rfl rfl rfl ?_
  refine z_inv0 (d' := d - 1) (As := [.inr (.inr 15)]) rfl rfl (zf_Row_copyFrom (r := 65) (a := 66) (n := 71) (r2 := 15) (b := 16) (m := 71) rfl rfl rfl rfl (by decide)) rfl rfl rfl (by omega) rfl (fun r1 h2 hR3 hQ4 => ?_)
  obtain ⟨rfl, rfl⟩ := hQ4
  subst hF
  exact z_ret rfl rfl rfl K
set_option maxRecDepth 100000 in
theorem zf_Herd_copyFrom_64_14 {l : Launch} {E : zE} {d : Nat} (hd : 2 ≤ d) {h : zHp} : zC l E d zm_Herd_copyFrom [.inr (.inr 64), .inr (.inr 14)] h (fun r1 h1 => 0 = r1 ∧ sh_Herd_copyFrom_64_14 h = h1) :=
  zC_of zk_Herd_copyFrom (by decide) rfl rfl (Nat.le_of_ble_eq_true rfl) (zw_Herd_copyFrom_64_14 hd rfl ⟨rfl, rfl⟩)
def sh_Herd_oxen_64 (h : zHp) : Int := rget h 66 71 2
set_option maxRecDepth 100000 in
set_option maxHeartbeats 4000000 in
theorem zw_Herd_oxen_64 {l : Launch} {E : zE} {d : Nat} (hd : 2 ≤ d) {h : zHp} {Q : Int → zHp → Prop} {r0 : Int} (hF : sh_Herd_oxen_64 h = r0) (K : Q r0 h) : zW l E d zm_Herd_oxen 0 [.inr (.inr 64)] [] h Q := by
  rw [sh_Herd_oxen_64] at hF
  refine z_aload rfl rfl rfl ?_
  refine z_getr (r := 65) rfl rfl rfl rfl ?_
  refine z_const rfl ?_
  refine z_inv1 (d' := d - 1) (As := [.inl 2]) rfl rfl (zf_Row_get (r := 65) (a := 66) (n := 71) rfl rfl _) rfl rfl rfl (by omega) rfl (fun r1 h2 hR3 hQ4 => ?_)
  obtain ⟨rfl, rfl⟩ := hQ4
  subst hF
  exact z_iret rfl rfl K
set_option maxRecDepth 100000 in
theorem zf_Herd_oxen_64 {l : Launch} {E : zE} {d : Nat} (hd : 2 ≤ d) {h : zHp} : zC l E d zm_Herd_oxen [.inr (.inr 64)] h (fun r1 h1 => sh_Herd_oxen_64 h = r1 ∧ h = h1) :=
  zC_of zk_Herd_oxen (by decide) rfl rfl (Nat.le_of_ble_eq_true rfl) (zw_Herd_oxen_64 hd rfl ⟨rfl, rfl⟩)
def sh_Herd_get_64 (x1 x2 : Int) (h : zHp) : Int := rget h 66 71 (w32 ((w32 (7 + (w32 (x1 * 8)))) + x2))
set_option maxRecDepth 100000 in
set_option maxHeartbeats 4000000 in
theorem zw_Herd_get_64 {l : Launch} {E : zE} {d : Nat} (hd : 2 ≤ d) (x1 x2 : Int) {h : zHp} {Q : Int → zHp → Prop} {r0 : Int} (hF : sh_Herd_get_64 x1 x2 h = r0) (K : Q r0 h) : zW l E d zm_Herd_get 0 [.inr (.inr 64), .inl x1, .inl x2] [] h Q := by
  rw [sh_Herd_get_64] at hF
  refine z_aload rfl rfl rfl ?_
  refine z_getr (r := 65) rfl rfl rfl rfl ?_
  refine z_const rfl ?_
  refine z_iload rfl rfl ?_
  refine z_const rfl ?_
  refine z_imul rfl ?_
  refine z_iadd rfl ?_
  refine z_iload rfl rfl ?_
  refine z_iadd rfl ?_
  refine z_inv1 (d' := d - 1) (As := [.inl (w32 ((w32 (7 + (w32 (x1 * 8)))) + x2))]) rfl rfl (zf_Row_get (r := 65) (a := 66) (n := 71) rfl rfl _) rfl rfl rfl (by omega) rfl (fun r1 h2 hR3 hQ4 => ?_)
  obtain ⟨rfl, rfl⟩ := hQ4
  subst hF
  exact z_iret rfl rfl K
set_option maxRecDepth 100000 in
theorem zf_Herd_get_64 {l : Launch} {E : zE} {d : Nat} (hd : 2 ≤ d) (x1 x2 : Int) {h : zHp} : zC l E d zm_Herd_get [.inr (.inr 64), .inl x1, .inl x2] h (fun r1 h1 => sh_Herd_get_64 x1 x2 h = r1 ∧ h = h1) :=
  zC_of zk_Herd_get (by decide) rfl rfl (Nat.le_of_ble_eq_true rfl) (zw_Herd_get_64 hd _ _ rfl ⟨rfl, rfl⟩)
def sh_Herd_hour_64 (h : zHp) : Int := rget h 66 71 0
set_option maxRecDepth 100000 in
set_option maxHeartbeats 4000000 in
theorem zw_Herd_hour_64 {l : Launch} {E : zE} {d : Nat} (hd : 2 ≤ d) {h : zHp} {Q : Int → zHp → Prop} {r0 : Int} (hF : sh_Herd_hour_64 h = r0) (K : Q r0 h) : zW l E d zm_Herd_hour 0 [.inr (.inr 64)] [] h Q := by
  rw [sh_Herd_hour_64] at hF
  refine z_aload rfl rfl rfl ?_
  refine z_getr (r := 65) rfl rfl rfl rfl ?_
  refine z_const rfl ?_
  refine z_inv1 (d' := d - 1) (As := [.inl 0]) rfl rfl (zf_Row_get (r := 65) (a := 66) (n := 71) rfl rfl _) rfl rfl rfl (by omega) rfl (fun r1 h2 hR3 hQ4 => ?_)
  obtain ⟨rfl, rfl⟩ := hQ4
  subst hF
  exact z_iret rfl rfl K
set_option maxRecDepth 100000 in
theorem zf_Herd_hour_64 {l : Launch} {E : zE} {d : Nat} (hd : 2 ≤ d) {h : zHp} : zC l E d zm_Herd_hour [.inr (.inr 64)] h (fun r1 h1 => sh_Herd_hour_64 h = r1 ∧ h = h1) :=
  zC_of zk_Herd_hour (by decide) rfl rfl (Nat.le_of_ble_eq_true rfl) (zw_Herd_hour_64 hd rfl ⟨rfl, rfl⟩)
def sh_Herd_put_64 (x1 x2 x3 : Int) (h : zHp) : zHp := rput h 66 71 (w32 ((w32 (7 + (w32 (x1 * 8)))) + x2)) x3
set_option maxRecDepth 100000 in
set_option maxHeartbeats 4000000 in
theorem zw_Herd_put_64 {l : Launch} {E : zE} {d : Nat} (hd : 2 ≤ d) (x1 x2 x3 : Int) {h : zHp} {Q : Int → zHp → Prop} {h0 : zHp} (hF : sh_Herd_put_64 x1 x2 x3 h = h0) (K : Q 0 h0) : zW l E d zm_Herd_put 0 [.inr (.inr 64), .inl x1, .inl x2, .inl x3] [] h Q := by
  rw [sh_Herd_put_64] at hF
  refine z_aload rfl rfl rfl ?_
  refine z_getr (r := 65) rfl rfl rfl rfl ?_
  refine z_const rfl ?_
  refine z_iload rfl rfl ?_
  refine z_const rfl ?_
  refine z_imul rfl ?_
  refine z_iadd rfl ?_
  refine z_iload rfl rfl ?_
  refine z_iadd rfl ?_
  refine z_iload rfl rfl ?_
  refine z_inv0 (d' := d - 1) (As := [.inl (w32 ((w32 (7 + (w32 (x1 * 8)))) + x2)), .inl x3]) rfl rfl (zf_Row_put (r := 65) (a := 66) (n := 71) rfl rfl _ _) rfl rfl rfl (by omega) rfl (fun r1 h2 hR3 hQ4 => ?_)
  obtain ⟨rfl, rfl⟩ := hQ4
  subst hF
  exact z_ret rfl rfl rfl K
set_option maxRecDepth 100000 in
theorem zf_Herd_put_64 {l : Launch} {E : zE} {d : Nat} (hd : 2 ≤ d) (x1 x2 x3 : Int) {h : zHp} : zC l E d zm_Herd_put [.inr (.inr 64), .inl x1, .inl x2, .inl x3] h (fun r1 h1 => 0 = r1 ∧ sh_Herd_put_64 x1 x2 x3 h = h1) :=
  zC_of zk_Herd_put (by decide) rfl rfl (Nat.le_of_ble_eq_true rfl) (zw_Herd_put_64 hd _ _ _ rfl ⟨rfl, rfl⟩)
def sh_Herd_unyoke_64 (x1 : Int) (h : zHp) : zHp := (if sh_Herd_get_64 x1 7 h = (-1) then h else sh_Herd_put_64 x1 7 (-1) (sh_Herd_put_64 (sh_Herd_get_64 x1 7 h) 7 (-1) h))
set_option maxRecDepth 100000 in
set_option maxHeartbeats 4000000 in
theorem zw_Herd_unyoke_64 {l : Launch} {E : zE} {d : Nat} (hd : 3 ≤ d) (x1 : Int) {h : zHp} {Q : Int → zHp → Prop} {h0 : zHp} (hF : sh_Herd_unyoke_64 x1 h = h0) (K : Q 0 h0) : zW l E d zm_Herd_unyoke 0 [.inr (.inr 64), .inl x1, zJk] [] h Q := by
  rw [sh_Herd_unyoke_64] at hF
  refine z_aload rfl rfl rfl ?_
  refine z_iload rfl rfl ?_
  refine z_const rfl ?_
  refine z_inv1 (d' := d - 1) (As := [.inl x1, .inl 7]) rfl rfl (zf_Herd_get_64 (by omega) _ _) rfl rfl rfl (by omega) rfl (fun r1 h2 hR3 hQ4 => ?_)
  obtain ⟨rfl, rfl⟩ := hQ4
  refine z_istore rfl rfl rfl ?_
  refine z_iload rfl rfl ?_
  refine z_const rfl ?_
  refine z_ceq rfl (fun c6 => ?_) (fun c6 => ?_)
  · rw [if_pos c6] at hF
    subst hF
    exact z_ret rfl rfl rfl K
  · rw [if_neg c6] at hF
    refine z_aload rfl rfl rfl ?_
    refine z_iload rfl rfl ?_
    refine z_const rfl ?_
    refine z_const rfl ?_
    refine z_inv0 (d' := d - 1) (As := [.inl (sh_Herd_get_64 x1 7 h), .inl 7, .inl (-1)]) rfl rfl (zf_Herd_put_64 (by omega) _ _ _) rfl rfl rfl (by omega) rfl (fun r7 h8 hR9 hQ10 => ?_)
    obtain ⟨rfl, rfl⟩ := hQ10
    refine z_aload rfl rfl rfl ?_
    refine z_iload rfl rfl ?_
    refine z_const rfl ?_
    refine z_const rfl ?_
    refine z_inv0 (d' := d - 1) (As := [.inl x1, .inl 7, .inl (-1)]) rfl rfl (zf_Herd_put_64 (by omega) _ _ _) rfl rfl rfl (by omega) rfl (fun r11 h12 hR13 hQ14 => ?_)
    obtain ⟨rfl, rfl⟩ := hQ14
    subst hF
    exact z_ret rfl rfl rfl K
set_option maxRecDepth 100000 in
theorem zf_Herd_unyoke_64 {l : Launch} {E : zE} {d : Nat} (hd : 3 ≤ d) (x1 : Int) {h : zHp} : zC l E d zm_Herd_unyoke [.inr (.inr 64), .inl x1] h (fun r1 h1 => 0 = r1 ∧ sh_Herd_unyoke_64 x1 h = h1) :=
  zC_of zk_Herd_unyoke (by decide) rfl rfl (Nat.le_of_ble_eq_true rfl) (zw_Herd_unyoke_64 hd _ rfl ⟨rfl, rfl⟩)
def sh_Ox_blow_64_L6 (N : Nat) : Nat → Int → Int → Int → Int → Int → zHp → Option (Int × Int × zHp)
  | 0, _, _, _, _, _, _ => none
  | n + 1, x2, x3, x4, x5, x6, h => (if sh_Herd_oxen_64 h ≤ x6 then some (x4, x5, h) else (if w32 ((sh_Herd_get_64 x6 6 h) - 10) < 0 then sh_Ox_blow_64_L6 N n x2 x3 x4 x5 (w32 (x6 + 1)) h else zb2 (sh_Laws_heeded N (sh_Laws_ask x6 x2 x3 (w32 ((sh_Herd_get_64 x6 6 h) - 10)) (if sh_Herd_get_64 x6 7 h = (-1) then 0 else 1 : Int) (sh_Herd_hour_64 h) h)) fun r40 h41 => if r40 = 0 then sh_Ox_blow_64_L6 N n x2 x3 x4 x5 (w32 (x6 + 1)) h41 else zb2 (sh_Laws_toSecond N h41) fun r49 h50 => sh_Ox_blow_64_L6 N n x2 x3 (zor x4 (zshl 1 x6)) (zor x5 (if r49 = 0 then 0 else zshl 1 x6 : Int)) (w32 (x6 + 1)) h50))
def sh_Ox_blow_64_L63 (N : Nat) : Nat → Int → Int → Int → zHp → Option (Int × zHp)
  | 0, _, _, _, _ => none
  | n + 1, x4, x5, x6, h => (if sh_Herd_oxen_64 h ≤ x6 then some (x4, h) else (if sh_Ox_isIn x4 x6 = 0 then sh_Ox_blow_64_L63 N n x4 x5 (w32 (x6 + 1)) h else sh_Ox_blow_64_L63 N n x4 x5 (w32 (x6 + 1)) (sh_Herd_put_64 x6 6 (sh_Herd_get_64 x6 (if sh_Ox_isIn x5 x6 = 0 then 0 else 1 : Int) (sh_Herd_unyoke_64 x6 h)) (sh_Herd_unyoke_64 x6 h))))
def sh_Ox_blow_64 (N : Nat) (x2 x3 : Int) (h : zHp) : Option (Int × zHp) := zb3 (sh_Ox_blow_64_L6 N N x2 x3 0 0 0 h) fun y54 y55 h56 => zb2 (sh_Ox_blow_64_L63 N N y54 y55 0 h56) fun y87 h88 => some (y87, h88)
set_option maxRecDepth 100000 in
set_option maxHeartbeats 4000000 in
theorem zl_Ox_blow_64_L6 {l : Launch} {E : zE} {d : Nat} (hd : 4 ≤ d) (N : Nat) {Q : Int → zHp → Prop} {o4 o5 : Int} {oh : zHp} (K1 : zW l E d zm_Ox_blow 61 [zJk, .inr (.inr 64), zJk, zJk, .inl o4, .inl o5, zJk, zJk] [] oh Q) : ∀ (n : Nat) (x2 x3 x4 x5 x6 : Int) (h : zHp), sh_Ox_blow_64_L6 N n x2 x3 x4 x5 x6 h = some (o4, o5, oh) → zW l E d zm_Ox_blow 6 [.inr (.inr 0), .inr (.inr 64), .inl x2, .inl x3, .inl x4, .inl x5, .inl x6, zJk] [] h Q := by
  intro n
  induction n with
  | zero =>
    intro x2 x3 x4 x5 x6 h hF
    cases (show (none : Option (Int × Int × zHp)) = some (o4, o5, oh) from hF)
  | succ n ih =>
    intro x2 x3 x4 x5 x6 h hF
    rw [sh_Ox_blow_64_L6] at hF
    refine z_iload rfl rfl ?_
    refine z_aload rfl rfl rfl ?_
    refine z_inv1 (d' := d - 1) (As := []) rfl rfl (zf_Herd_oxen_64 (by omega)) rfl rfl rfl (by omega) rfl (fun r1 h2 hR3 hQ4 => ?_)
    obtain ⟨rfl, rfl⟩ := hQ4
    refine z_cge rfl (fun c5 => ?_) (fun c5 => ?_)
    · rw [if_pos c5] at hF
      refine zsubL (L' := [zJk, .inr (.inr 64), zJk, zJk, .inl x4, .inl x5, zJk, zJk]) ⟨Or.inr rfl, Or.inl rfl, Or.inr rfl, Or.inr rfl, Or.inl rfl, Or.inl rfl, Or.inr rfl, Or.inl rfl, trivial⟩ ?_
      obtain ⟨rfl, rfl, rfl⟩ := zinj3 hF
      exact K1
    · rw [if_neg c5] at hF
      refine z_aload rfl rfl rfl ?_
      refine z_iload rfl rfl ?_
      refine z_const rfl ?_
      refine z_inv1 (d' := d - 1) (As := [.inl x6, .inl 6]) rfl rfl (zf_Herd_get_64 (by omega) _ _) rfl rfl rfl (by omega) rfl (fun r6 h7 hR8 hQ9 => ?_)
      obtain ⟨rfl, rfl⟩ := hQ9
      refine z_const rfl ?_
      refine z_isub rfl ?_
      refine z_istore rfl rfl rfl ?_
      refine z_iload rfl rfl ?_
      refine z_zlt rfl (fun c20 => ?_) (fun c20 => ?_)
      · rw [if_pos c20] at hF
        refine z_iinc rfl rfl rfl ?_
        refine z_goto rfl ?_
        refine zsubL (L' := [.inr (.inr 0), .inr (.inr 64), .inl x2, .inl x3, .inl x4, .inl x5, .inl (w32 (x6 + 1)), zJk]) ⟨Or.inl rfl, Or.inl rfl, Or.inl rfl, Or.inl rfl, Or.inl rfl, Or.inl rfl, Or.inl rfl, Or.inr rfl, trivial⟩ ?_
        exact ih _ _ _ _ _ _ hF
      · rw [if_neg c20] at hF
        refine z_aload rfl rfl rfl ?_
        refine z_getr (r := 33) rfl rfl rfl rfl ?_
        refine z_iload rfl rfl ?_
        refine z_iload rfl rfl ?_
        refine z_iload rfl rfl ?_
        refine z_iload rfl rfl ?_
        refine z_aload rfl rfl rfl ?_
        refine z_iload rfl rfl ?_
        refine z_const rfl ?_
        refine z_inv1 (d' := d - 1) (As := [.inl x6, .inl 7]) rfl rfl (zf_Herd_get_64 (by omega) _ _) rfl rfl rfl (by omega) rfl (fun r21 h22 hR23 hQ24 => ?_)
        obtain ⟨rfl, rfl⟩ := hQ24
        refine z_const rfl ?_
        have hJ26 : zW l E d zm_Ox_blow 34 [.inr (.inr 0), .inr (.inr 64), .inl x2, .inl x3, .inl x4, .inl x5, .inl x6, zJk] [.inl (if sh_Herd_get_64 x6 7 h = (-1) then 0 else 1 : Int), .inl (w32 ((sh_Herd_get_64 x6 6 h) - 10)), .inl x3, .inl x2, .inl x6, .inr (.inr 33)] h Q := by
          refine z_aload rfl rfl rfl ?_
          refine z_inv1 (d' := d - 1) (As := []) rfl rfl (zf_Herd_hour_64 (by omega)) rfl rfl rfl (by omega) rfl (fun r27 h28 hR29 hQ30 => ?_)
          obtain ⟨rfl, rfl⟩ := hQ30
          refine z_inv0 (d' := d - 1) (As := [.inl x6, .inl x2, .inl x3, .inl (w32 ((sh_Herd_get_64 x6 6 h) - 10)), .inl (if sh_Herd_get_64 x6 7 h = (-1) then 0 else 1 : Int), .inl (sh_Herd_hour_64 h)]) rfl rfl (zf_Laws_ask (by omega) _ _ _ _ _ _) rfl rfl rfl (by omega) rfl (fun r31 h32 hR33 hQ34 => ?_)
          obtain ⟨rfl, rfl⟩ := hQ34
          refine z_aload rfl rfl rfl ?_
          refine z_getr (r := 33) rfl rfl rfl rfl ?_
          obtain ⟨r40, h41, hc39, hF⟩ := zbind2 hF
          refine z_inv1 (d' := d - 1) (As := []) rfl rfl (zf_Laws_heeded (by omega) N hc39) rfl rfl rfl (by omega) rfl (fun r35 h36 hR37 hQ38 => ?_)
          obtain ⟨rfl, rfl⟩ := hQ38
          refine z_zeq rfl (fun c43 => ?_) (fun c43 => ?_)
          · rw [if_pos c43] at hF
            refine z_iinc rfl rfl rfl ?_
            refine z_goto rfl ?_
            exact ih _ _ _ _ _ _ hF
          · rw [if_neg c43] at hF
            refine z_iload rfl rfl ?_
            refine z_const rfl ?_
            refine z_iload rfl rfl ?_
            refine z_ishl rfl ?_
            refine z_ior rfl ?_
            refine z_istore rfl rfl rfl ?_
            refine z_iload rfl rfl ?_
            refine z_aload rfl rfl rfl ?_
            refine z_getr (r := 33) rfl rfl rfl rfl ?_
            obtain ⟨r49, h50, hc48, hF⟩ := zbind2 hF
            refine z_inv1 (d' := d - 1) (As := []) rfl rfl (zf_Laws_toSecond (by omega) N hc48) rfl rfl rfl (by omega) rfl (fun r44 h45 hR46 hQ47 => ?_)
            obtain ⟨rfl, rfl⟩ := hQ47
            have hJ52 : zW l E d zm_Ox_blow 57 [.inr (.inr 0), .inr (.inr 64), .inl x2, .inl x3, .inl (zor x4 (zshl 1 x6)), zJk, .inl x6, zJk] [.inl (if r49 = 0 then 0 else zshl 1 x6 : Int), .inl x5] h50 Q := by
              refine z_ior rfl ?_
              refine z_istore rfl rfl rfl ?_
              refine z_iinc rfl rfl rfl ?_
              refine z_goto rfl ?_
              exact ih _ _ _ _ _ _ hF
            refine z_zeq rfl (fun c51 => ?_) (fun c51 => ?_)
            · refine z_const rfl ?_
              refine zsubL (L' := [.inr (.inr 0), .inr (.inr 64), .inl x2, .inl x3, .inl (zor x4 (zshl 1 x6)), zJk, .inl x6, zJk]) ⟨Or.inl rfl, Or.inl rfl, Or.inl rfl, Or.inl rfl, Or.inl rfl, Or.inr rfl, Or.inl rfl, Or.inl rfl, trivial⟩ ?_
              exact zcast (by first | rfl | (simp only [if_pos c51] <;> rfl)) (by first | rfl | (simp only [if_pos c51] <;> rfl)) hJ52
            · refine z_const rfl ?_
              refine z_iload rfl rfl ?_
              refine z_ishl rfl ?_
              refine z_goto rfl ?_
              refine zsubL (L' := [.inr (.inr 0), .inr (.inr 64), .inl x2, .inl x3, .inl (zor x4 (zshl 1 x6)), zJk, .inl x6, zJk]) ⟨Or.inl rfl, Or.inl rfl, Or.inl rfl, Or.inl rfl, Or.inl rfl, Or.inr rfl, Or.inl rfl, Or.inl rfl, trivial⟩ ?_
              exact zcast (by first | rfl | (simp only [if_neg c51] <;> rfl)) (by first | rfl | (simp only [if_neg c51] <;> rfl)) hJ52
        refine z_ceq rfl (fun c25 => ?_) (fun c25 => ?_)
        · refine z_const rfl ?_
          refine zsubL (L' := [.inr (.inr 0), .inr (.inr 64), .inl x2, .inl x3, .inl x4, .inl x5, .inl x6, zJk]) ⟨Or.inl rfl, Or.inl rfl, Or.inl rfl, Or.inl rfl, Or.inl rfl, Or.inl rfl, Or.inl rfl, Or.inr rfl, trivial⟩ ?_
          exact zcast (by first | rfl | (simp only [if_pos c25] <;> rfl)) (by first | rfl | (simp only [if_pos c25] <;> rfl)) hJ26
        · refine z_const rfl ?_
          refine z_goto rfl ?_
          refine zsubL (L' := [.inr (.inr 0), .inr (.inr 64), .inl x2, .inl x3, .inl x4, .inl x5, .inl x6, zJk]) ⟨Or.inl rfl, Or.inl rfl, Or.inl rfl, Or.inl rfl, Or.inl rfl, Or.inl rfl, Or.inl rfl, Or.inr rfl, trivial⟩ ?_
          exact zcast (by first | rfl | (simp only [if_neg c25] <;> rfl)) (by first | rfl | (simp only [if_neg c25] <;> rfl)) hJ26
set_option maxRecDepth 100000 in
set_option maxHeartbeats 4000000 in
theorem zl_Ox_blow_64_L63 {l : Launch} {E : zE} {d : Nat} (hd : 4 ≤ d) (N : Nat) {Q : Int → zHp → Prop} {o4 : Int} {oh : zHp} (K1 : zW l E d zm_Ox_blow 90 [zJk, zJk, zJk, zJk, .inl o4, zJk, zJk, zJk] [] oh Q) : ∀ (n : Nat) (x4 x5 x6 : Int) (h : zHp), sh_Ox_blow_64_L63 N n x4 x5 x6 h = some (o4, oh) → zW l E d zm_Ox_blow 63 [zJk, .inr (.inr 64), zJk, zJk, .inl x4, .inl x5, .inl x6, zJk] [] h Q := by
  intro n
  induction n with
  | zero =>
    intro x4 x5 x6 h hF
    cases (show (none : Option (Int × zHp)) = some (o4, oh) from hF)
  | succ n ih =>
    intro x4 x5 x6 h hF
    rw [sh_Ox_blow_64_L63] at hF
    refine z_iload rfl rfl ?_
    refine z_aload rfl rfl rfl ?_
    refine z_inv1 (d' := d - 1) (As := []) rfl rfl (zf_Herd_oxen_64 (by omega)) rfl rfl rfl (by omega) rfl (fun r57 h58 hR59 hQ60 => ?_)
    obtain ⟨rfl, rfl⟩ := hQ60
    refine z_cge rfl (fun c61 => ?_) (fun c61 => ?_)
    · rw [if_pos c61] at hF
      refine zsubL (L' := [zJk, zJk, zJk, zJk, .inl x4, zJk, zJk, zJk]) ⟨Or.inl rfl, Or.inr rfl, Or.inl rfl, Or.inl rfl, Or.inl rfl, Or.inr rfl, Or.inr rfl, Or.inl rfl, trivial⟩ ?_
      obtain ⟨rfl, rfl⟩ := zinj2 hF
      exact K1
    · rw [if_neg c61] at hF
      refine z_iload rfl rfl ?_
      refine z_iload rfl rfl ?_
      refine z_ivs1 (d' := d - 1) (As := [.inl x4, .inl x6]) rfl rfl (zf_Ox_isIn (by omega) _ _) rfl (by omega) rfl (fun r62 h63 hR64 hQ65 => ?_)
      obtain ⟨rfl, rfl⟩ := hQ65
      refine z_zeq rfl (fun c67 => ?_) (fun c67 => ?_)
      · rw [if_pos c67] at hF
        refine z_iinc rfl rfl rfl ?_
        refine z_goto rfl ?_
        exact ih _ _ _ _ hF
      · rw [if_neg c67] at hF
        refine z_aload rfl rfl rfl ?_
        refine z_iload rfl rfl ?_
        refine z_inv0 (d' := d - 1) (As := [.inl x6]) rfl rfl (zf_Herd_unyoke_64 (by omega) _) rfl rfl rfl (by omega) rfl (fun r68 h69 hR70 hQ71 => ?_)
        obtain ⟨rfl, rfl⟩ := hQ71
        refine z_aload rfl rfl rfl ?_
        refine z_iload rfl rfl ?_
        refine z_const rfl ?_
        refine z_aload rfl rfl rfl ?_
        refine z_iload rfl rfl ?_
        refine z_iload rfl rfl ?_
        refine z_iload rfl rfl ?_
        refine z_ivs1 (d' := d - 1) (As := [.inl x5, .inl x6]) rfl rfl (zf_Ox_isIn (by omega) _ _) rfl (by omega) rfl (fun r72 h73 hR74 hQ75 => ?_)
        obtain ⟨rfl, rfl⟩ := hQ75
        have hJ77 : zW l E d zm_Ox_blow 86 [zJk, .inr (.inr 64), zJk, zJk, .inl x4, .inl x5, .inl x6, zJk] [.inl (if sh_Ox_isIn x5 x6 = 0 then 0 else 1 : Int), .inl x6, .inr (.inr 64), .inl 6, .inl x6, .inr (.inr 64)] (sh_Herd_unyoke_64 x6 h) Q := by
          refine z_inv1 (d' := d - 1) (As := [.inl x6, .inl (if sh_Ox_isIn x5 x6 = 0 then 0 else 1 : Int)]) rfl rfl (zf_Herd_get_64 (by omega) _ _) rfl rfl rfl (by omega) rfl (fun r78 h79 hR80 hQ81 => ?_)
          obtain ⟨rfl, rfl⟩ := hQ81
          refine z_inv0 (d' := d - 1) (As := [.inl x6, .inl 6, .inl (sh_Herd_get_64 x6 (if sh_Ox_isIn x5 x6 = 0 then 0 else 1 : Int) (sh_Herd_unyoke_64 x6 h))]) rfl rfl (zf_Herd_put_64 (by omega) _ _ _) rfl rfl rfl (by omega) rfl (fun r82 h83 hR84 hQ85 => ?_)
          obtain ⟨rfl, rfl⟩ := hQ85
          refine z_iinc rfl rfl rfl ?_
          refine z_goto rfl ?_
          exact ih _ _ _ _ hF
        refine z_zeq rfl (fun c76 => ?_) (fun c76 => ?_)
        · refine z_const rfl ?_
          exact zcast (by first | rfl | (simp only [if_pos c76] <;> rfl)) (by first | rfl | (simp only [if_pos c76] <;> rfl)) hJ77
        · refine z_const rfl ?_
          refine z_goto rfl ?_
          exact zcast (by first | rfl | (simp only [if_neg c76] <;> rfl)) (by first | rfl | (simp only [if_neg c76] <;> rfl)) hJ77
set_option maxRecDepth 100000 in
set_option maxHeartbeats 4000000 in
theorem zw_Ox_blow_64 {l : Launch} {E : zE} {d : Nat} (hd : 4 ≤ d) (N : Nat) (x2 x3 : Int) {h : zHp} {Q : Int → zHp → Prop} {r0 : Int} {h0 : zHp} (hF : sh_Ox_blow_64 N x2 x3 h = some (r0, h0)) (K : Q r0 h0) : zW l E d zm_Ox_blow 0 [.inr (.inr 0), .inr (.inr 64), .inl x2, .inl x3, zJk, zJk, zJk, zJk] [] h Q := by
  rw [sh_Ox_blow_64] at hF
  refine z_const rfl ?_
  refine z_istore rfl rfl rfl ?_
  refine z_const rfl ?_
  refine z_istore rfl rfl rfl ?_
  refine z_const rfl ?_
  refine z_istore rfl rfl rfl ?_
  obtain ⟨y54, y55, h56, hL53, hF⟩ := zbind3 hF
  refine zl_Ox_blow_64_L6 (by omega) N ?_ N _ _ _ _ _ _ hL53
  refine z_const rfl ?_
  refine z_istore rfl rfl rfl ?_
  obtain ⟨y87, h88, hL86, hF⟩ := zbind2 hF
  refine zl_Ox_blow_64_L63 (by omega) N ?_ N _ _ _ _ hL86
  refine z_iload rfl rfl ?_
  obtain ⟨rfl, rfl⟩ := zinj2 hF
  exact z_iret rfl rfl K
set_option maxRecDepth 100000 in
theorem zf_Ox_blow_64 {l : Launch} {E : zE} {d : Nat} (hd : 4 ≤ d) (N : Nat) (x2 x3 : Int) {h : zHp} {r0 : Int} {h0 : zHp} (hF : sh_Ox_blow_64 N x2 x3 h = some (r0, h0)) : zC l E d zm_Ox_blow [.inr (.inr 0), .inr (.inr 64), .inl x2, .inl x3] h (fun r1 h1 => r0 = r1 ∧ h0 = h1) :=
  zC_of zk_Ox_blow (by decide) rfl rfl (Nat.le_of_ble_eq_true rfl) (zw_Ox_blow_64 hd N _ _ hF ⟨rfl, rfl⟩)
def sh_Integer_bitCount_0f7a4 (x0 : Int) : Int := zand (w32 ((w32 ((zand (w32 ((w32 ((zand (w32 (x0 - (zand (zushr x0 1) 1431655765))) 858993459) + (zand (zushr (w32 (x0 - (zand (zushr x0 1) 1431655765))) 2) 858993459))) + (zushr (w32 ((zand (w32 (x0 - (zand (zushr x0 1) 1431655765))) 858993459) + (zand (zushr (w32 (x0 - (zand (zushr x0 1) 1431655765))) 2) 858993459))) 4))) 252645135) + (zushr (zand (w32 ((w32 ((zand (w32 (x0 - (zand (zushr x0 1) 1431655765))) 858993459) + (zand (zushr (w32 (x0 - (zand (zushr x0 1) 1431655765))) 2) 858993459))) + (zushr (w32 ((zand (w32 (x0 - (zand (zushr x0 1) 1431655765))) 858993459) + (zand (zushr (w32 (x0 - (zand (zushr x0 1) 1431655765))) 2) 858993459))) 4))) 252645135) 8))) + (zushr (w32 ((zand (w32 ((w32 ((zand (w32 (x0 - (zand (zushr x0 1) 1431655765))) 858993459) + (zand (zushr (w32 (x0 - (zand (zushr x0 1) 1431655765))) 2) 858993459))) + (zushr (w32 ((zand (w32 (x0 - (zand (zushr x0 1) 1431655765))) 858993459) + (zand (zushr (w32 (x0 - (zand (zushr x0 1) 1431655765))) 2) 858993459))) 4))) 252645135) + (zushr (zand (w32 ((w32 ((zand (w32 (x0 - (zand (zushr x0 1) 1431655765))) 858993459) + (zand (zushr (w32 (x0 - (zand (zushr x0 1) 1431655765))) 2) 858993459))) + (zushr (w32 ((zand (w32 (x0 - (zand (zushr x0 1) 1431655765))) 858993459) + (zand (zushr (w32 (x0 - (zand (zushr x0 1) 1431655765))) 2) 858993459))) 4))) 252645135) 8))) 16))) 63
set_option maxRecDepth 100000 in
set_option maxHeartbeats 4000000 in
theorem zw_Integer_bitCount_0f7a4 {l : Launch} {E : zE} {d : Nat} (hd : 1 ≤ d) (x0 : Int) {h : zHp} {Q : Int → zHp → Prop} {r0 : Int} (hF : sh_Integer_bitCount_0f7a4 x0 = r0) (K : Q r0 h) : zW l E d zm_Integer_bitCount_0f7a4 0 [.inl x0] [] h Q := by
  rw [sh_Integer_bitCount_0f7a4] at hF
  refine z_iload rfl rfl ?_
  refine z_iload rfl rfl ?_
  refine z_const rfl ?_
  refine z_iushr rfl ?_
  refine z_const rfl ?_
  refine z_iand rfl ?_
  refine z_isub rfl ?_
  refine z_istore rfl rfl rfl ?_
  refine z_iload rfl rfl ?_
  refine z_const rfl ?_
  refine z_iand rfl ?_
  refine z_iload rfl rfl ?_
  refine z_const rfl ?_
  refine z_iushr rfl ?_
  refine z_const rfl ?_
  refine z_iand rfl ?_
  refine z_iadd rfl ?_
  refine z_istore rfl rfl rfl ?_
  refine z_iload rfl rfl ?_
  refine z_iload rfl rfl ?_
  refine z_const rfl ?_
  refine z_iushr rfl ?_
  refine z_iadd rfl ?_
  refine z_const rfl ?_
  refine z_iand rfl ?_
  refine z_istore rfl rfl rfl ?_
  refine z_iload rfl rfl ?_
  refine z_iload rfl rfl ?_
  refine z_const rfl ?_
  refine z_iushr rfl ?_
  refine z_iadd rfl ?_
  refine z_istore rfl rfl rfl ?_
  refine z_iload rfl rfl ?_
  refine z_iload rfl rfl ?_
  refine z_const rfl ?_
  refine z_iushr rfl ?_
  refine z_iadd rfl ?_
  refine z_istore rfl rfl rfl ?_
  refine z_iload rfl rfl ?_
  refine z_const rfl ?_
  refine z_iand rfl ?_
  subst hF
  exact z_iret rfl rfl K
set_option maxRecDepth 100000 in
theorem zf_Integer_bitCount_0f7a4 {l : Launch} {E : zE} {d : Nat} (hd : 1 ≤ d) (x0 : Int) {h : zHp} : zC l E d zm_Integer_bitCount_0f7a4 [.inl x0] h (fun r1 h1 => sh_Integer_bitCount_0f7a4 x0 = r1 ∧ h = h1) :=
  zC_of zk_Integer_bitCount_0f7a4 (by decide) rfl rfl (Nat.le_of_ble_eq_true rfl) (zw_Integer_bitCount_0f7a4 hd _ rfl ⟨rfl, rfl⟩)
def sh_Ox_thunder_L28 (N : Nat) : Nat → Int → Int → Int → Int → zHp → Option (Int × zHp)
  | 0, _, _, _, _, _ => none
  | n + 1, x2, x3, x4, x5, h => (if x2 ≤ x5 then some (x3, h) else zb2 (sh_Ox_blow_64 N (-1) (w32 ((x4).tmod 10)) h) fun r21 h22 => sh_Ox_thunder_L28 N n x2 (w32 (x3 + (sh_Integer_bitCount_0f7a4 r21))) (w32 (((w32 ((w32 (x4 * 163)) + 47))).tmod 30059)) (w32 (x5 + 1)) h22)
def sh_Ox_thunder (N : Nat) (x1 x2 : Int) (h : zHp) : Option (Int × zHp) := (if sh_Ox_within x1 0 9999 = 0 then some ((-1), h) else (if sh_Ox_within x2 1 99 = 0 then some ((-1), h) else zb2 (sh_Ox_thunder_L28 N N x2 0 (w32 ((w32 (x1 * 13)) + 2)) 0 (sh_Herd_copyFrom_64_14 h)) fun y28 h29 => some (y28, h29)))
set_option maxRecDepth 100000 in
set_option maxHeartbeats 4000000 in
theorem zl_Ox_thunder_L28 {l : Launch} {E : zE} {d : Nat} (hd : 5 ≤ d) (N : Nat) {Q : Int → zHp → Prop} {o3 : Int} {oh : zHp} (K1 : zW l E d zm_Ox_thunder 53 [zJk, zJk, zJk, .inl o3, zJk, zJk] [] oh Q) : ∀ (n : Nat) (x2 x3 x4 x5 : Int) (h : zHp), sh_Ox_thunder_L28 N n x2 x3 x4 x5 h = some (o3, oh) → zW l E d zm_Ox_thunder 28 [.inr (.inr 0), zJk, .inl x2, .inl x3, .inl x4, .inl x5] [] h Q := by
  intro n
  induction n with
  | zero =>
    intro x2 x3 x4 x5 h hF
    cases (show (none : Option (Int × zHp)) = some (o3, oh) from hF)
  | succ n ih =>
    intro x2 x3 x4 x5 h hF
    rw [sh_Ox_thunder_L28] at hF
    refine z_iload rfl rfl ?_
    refine z_iload rfl rfl ?_
    refine z_cge rfl (fun c15 => ?_) (fun c15 => ?_)
    · rw [if_pos c15] at hF
      refine zsubL (L' := [zJk, zJk, zJk, .inl x3, zJk, zJk]) ⟨Or.inr rfl, Or.inl rfl, Or.inr rfl, Or.inl rfl, Or.inr rfl, Or.inr rfl, trivial⟩ ?_
      obtain ⟨rfl, rfl⟩ := zinj2 hF
      exact K1
    · rw [if_neg c15] at hF
      refine z_iload rfl rfl ?_
      refine z_aload rfl rfl rfl ?_
      refine z_aload rfl rfl rfl ?_
      refine z_getr (r := 64) rfl rfl rfl rfl ?_
      refine z_const rfl ?_
      refine z_iload rfl rfl ?_
      refine z_const rfl ?_
      refine z_irem rfl (by decide) ?_
      obtain ⟨r21, h22, hc20, hF⟩ := zbind2 hF
      refine z_inv1 (d' := d - 1) (As := [.inr (.inr 64), .inl (-1), .inl (w32 ((x4).tmod 10))]) rfl rfl (zf_Ox_blow_64 (by omega) N _ _ hc20) rfl rfl rfl (by omega) rfl (fun r16 h17 hR18 hQ19 => ?_)
      obtain ⟨rfl, rfl⟩ := hQ19
      refine z_ivs1 (d' := d - 1) (As := [.inl r21]) rfl rfl (zf_Integer_bitCount_0f7a4 (by omega) _) rfl (by omega) rfl (fun r23 h24 hR25 hQ26 => ?_)
      obtain ⟨rfl, rfl⟩ := hQ26
      refine z_iadd rfl ?_
      refine z_istore rfl rfl rfl ?_
      refine z_iload rfl rfl ?_
      refine z_const rfl ?_
      refine z_imul rfl ?_
      refine z_const rfl ?_
      refine z_iadd rfl ?_
      refine z_const rfl ?_
      refine z_irem rfl (by decide) ?_
      refine z_istore rfl rfl rfl ?_
      refine z_iinc rfl rfl rfl ?_
      refine z_goto rfl ?_
      exact ih _ _ _ _ _ hF
set_option maxRecDepth 100000 in
set_option maxHeartbeats 4000000 in
theorem zw_Ox_thunder {l : Launch} {E : zE} {d : Nat} (hd : 5 ≤ d) (N : Nat) (x1 x2 : Int) {h : zHp} {Q : Int → zHp → Prop} {r0 : Int} {h0 : zHp} (hF : sh_Ox_thunder N x1 x2 h = some (r0, h0)) (K : Q r0 h0) : zW l E d zm_Ox_thunder 0 [.inr (.inr 0), .inl x1, .inl x2, zJk, zJk, zJk] [] h Q := by
  rw [sh_Ox_thunder] at hF
  refine z_iload rfl rfl ?_
  refine z_const rfl ?_
  refine z_const rfl ?_
  refine z_ivs1 (d' := d - 1) (As := [.inl x1, .inl 0, .inl 9999]) rfl rfl (zf_Ox_within (by omega) _ _ _) rfl (by omega) rfl (fun r1 h2 hR3 hQ4 => ?_)
  obtain ⟨rfl, rfl⟩ := hQ4
  refine z_zeq rfl (fun c5 => ?_) (fun c5 => ?_)
  · rw [if_pos c5] at hF
    refine z_const rfl ?_
    obtain ⟨rfl, rfl⟩ := zinj2 hF
    exact z_iret rfl rfl K
  · rw [if_neg c5] at hF
    refine z_iload rfl rfl ?_
    refine z_const rfl ?_
    refine z_const rfl ?_
    refine z_ivs1 (d' := d - 1) (As := [.inl x2, .inl 1, .inl 99]) rfl rfl (zf_Ox_within (by omega) _ _ _) rfl (by omega) rfl (fun r6 h7 hR8 hQ9 => ?_)
    obtain ⟨rfl, rfl⟩ := hQ9
    refine z_zne rfl (fun c10 => ?_) (fun c10 => ?_)
    · rw [if_neg c10] at hF
      refine z_aload rfl rfl rfl ?_
      refine z_getr (r := 64) rfl rfl rfl rfl ?_
      refine z_aload rfl rfl rfl ?_
      refine z_getr (r := 1) rfl rfl rfl rfl ?_
      refine z_getr (r := 14) rfl rfl rfl rfl ?_
      refine z_inv0 (d' := d - 1) (As := [.inr (.inr 14)]) rfl rfl (zf_Herd_copyFrom_64_14 (by omega)) rfl rfl rfl (by omega) rfl (fun r11 h12 hR13 hQ14 => ?_)
      obtain ⟨rfl, rfl⟩ := hQ14
      refine z_const rfl ?_
      refine z_istore rfl rfl rfl ?_
      refine z_iload rfl rfl ?_
      refine z_const rfl ?_
      refine z_imul rfl ?_
      refine z_const rfl ?_
      refine z_iadd rfl ?_
      refine z_istore rfl rfl rfl ?_
      refine z_const rfl ?_
      refine z_istore rfl rfl rfl ?_
      refine zsubL (L' := [.inr (.inr 0), zJk, .inl x2, .inl 0, .inl (w32 ((w32 (x1 * 13)) + 2)), .inl 0]) ⟨Or.inl rfl, Or.inr rfl, Or.inl rfl, Or.inl rfl, Or.inl rfl, Or.inl rfl, trivial⟩ ?_
      obtain ⟨y28, h29, hL27, hF⟩ := zbind2 hF
      refine zl_Ox_thunder_L28 (by omega) N ?_ N _ _ _ _ _ hL27
      refine z_iload rfl rfl ?_
      obtain ⟨rfl, rfl⟩ := zinj2 hF
      exact z_iret rfl rfl K
    · rw [if_pos c10] at hF
      refine z_const rfl ?_
      obtain ⟨rfl, rfl⟩ := zinj2 hF
      exact z_iret rfl rfl K
set_option maxRecDepth 100000 in
theorem zf_Ox_thunder {l : Launch} {E : zE} {d : Nat} (hd : 5 ≤ d) (N : Nat) (x1 x2 : Int) {h : zHp} {r0 : Int} {h0 : zHp} (hF : sh_Ox_thunder N x1 x2 h = some (r0, h0)) : zC l E d zm_Ox_thunder [.inr (.inr 0), .inl x1, .inl x2] h (fun r1 h1 => r0 = r1 ∧ h0 = h1) :=
  zC_of zk_Ox_thunder (by decide) rfl rfl (Nat.le_of_ble_eq_true rfl) (zw_Ox_thunder hd N _ _ hF ⟨rfl, rfl⟩)
def sh_Mo_strike_L4 (N : Nat) : Nat → Int → Int → Int → zHp → Option (Int × zHp)
  | 0, _, _, _, _ => none
  | n + 1, x1, x2, x3, h => (if h 86 2 ≤ x3 then some (x2, h) else if 0 ≤ x3 ∧ x3 < 8 then if 10 ≤ h 100 x3.toNat then if 0 ≤ x3 ∧ x3 < 8 then if 0 ≤ x3 ∧ x3 < 8 then zb1 (sh_Mo_name N x3 (-1) x1 (w32 ((h 100 x3.toNat) - 10)) (if h 101 x3.toNat < 0 then 0 else 1 : Int) (h 86 3) h) fun h14 => zb2 (sh_Mo_isHeeded N h14) fun r20 h21 => sh_Mo_strike_L4 N n x1 (zor x2 (if r20 = 0 then 0 else zshl 1 x3 : Int)) (w32 (x3 + 1)) h21 else none else none else sh_Mo_strike_L4 N n x1 x2 (w32 (x3 + 1)) h else none)
def sh_Mo_strike_L57_J81 (N : Nat) (rec : Int → Int → Int → zHp → Option (Int × zHp)) (a2 a3 a4 : Int) (hj : zHp) : Option (Int × zHp) := if 0 ≤ a4 ∧ a4 < 8 then if 0 ≤ a4 ∧ a4 < 8 then rec a2 (w32 (a3 + 1)) (w32 (a4 + 1)) (zst (zst hj 101 a4.toNat (-1)) 100 a4.toNat 0) else none else none
def sh_Mo_strike_L57 (N : Nat) : Nat → Int → Int → Int → zHp → Option (Int × zHp)
  | 0, _, _, _, _ => none
  | n + 1, x2, x3, x4, h => (if h 86 2 ≤ x4 then some (x3, h) else (if sh_Mo_has x2 x4 = 0 then sh_Mo_strike_L57 N n x2 x3 (w32 (x4 + 1)) h else if 0 ≤ x4 ∧ x4 < 8 then if h 101 x4.toNat < 0 then sh_Mo_strike_L57_J81 N (sh_Mo_strike_L57 N n) x2 x3 x4 h else if 0 ≤ x4 ∧ x4 < 8 then if 0 ≤ h 101 x4.toNat ∧ h 101 x4.toNat < 8 then sh_Mo_strike_L57_J81 N (sh_Mo_strike_L57 N n) x2 x3 x4 (zst h 101 (h 101 x4.toNat).toNat (-1)) else none else none else none))
def sh_Mo_strike (N : Nat) (x1 : Int) (h : zHp) : Option (Int × zHp) := zb2 (sh_Mo_strike_L4 N N x1 0 0 h) fun y25 h26 => zb2 (sh_Mo_strike_L57 N N y25 0 0 h26) fun y43 h44 => some (y43, h44)
set_option maxRecDepth 100000 in
set_option maxHeartbeats 4000000 in
theorem zl_Mo_strike_L4 {l : Launch} {E : zE} {d : Nat} (hd : 5 ≤ d) (N : Nat) {Q : Int → zHp → Prop} {o2 : Int} {oh : zHp} (K1 : zW l E d zm_Mo_strike 53 [.inr (.inr 85), zJk, .inl o2, zJk, zJk] [] oh Q) : ∀ (n : Nat) (x1 x2 x3 : Int) (h : zHp), sh_Mo_strike_L4 N n x1 x2 x3 h = some (o2, oh) → zW l E d zm_Mo_strike 4 [.inr (.inr 85), .inl x1, .inl x2, .inl x3, zJk] [] h Q := by
  intro n
  induction n with
  | zero =>
    intro x1 x2 x3 h hF
    cases (show (none : Option (Int × zHp)) = some (o2, oh) from hF)
  | succ n ih =>
    intro x1 x2 x3 h hF
    rw [sh_Mo_strike_L4] at hF
    refine z_iload rfl rfl ?_
    refine z_aload rfl rfl rfl ?_
    refine z_getr (r := 86) rfl rfl rfl rfl ?_
    refine z_const rfl ?_
    refine z_ialdc 2 rfl rfl rfl (by decide) ?_
    refine z_cge rfl (fun c1 => ?_) (fun c1 => ?_)
    · rw [if_pos c1] at hF
      refine zsubL (L' := [.inr (.inr 85), zJk, .inl x2, zJk, zJk]) ⟨Or.inl rfl, Or.inr rfl, Or.inl rfl, Or.inr rfl, Or.inl rfl, trivial⟩ ?_
      obtain ⟨rfl, rfl⟩ := zinj2 hF
      exact K1
    · rw [if_neg c1] at hF
      refine z_aload rfl rfl rfl ?_
      refine z_getr (r := 100) rfl rfl rfl rfl ?_
      refine z_iload rfl rfl ?_
      obtain ⟨g2, hF⟩ := zguard hF
      refine z_iald rfl rfl g2.1 g2.2 ?_
      refine z_const rfl ?_
      refine z_cge rfl (fun c4 => ?_) (fun c4 => ?_)
      · rw [if_pos c4] at hF
        refine z_aload rfl rfl rfl ?_
        refine z_iload rfl rfl ?_
        refine z_const rfl ?_
        refine z_iload rfl rfl ?_
        refine z_aload rfl rfl rfl ?_
        refine z_getr (r := 100) rfl rfl rfl rfl ?_
        refine z_iload rfl rfl ?_
        obtain ⟨g5, hF⟩ := zguard hF
        refine z_iald rfl rfl g5.1 g5.2 ?_
        refine z_const rfl ?_
        refine z_isub rfl ?_
        refine z_aload rfl rfl rfl ?_
        refine z_getr (r := 101) rfl rfl rfl rfl ?_
        refine z_iload rfl rfl ?_
        obtain ⟨g6, hF⟩ := zguard hF
        refine z_iald rfl rfl g6.1 g6.2 ?_
        have hJ8 : zW l E d zm_Mo_strike 35 [.inr (.inr 85), .inl x1, .inl x2, .inl x3, zJk] [.inl (if h 101 x3.toNat < 0 then 0 else 1 : Int), .inl (w32 ((h 100 x3.toNat) - 10)), .inl x1, .inl (-1), .inl x3, .inr (.inr 85)] h Q := by
          refine z_aload rfl rfl rfl ?_
          refine z_getr (r := 86) rfl rfl rfl rfl ?_
          refine z_const rfl ?_
          refine z_ialdc 3 rfl rfl rfl (by decide) ?_
          obtain ⟨h14, hc13, hF⟩ := zbind1 hF
          refine z_inv0 (d' := d - 1) (As := [.inl x3, .inl (-1), .inl x1, .inl (w32 ((h 100 x3.toNat) - 10)), .inl (if h 101 x3.toNat < 0 then 0 else 1 : Int), .inl (h 86 3)]) rfl rfl (zf_Mo_name (by omega) N _ _ _ _ _ _ hc13) rfl rfl rfl (by omega) rfl (fun r9 h10 hR11 hQ12 => ?_)
          obtain ⟨rfl, rfl⟩ := hQ12
          refine z_iload rfl rfl ?_
          refine z_aload rfl rfl rfl ?_
          obtain ⟨r20, h21, hc19, hF⟩ := zbind2 hF
          refine z_inv1 (d' := d - 1) (As := []) rfl rfl (zf_Mo_isHeeded (by omega) N hc19) rfl rfl rfl (by omega) rfl (fun r15 h16 hR17 hQ18 => ?_)
          obtain ⟨rfl, rfl⟩ := hQ18
          have hJ23 : zW l E d zm_Mo_strike 49 [.inr (.inr 85), .inl x1, zJk, .inl x3, zJk] [.inl (if r20 = 0 then 0 else zshl 1 x3 : Int), .inl x2] h21 Q := by
            refine z_ior rfl ?_
            refine z_istore rfl rfl rfl ?_
            refine z_iinc rfl rfl rfl ?_
            refine z_goto rfl ?_
            exact ih _ _ _ _ hF
          refine z_zeq rfl (fun c22 => ?_) (fun c22 => ?_)
          · refine z_const rfl ?_
            refine zsubL (L' := [.inr (.inr 85), .inl x1, zJk, .inl x3, zJk]) ⟨Or.inl rfl, Or.inl rfl, Or.inr rfl, Or.inl rfl, Or.inl rfl, trivial⟩ ?_
            exact zcast (by first | rfl | (simp only [if_pos c22] <;> rfl)) (by first | rfl | (simp only [if_pos c22] <;> rfl)) hJ23
          · refine z_const rfl ?_
            refine z_iload rfl rfl ?_
            refine z_ishl rfl ?_
            refine z_goto rfl ?_
            refine zsubL (L' := [.inr (.inr 85), .inl x1, zJk, .inl x3, zJk]) ⟨Or.inl rfl, Or.inl rfl, Or.inr rfl, Or.inl rfl, Or.inl rfl, trivial⟩ ?_
            exact zcast (by first | rfl | (simp only [if_neg c22] <;> rfl)) (by first | rfl | (simp only [if_neg c22] <;> rfl)) hJ23
        refine z_zlt rfl (fun c7 => ?_) (fun c7 => ?_)
        · refine z_const rfl ?_
          exact zcast (by first | rfl | (simp only [if_pos c7] <;> rfl)) (by first | rfl | (simp only [if_pos c7] <;> rfl)) hJ8
        · refine z_const rfl ?_
          refine z_goto rfl ?_
          exact zcast (by first | rfl | (simp only [if_neg c7] <;> rfl)) (by first | rfl | (simp only [if_neg c7] <;> rfl)) hJ8
      · rw [if_neg c4] at hF
        refine z_goto rfl ?_
        refine z_iinc rfl rfl rfl ?_
        refine z_goto rfl ?_
        exact ih _ _ _ _ hF
set_option maxRecDepth 100000 in
set_option maxHeartbeats 4000000 in
theorem zl_Mo_strike_L57 {l : Launch} {E : zE} {d : Nat} (hd : 5 ≤ d) (N : Nat) {Q : Int → zHp → Prop} {o3 : Int} {oh : zHp} (K1 : zW l E d zm_Mo_strike 94 [zJk, zJk, zJk, .inl o3, zJk] [] oh Q) : ∀ (n : Nat) (x2 x3 x4 : Int) (h : zHp), sh_Mo_strike_L57 N n x2 x3 x4 h = some (o3, oh) → zW l E d zm_Mo_strike 57 [.inr (.inr 85), zJk, .inl x2, .inl x3, .inl x4] [] h Q := by
  intro n
  induction n with
  | zero =>
    intro x2 x3 x4 h hF
    cases (show (none : Option (Int × zHp)) = some (o3, oh) from hF)
  | succ n ih =>
    intro x2 x3 x4 h hF
    rw [sh_Mo_strike_L57] at hF
    refine z_iload rfl rfl ?_
    refine z_aload rfl rfl rfl ?_
    refine z_getr (r := 86) rfl rfl rfl rfl ?_
    refine z_const rfl ?_
    refine z_ialdc 2 rfl rfl rfl (by decide) ?_
    refine z_cge rfl (fun c27 => ?_) (fun c27 => ?_)
    · rw [if_pos c27] at hF
      refine zsubL (L' := [zJk, zJk, zJk, .inl x3, zJk]) ⟨Or.inr rfl, Or.inl rfl, Or.inr rfl, Or.inl rfl, Or.inr rfl, trivial⟩ ?_
      obtain ⟨rfl, rfl⟩ := zinj2 hF
      exact K1
    · rw [if_neg c27] at hF
      refine z_iload rfl rfl ?_
      refine z_iload rfl rfl ?_
      refine z_ivs1 (d' := d - 1) (As := [.inl x2, .inl x4]) rfl rfl (zf_Mo_has (by omega) _ _) rfl (by omega) rfl (fun r28 h29 hR30 hQ31 => ?_)
      obtain ⟨rfl, rfl⟩ := hQ31
      refine z_zne rfl (fun c33 => ?_) (fun c33 => ?_)
      · rw [if_neg c33] at hF
        refine z_aload rfl rfl rfl ?_
        refine z_getr (r := 101) rfl rfl rfl rfl ?_
        refine z_iload rfl rfl ?_
        obtain ⟨g34, hF⟩ := zguard hF
        refine z_iald rfl rfl g34.1 g34.2 ?_
        have hJ37 : ∀ (a2 a3 a4 : Int) (hj : zHp), sh_Mo_strike_L57_J81 N (sh_Mo_strike_L57 N n) a2 a3 a4 hj = some (o3, oh) → zW l E d zm_Mo_strike 81 [.inr (.inr 85), zJk, .inl a2, .inl a3, .inl a4] [] hj Q := by
          intro a2 a3 a4 hj hF
          rw [sh_Mo_strike_L57_J81] at hF
          refine z_aload rfl rfl rfl ?_
          refine z_getr (r := 101) rfl rfl rfl rfl ?_
          refine z_iload rfl rfl ?_
          refine z_const rfl ?_
          obtain ⟨g38, hF⟩ := zguard hF
          refine z_iast rfl rfl g38.1 g38.2 ?_
          refine z_aload rfl rfl rfl ?_
          refine z_getr (r := 100) rfl rfl rfl rfl ?_
          refine z_iload rfl rfl ?_
          refine z_const rfl ?_
          obtain ⟨g39, hF⟩ := zguard hF
          refine z_iast rfl rfl g39.1 g39.2 ?_
          refine z_iinc rfl rfl rfl ?_
          refine z_iinc rfl rfl rfl ?_
          refine z_goto rfl ?_
          exact ih _ _ _ _ hF
        refine z_zlt rfl (fun c36 => ?_) (fun c36 => ?_)
        · rw [if_pos c36] at hF
          exact hJ37 _ _ _ _ hF
        · rw [if_neg c36] at hF
          refine z_aload rfl rfl rfl ?_
          refine z_getr (r := 101) rfl rfl rfl rfl ?_
          refine z_aload rfl rfl rfl ?_
          refine z_getr (r := 101) rfl rfl rfl rfl ?_
          refine z_iload rfl rfl ?_
          obtain ⟨g40, hF⟩ := zguard hF
          refine z_iald rfl rfl g40.1 g40.2 ?_
          refine z_const rfl ?_
          obtain ⟨g41, hF⟩ := zguard hF
          refine z_iast rfl rfl g41.1 g41.2 ?_
          exact hJ37 _ _ _ _ hF
      · rw [if_pos c33] at hF
        refine z_goto rfl ?_
        refine z_iinc rfl rfl rfl ?_
        refine z_goto rfl ?_
        exact ih _ _ _ _ hF
set_option maxRecDepth 100000 in
set_option maxHeartbeats 4000000 in
theorem zw_Mo_strike {l : Launch} {E : zE} {d : Nat} (hd : 5 ≤ d) (N : Nat) (x1 : Int) {h : zHp} {Q : Int → zHp → Prop} {r0 : Int} {h0 : zHp} (hF : sh_Mo_strike N x1 h = some (r0, h0)) (K : Q r0 h0) : zW l E d zm_Mo_strike 0 [.inr (.inr 85), .inl x1, zJk, zJk, zJk] [] h Q := by
  rw [sh_Mo_strike] at hF
  refine z_const rfl ?_
  refine z_istore rfl rfl rfl ?_
  refine z_const rfl ?_
  refine z_istore rfl rfl rfl ?_
  obtain ⟨y25, h26, hL24, hF⟩ := zbind2 hF
  refine zl_Mo_strike_L4 (by omega) N ?_ N _ _ _ _ hL24
  refine z_const rfl ?_
  refine z_istore rfl rfl rfl ?_
  refine z_const rfl ?_
  refine z_istore rfl rfl rfl ?_
  obtain ⟨y43, h44, hL42, hF⟩ := zbind2 hF
  refine zl_Mo_strike_L57 (by omega) N ?_ N _ _ _ _ hL42
  refine z_iload rfl rfl ?_
  obtain ⟨rfl, rfl⟩ := zinj2 hF
  exact z_iret rfl rfl K
set_option maxRecDepth 100000 in
theorem zf_Mo_strike {l : Launch} {E : zE} {d : Nat} (hd : 5 ≤ d) (N : Nat) (x1 : Int) {h : zHp} {r0 : Int} {h0 : zHp} (hF : sh_Mo_strike N x1 h = some (r0, h0)) : zC l E d zm_Mo_strike [.inr (.inr 85), .inl x1] h (fun r1 h1 => r0 = r1 ∧ h0 = h1) :=
  zC_of zk_Mo_strike (by decide) rfl rfl (Nat.le_of_ble_eq_true rfl) (zw_Mo_strike hd N _ hF ⟨rfl, rfl⟩)
def sh_Mo_thunder_L14 (N : Nat) : Nat → Int → Int → Int → zHp → Option (Int × Int × zHp)
  | 0, _, _, _, _ => none
  | n + 1, x1, x2, x3, h => (if h 86 2 ≤ x3 then some (x1, x2, h) else zb1 (sh_Mo_told N x3 6 h) fun r17 => if 0 ≤ x3 ∧ x3 < 8 then zb1 (sh_Mo_told N x3 7 (zst h 100 x3.toNat r17)) fun r24 => if 0 ≤ x3 ∧ x3 < 8 then sh_Mo_thunder_L14 N n x1 x2 (w32 (x3 + 1)) (zst (zst h 100 x3.toNat r17) 101 x3.toNat r24) else none else none)
def sh_Mo_thunder_L48 (N : Nat) : Nat → Int → Int → Int → Int → zHp → Option (Int × zHp)
  | 0, _, _, _, _, _ => none
  | n + 1, x2, x3, x4, x5, h => (if x2 ≤ x5 then some (x4, h) else zb2 (sh_Mo_strike N (w32 ((x3).tmod 10)) h) fun r36 h37 => sh_Mo_thunder_L48 N n x2 (w32 (((w32 ((w32 (x3 * 163)) + 47))).tmod 30059)) (w32 (x4 + r36)) (w32 (x5 + 1)) h37)
def sh_Mo_thunder (N : Nat) (x1 x2 : Int) (h : zHp) : Option (Int × zHp) := (if sh_Mo_isIn x1 0 9999 = 0 then some ((-1), h) else (if sh_Mo_isIn x2 1 99 = 0 then some ((-1), h) else zb3 (sh_Mo_thunder_L14 N N x1 x2 0 h) fun y27 y28 h29 => zb2 (sh_Mo_thunder_L48 N N y28 (w32 ((w32 (y27 * 13)) + 2)) 0 0 h29) fun y39 h40 => some (y39, h40)))
set_option maxRecDepth 100000 in
set_option maxHeartbeats 4000000 in
theorem zl_Mo_thunder_L14 {l : Launch} {E : zE} {d : Nat} (hd : 6 ≤ d) (N : Nat) {Q : Int → zHp → Prop} {o1 o2 : Int} {oh : zHp} (K1 : zW l E d zm_Mo_thunder 38 [.inr (.inr 85), .inl o1, .inl o2, zJk, zJk, zJk] [] oh Q) : ∀ (n : Nat) (x1 x2 x3 : Int) (h : zHp), sh_Mo_thunder_L14 N n x1 x2 x3 h = some (o1, o2, oh) → zW l E d zm_Mo_thunder 14 [.inr (.inr 85), .inl x1, .inl x2, .inl x3, zJk, zJk] [] h Q := by
  intro n
  induction n with
  | zero =>
    intro x1 x2 x3 h hF
    cases (show (none : Option (Int × Int × zHp)) = some (o1, o2, oh) from hF)
  | succ n ih =>
    intro x1 x2 x3 h hF
    rw [sh_Mo_thunder_L14] at hF
    refine z_iload rfl rfl ?_
    refine z_aload rfl rfl rfl ?_
    refine z_getr (r := 86) rfl rfl rfl rfl ?_
    refine z_const rfl ?_
    refine z_ialdc 2 rfl rfl rfl (by decide) ?_
    refine z_cge rfl (fun c11 => ?_) (fun c11 => ?_)
    · rw [if_pos c11] at hF
      refine zsubL (L' := [.inr (.inr 85), .inl x1, .inl x2, zJk, zJk, zJk]) ⟨Or.inl rfl, Or.inl rfl, Or.inl rfl, Or.inr rfl, Or.inl rfl, Or.inl rfl, trivial⟩ ?_
      obtain ⟨rfl, rfl, rfl⟩ := zinj3 hF
      exact K1
    · rw [if_neg c11] at hF
      refine z_aload rfl rfl rfl ?_
      refine z_getr (r := 100) rfl rfl rfl rfl ?_
      refine z_iload rfl rfl ?_
      refine z_aload rfl rfl rfl ?_
      refine z_iload rfl rfl ?_
      refine z_const rfl ?_
      obtain ⟨r17, hc16, hF⟩ := zbind1 hF
      refine z_inv1 (d' := d - 1) (As := [.inl x3, .inl 6]) rfl rfl (zf_Mo_told (by omega) N _ _ hc16) rfl rfl rfl (by omega) rfl (fun r12 h13 hR14 hQ15 => ?_)
      obtain ⟨rfl, rfl⟩ := hQ15
      obtain ⟨g18, hF⟩ := zguard hF
      refine z_iast rfl rfl g18.1 g18.2 ?_
      refine z_aload rfl rfl rfl ?_
      refine z_getr (r := 101) rfl rfl rfl rfl ?_
      refine z_iload rfl rfl ?_
      refine z_aload rfl rfl rfl ?_
      refine z_iload rfl rfl ?_
      refine z_const rfl ?_
      obtain ⟨r24, hc23, hF⟩ := zbind1 hF
      refine z_inv1 (d' := d - 1) (As := [.inl x3, .inl 7]) rfl rfl (zf_Mo_told (by omega) N _ _ hc23) rfl rfl rfl (by omega) rfl (fun r19 h20 hR21 hQ22 => ?_)
      obtain ⟨rfl, rfl⟩ := hQ22
      obtain ⟨g25, hF⟩ := zguard hF
      refine z_iast rfl rfl g25.1 g25.2 ?_
      refine z_iinc rfl rfl rfl ?_
      refine z_goto rfl ?_
      exact ih _ _ _ _ hF
set_option maxRecDepth 100000 in
set_option maxHeartbeats 4000000 in
theorem zl_Mo_thunder_L48 {l : Launch} {E : zE} {d : Nat} (hd : 6 ≤ d) (N : Nat) {Q : Int → zHp → Prop} {o4 : Int} {oh : zHp} (K1 : zW l E d zm_Mo_thunder 69 [zJk, zJk, zJk, zJk, .inl o4, zJk] [] oh Q) : ∀ (n : Nat) (x2 x3 x4 x5 : Int) (h : zHp), sh_Mo_thunder_L48 N n x2 x3 x4 x5 h = some (o4, oh) → zW l E d zm_Mo_thunder 48 [.inr (.inr 85), zJk, .inl x2, .inl x3, .inl x4, .inl x5] [] h Q := by
  intro n
  induction n with
  | zero =>
    intro x2 x3 x4 x5 h hF
    cases (show (none : Option (Int × zHp)) = some (o4, oh) from hF)
  | succ n ih =>
    intro x2 x3 x4 x5 h hF
    rw [sh_Mo_thunder_L48] at hF
    refine z_iload rfl rfl ?_
    refine z_iload rfl rfl ?_
    refine z_cge rfl (fun c30 => ?_) (fun c30 => ?_)
    · rw [if_pos c30] at hF
      refine zsubL (L' := [zJk, zJk, zJk, zJk, .inl x4, zJk]) ⟨Or.inr rfl, Or.inl rfl, Or.inr rfl, Or.inr rfl, Or.inl rfl, Or.inr rfl, trivial⟩ ?_
      obtain ⟨rfl, rfl⟩ := zinj2 hF
      exact K1
    · rw [if_neg c30] at hF
      refine z_iload rfl rfl ?_
      refine z_aload rfl rfl rfl ?_
      refine z_iload rfl rfl ?_
      refine z_const rfl ?_
      refine z_irem rfl (by decide) ?_
      obtain ⟨r36, h37, hc35, hF⟩ := zbind2 hF
      refine z_inv1 (d' := d - 1) (As := [.inl (w32 ((x3).tmod 10))]) rfl rfl (zf_Mo_strike (by omega) N _ hc35) rfl rfl rfl (by omega) rfl (fun r31 h32 hR33 hQ34 => ?_)
      obtain ⟨rfl, rfl⟩ := hQ34
      refine z_iadd rfl ?_
      refine z_istore rfl rfl rfl ?_
      refine z_iload rfl rfl ?_
      refine z_const rfl ?_
      refine z_imul rfl ?_
      refine z_const rfl ?_
      refine z_iadd rfl ?_
      refine z_const rfl ?_
      refine z_irem rfl (by decide) ?_
      refine z_istore rfl rfl rfl ?_
      refine z_iinc rfl rfl rfl ?_
      refine z_goto rfl ?_
      exact ih _ _ _ _ _ hF
set_option maxRecDepth 100000 in
set_option maxHeartbeats 4000000 in
theorem zw_Mo_thunder {l : Launch} {E : zE} {d : Nat} (hd : 6 ≤ d) (N : Nat) (x1 x2 : Int) {h : zHp} {Q : Int → zHp → Prop} {r0 : Int} {h0 : zHp} (hF : sh_Mo_thunder N x1 x2 h = some (r0, h0)) (K : Q r0 h0) : zW l E d zm_Mo_thunder 0 [.inr (.inr 85), .inl x1, .inl x2, zJk, zJk, zJk] [] h Q := by
  rw [sh_Mo_thunder] at hF
  refine z_iload rfl rfl ?_
  refine z_const rfl ?_
  refine z_const rfl ?_
  refine z_ivs1 (d' := d - 1) (As := [.inl x1, .inl 0, .inl 9999]) rfl rfl (zf_Mo_isIn (by omega) _ _ _) rfl (by omega) rfl (fun r1 h2 hR3 hQ4 => ?_)
  obtain ⟨rfl, rfl⟩ := hQ4
  refine z_zeq rfl (fun c5 => ?_) (fun c5 => ?_)
  · rw [if_pos c5] at hF
    refine z_const rfl ?_
    obtain ⟨rfl, rfl⟩ := zinj2 hF
    exact z_iret rfl rfl K
  · rw [if_neg c5] at hF
    refine z_iload rfl rfl ?_
    refine z_const rfl ?_
    refine z_const rfl ?_
    refine z_ivs1 (d' := d - 1) (As := [.inl x2, .inl 1, .inl 99]) rfl rfl (zf_Mo_isIn (by omega) _ _ _) rfl (by omega) rfl (fun r6 h7 hR8 hQ9 => ?_)
    obtain ⟨rfl, rfl⟩ := hQ9
    refine z_zne rfl (fun c10 => ?_) (fun c10 => ?_)
    · rw [if_neg c10] at hF
      refine z_const rfl ?_
      refine z_istore rfl rfl rfl ?_
      obtain ⟨y27, y28, h29, hL26, hF⟩ := zbind3 hF
      refine zl_Mo_thunder_L14 (by omega) N ?_ N _ _ _ _ hL26
      refine z_iload rfl rfl ?_
      refine z_const rfl ?_
      refine z_imul rfl ?_
      refine z_const rfl ?_
      refine z_iadd rfl ?_
      refine z_istore rfl rfl rfl ?_
      refine z_const rfl ?_
      refine z_istore rfl rfl rfl ?_
      refine z_const rfl ?_
      refine z_istore rfl rfl rfl ?_
      refine zsubL (L' := [.inr (.inr 85), zJk, .inl y28, .inl (w32 ((w32 (y27 * 13)) + 2)), .inl 0, .inl 0]) ⟨Or.inl rfl, Or.inr rfl, Or.inl rfl, Or.inl rfl, Or.inl rfl, Or.inl rfl, trivial⟩ ?_
      obtain ⟨y39, h40, hL38, hF⟩ := zbind2 hF
      refine zl_Mo_thunder_L48 (by omega) N ?_ N _ _ _ _ _ hL38
      refine z_iload rfl rfl ?_
      obtain ⟨rfl, rfl⟩ := zinj2 hF
      exact z_iret rfl rfl K
    · rw [if_pos c10] at hF
      refine z_const rfl ?_
      obtain ⟨rfl, rfl⟩ := zinj2 hF
      exact z_iret rfl rfl K
set_option maxRecDepth 100000 in
theorem zf_Mo_thunder {l : Launch} {E : zE} {d : Nat} (hd : 6 ≤ d) (N : Nat) (x1 x2 : Int) {h : zHp} {r0 : Int} {h0 : zHp} (hF : sh_Mo_thunder N x1 x2 h = some (r0, h0)) : zC l E d zm_Mo_thunder [.inr (.inr 85), .inl x1, .inl x2] h (fun r1 h1 => r0 = r1 ∧ h0 = h1) :=
  zC_of zk_Mo_thunder (by decide) rfl rfl (Nat.le_of_ble_eq_true rfl) (zw_Mo_thunder hd N _ _ hF ⟨rfl, rfl⟩)
def sh_Herd_copyFrom_54_14 (h : zHp) : zHp := rcopy h 56 71 16 71
set_option maxRecDepth 100000 in
set_option maxHeartbeats 4000000 in
theorem zw_Herd_copyFrom_54_14 {l : Launch} {E : zE} {d : Nat} (hd : 2 ≤ d) {h : zHp} {Q : Int → zHp → Prop} {h0 : zHp} (hF : sh_Herd_copyFrom_54_14 h = h0) (K : Q 0 h0) : zW l E d zm_Herd_copyFrom 0 [.inr (.inr 54), .inr (.inr 14)] [] h Q := by
  rw [sh_Herd_copyFrom_54_14] at hF
  refine z_aload rfl rfl rfl ?_
  refine z_getr (r := 55) rfl rfl rfl rfl ?_
  refine z_aload rfl rfl rfl ?_
  refine z_getr (r := 15) rfl rfl rfl rfl ?_
  refine z_inv0 (d' := d - 1) (As := [.inr (.inr 15)]) rfl rfl (zf_Row_copyFrom (r := 55) (a := 56) (n := 71) (r2 := 15) (b := 16) (m := 71) rfl rfl rfl rfl (by decide)) rfl rfl rfl (by omega) rfl (fun r1 h2 hR3 hQ4 => ?_)
  obtain ⟨rfl, rfl⟩ := hQ4
  subst hF
  exact z_ret rfl rfl rfl K
set_option maxRecDepth 100000 in
theorem zf_Herd_copyFrom_54_14 {l : Launch} {E : zE} {d : Nat} (hd : 2 ≤ d) {h : zHp} : zC l E d zm_Herd_copyFrom [.inr (.inr 54), .inr (.inr 14)] h (fun r1 h1 => 0 = r1 ∧ sh_Herd_copyFrom_54_14 h = h1) :=
  zC_of zk_Herd_copyFrom (by decide) rfl rfl (Nat.le_of_ble_eq_true rfl) (zw_Herd_copyFrom_54_14 hd rfl ⟨rfl, rfl⟩)
def sh_Steps_copyFrom_57_17 (h : zHp) : zHp := zst (zst (rcopy h 59 1420 19 1420) 57 1 (rcopy h 59 1420 19 1420 17 1)) 57 2 (zst (rcopy h 59 1420 19 1420) 57 1 (rcopy h 59 1420 19 1420 17 1) 17 2)
set_option maxRecDepth 100000 in
set_option maxHeartbeats 4000000 in
theorem zw_Steps_copyFrom_57_17 {l : Launch} {E : zE} {d : Nat} (hd : 2 ≤ d) {h : zHp} {Q : Int → zHp → Prop} {h0 : zHp} (hF : sh_Steps_copyFrom_57_17 h = h0) (K : Q 0 h0) : zW l E d zm_Steps_copyFrom 0 [.inr (.inr 57), .inr (.inr 17)] [] h Q := by
  rw [sh_Steps_copyFrom_57_17] at hF
  refine z_aload rfl rfl rfl ?_
  refine z_getr (r := 58) rfl rfl rfl rfl ?_
  refine z_aload rfl rfl rfl ?_
  refine z_getr (r := 18) rfl rfl rfl rfl ?_
  refine z_inv0 (d' := d - 1) (As := [.inr (.inr 18)]) rfl rfl (zf_Row_copyFrom (r := 58) (a := 59) (n := 1420) (r2 := 18) (b := 19) (m := 1420) rfl rfl rfl rfl (by decide)) rfl rfl rfl (by omega) rfl (fun r1 h2 hR3 hQ4 => ?_)
  obtain ⟨rfl, rfl⟩ := hQ4
  refine z_aload rfl rfl rfl ?_
  refine z_aload rfl rfl rfl ?_
  refine z_geti rfl rfl rfl rfl ?_
  refine z_puti rfl rfl rfl rfl ?_
  refine z_aload rfl rfl rfl ?_
  refine z_aload rfl rfl rfl ?_
  refine z_geti rfl rfl rfl rfl ?_
  refine z_puti rfl rfl rfl rfl ?_
  subst hF
  exact z_ret rfl rfl rfl K
set_option maxRecDepth 100000 in
theorem zf_Steps_copyFrom_57_17 {l : Launch} {E : zE} {d : Nat} (hd : 2 ≤ d) {h : zHp} : zC l E d zm_Steps_copyFrom [.inr (.inr 57), .inr (.inr 17)] h (fun r1 h1 => 0 = r1 ∧ sh_Steps_copyFrom_57_17 h = h1) :=
  zC_of zk_Steps_copyFrom (by decide) rfl rfl (Nat.le_of_ble_eq_true rfl) (zw_Steps_copyFrom_57_17 hd rfl ⟨rfl, rfl⟩)
def sh_Yard_copyFrom_41_1 (h : zHp) : zHp := zst (zst (rcopy (rcopy (zst (sh_Steps_copyFrom_57_17 (sh_Herd_copyFrom_54_14 (rcopy (rcopy (rcopy (rcopy (rcopy (rcopy (zst h 41 0 (h 1 0)) 43 5 3 5) 45 5 5 5) 47 5 7 5) 49 4 9 4) 51 4 11 4) 53 4 13 4))) 41 9 (sh_Steps_copyFrom_57_17 (sh_Herd_copyFrom_54_14 (rcopy (rcopy (rcopy (rcopy (rcopy (rcopy (zst h 41 0 (h 1 0)) 43 5 3 5) 45 5 5 5) 47 5 7 5) 49 4 9 4) 51 4 11 4) 53 4 13 4)) 1 9)) 61 8 21 8) 63 8 23 8) 41 12 (rcopy (rcopy (zst (sh_Steps_copyFrom_57_17 (sh_Herd_copyFrom_54_14 (rcopy (rcopy (rcopy (rcopy (rcopy (rcopy (zst h 41 0 (h 1 0)) 43 5 3 5) 45 5 5 5) 47 5 7 5) 49 4 9 4) 51 4 11 4) 53 4 13 4))) 41 9 (sh_Steps_copyFrom_57_17 (sh_Herd_copyFrom_54_14 (rcopy (rcopy (rcopy (rcopy (rcopy (rcopy (zst h 41 0 (h 1 0)) 43 5 3 5) 45 5 5 5) 47 5 7 5) 49 4 9 4) 51 4 11 4) 53 4 13 4)) 1 9)) 61 8 21 8) 63 8 23 8 1 12)) 41 13 (zst (rcopy (rcopy (zst (sh_Steps_copyFrom_57_17 (sh_Herd_copyFrom_54_14 (rcopy (rcopy (rcopy (rcopy (rcopy (rcopy (zst h 41 0 (h 1 0)) 43 5 3 5) 45 5 5 5) 47 5 7 5) 49 4 9 4) 51 4 11 4) 53 4 13 4))) 41 9 (sh_Steps_copyFrom_57_17 (sh_Herd_copyFrom_54_14 (rcopy (rcopy (rcopy (rcopy (rcopy (rcopy (zst h 41 0 (h 1 0)) 43 5 3 5) 45 5 5 5) 47 5 7 5) 49 4 9 4) 51 4 11 4) 53 4 13 4)) 1 9)) 61 8 21 8) 63 8 23 8) 41 12 (rcopy (rcopy (zst (sh_Steps_copyFrom_57_17 (sh_Herd_copyFrom_54_14 (rcopy (rcopy (rcopy (rcopy (rcopy (rcopy (zst h 41 0 (h 1 0)) 43 5 3 5) 45 5 5 5) 47 5 7 5) 49 4 9 4) 51 4 11 4) 53 4 13 4))) 41 9 (sh_Steps_copyFrom_57_17 (sh_Herd_copyFrom_54_14 (rcopy (rcopy (rcopy (rcopy (rcopy (rcopy (zst h 41 0 (h 1 0)) 43 5 3 5) 45 5 5 5) 47 5 7 5) 49 4 9 4) 51 4 11 4) 53 4 13 4)) 1 9)) 61 8 21 8) 63 8 23 8 1 12) 1 13)
set_option maxRecDepth 100000 in
set_option maxHeartbeats 4000000 in
theorem zw_Yard_copyFrom_41_1 {l : Launch} {E : zE} {d : Nat} (hd : 3 ≤ d) {h : zHp} {Q : Int → zHp → Prop} {h0 : zHp} (hF : sh_Yard_copyFrom_41_1 h = h0) (K : Q 0 h0) : zW l E d zm_Yard_copyFrom 0 [.inr (.inr 41), .inr (.inr 1)] [] h Q := by
  rw [sh_Yard_copyFrom_41_1] at hF
  refine z_aload rfl rfl rfl ?_
  refine z_aload rfl rfl rfl ?_
  refine z_geti rfl rfl rfl rfl ?_
  refine z_puti rfl rfl rfl rfl ?_
  refine z_aload rfl rfl rfl ?_
  refine z_getr (r := 42) rfl rfl rfl rfl ?_
  refine z_aload rfl rfl rfl ?_
  refine z_getr (r := 2) rfl rfl rfl rfl ?_
  refine z_inv0 (d' := d - 1) (As := [.inr (.inr 2)]) rfl rfl (zf_Row_copyFrom (r := 42) (a := 43) (n := 5) (r2 := 2) (b := 3) (m := 5) rfl rfl rfl rfl (by decide)) rfl rfl rfl (by omega) rfl (fun r1 h2 hR3 hQ4 => ?_)
  obtain ⟨rfl, rfl⟩ := hQ4
  refine z_aload rfl rfl rfl ?_
  refine z_getr (r := 44) rfl rfl rfl rfl ?_
  refine z_aload rfl rfl rfl ?_
  refine z_getr (r := 4) rfl rfl rfl rfl ?_
  refine z_inv0 (d' := d - 1) (As := [.inr (.inr 4)]) rfl rfl (zf_Row_copyFrom (r := 44) (a := 45) (n := 5) (r2 := 4) (b := 5) (m := 5) rfl rfl rfl rfl (by decide)) rfl rfl rfl (by omega) rfl (fun r5 h6 hR7 hQ8 => ?_)
  obtain ⟨rfl, rfl⟩ := hQ8
  refine z_aload rfl rfl rfl ?_
  refine z_getr (r := 46) rfl rfl rfl rfl ?_
  refine z_aload rfl rfl rfl ?_
  refine z_getr (r := 6) rfl rfl rfl rfl ?_
  refine z_inv0 (d' := d - 1) (As := [.inr (.inr 6)]) rfl rfl (zf_Row_copyFrom (r := 46) (a := 47) (n := 5) (r2 := 6) (b := 7) (m := 5) rfl rfl rfl rfl (by decide)) rfl rfl rfl (by omega) rfl (fun r9 h10 hR11 hQ12 => ?_)
  obtain ⟨rfl, rfl⟩ := hQ12
  refine z_aload rfl rfl rfl ?_
  refine z_getr (r := 48) rfl rfl rfl rfl ?_
  refine z_aload rfl rfl rfl ?_
  refine z_getr (r := 8) rfl rfl rfl rfl ?_
  refine z_inv0 (d' := d - 1) (As := [.inr (.inr 8)]) rfl rfl (zf_Row_copyFrom (r := 48) (a := 49) (n := 4) (r2 := 8) (b := 9) (m := 4) rfl rfl rfl rfl (by decide)) rfl rfl rfl (by omega) rfl (fun r13 h14 hR15 hQ16 => ?_)
  obtain ⟨rfl, rfl⟩ := hQ16
  refine z_aload rfl rfl rfl ?_
  refine z_getr (r := 50) rfl rfl rfl rfl ?_
  refine z_aload rfl rfl rfl ?_
  refine z_getr (r := 10) rfl rfl rfl rfl ?_
  refine z_inv0 (d' := d - 1) (As := [.inr (.inr 10)]) rfl rfl (zf_Row_copyFrom (r := 50) (a := 51) (n := 4) (r2 := 10) (b := 11) (m := 4) rfl rfl rfl rfl (by decide)) rfl rfl rfl (by omega) rfl (fun r17 h18 hR19 hQ20 => ?_)
  obtain ⟨rfl, rfl⟩ := hQ20
  refine z_aload rfl rfl rfl ?_
  refine z_getr (r := 52) rfl rfl rfl rfl ?_
  refine z_aload rfl rfl rfl ?_
  refine z_getr (r := 12) rfl rfl rfl rfl ?_
  refine z_inv0 (d' := d - 1) (As := [.inr (.inr 12)]) rfl rfl (zf_Row_copyFrom (r := 52) (a := 53) (n := 4) (r2 := 12) (b := 13) (m := 4) rfl rfl rfl rfl (by decide)) rfl rfl rfl (by omega) rfl (fun r21 h22 hR23 hQ24 => ?_)
  obtain ⟨rfl, rfl⟩ := hQ24
  refine z_aload rfl rfl rfl ?_
  refine z_getr (r := 54) rfl rfl rfl rfl ?_
  refine z_aload rfl rfl rfl ?_
  refine z_getr (r := 14) rfl rfl rfl rfl ?_
  refine z_inv0 (d' := d - 1) (As := [.inr (.inr 14)]) rfl rfl (zf_Herd_copyFrom_54_14 (by omega)) rfl rfl rfl (by omega) rfl (fun r25 h26 hR27 hQ28 => ?_)
  obtain ⟨rfl, rfl⟩ := hQ28
  refine z_aload rfl rfl rfl ?_
  refine z_getr (r := 57) rfl rfl rfl rfl ?_
  refine z_aload rfl rfl rfl ?_
  refine z_getr (r := 17) rfl rfl rfl rfl ?_
  refine z_inv0 (d' := d - 1) (As := [.inr (.inr 17)]) rfl rfl (zf_Steps_copyFrom_57_17 (by omega)) rfl rfl rfl (by omega) rfl (fun r29 h30 hR31 hQ32 => ?_)
  obtain ⟨rfl, rfl⟩ := hQ32
  refine z_aload rfl rfl rfl ?_
  refine z_aload rfl rfl rfl ?_
  refine z_geti rfl rfl rfl rfl ?_
  refine z_puti rfl rfl rfl rfl ?_
  refine z_aload rfl rfl rfl ?_
  refine z_getr (r := 60) rfl rfl rfl rfl ?_
  refine z_aload rfl rfl rfl ?_
  refine z_getr (r := 20) rfl rfl rfl rfl ?_
  refine z_inv0 (d' := d - 1) (As := [.inr (.inr 20)]) rfl rfl (zf_Row_copyFrom (r := 60) (a := 61) (n := 8) (r2 := 20) (b := 21) (m := 8) rfl rfl rfl rfl (by decide)) rfl rfl rfl (by omega) rfl (fun r33 h34 hR35 hQ36 => ?_)
  obtain ⟨rfl, rfl⟩ := hQ36
  refine z_aload rfl rfl rfl ?_
  refine z_getr (r := 62) rfl rfl rfl rfl ?_
  refine z_aload rfl rfl rfl ?_
  refine z_getr (r := 22) rfl rfl rfl rfl ?_
  refine z_inv0 (d' := d - 1) (As := [.inr (.inr 22)]) rfl rfl (zf_Row_copyFrom (r := 62) (a := 63) (n := 8) (r2 := 22) (b := 23) (m := 8) rfl rfl rfl rfl (by decide)) rfl rfl rfl (by omega) rfl (fun r37 h38 hR39 hQ40 => ?_)
  obtain ⟨rfl, rfl⟩ := hQ40
  refine z_aload rfl rfl rfl ?_
  refine z_aload rfl rfl rfl ?_
  refine z_geti rfl rfl rfl rfl ?_
  refine z_puti rfl rfl rfl rfl ?_
  refine z_aload rfl rfl rfl ?_
  refine z_aload rfl rfl rfl ?_
  refine z_geti rfl rfl rfl rfl ?_
  refine z_puti rfl rfl rfl rfl ?_
  subst hF
  exact z_ret rfl rfl rfl K
set_option maxRecDepth 100000 in
theorem zf_Yard_copyFrom_41_1 {l : Launch} {E : zE} {d : Nat} (hd : 3 ≤ d) {h : zHp} : zC l E d zm_Yard_copyFrom [.inr (.inr 41), .inr (.inr 1)] h (fun r1 h1 => 0 = r1 ∧ sh_Yard_copyFrom_41_1 h = h1) :=
  zC_of zk_Yard_copyFrom (by decide) rfl rfl (Nat.le_of_ble_eq_true rfl) (zw_Yard_copyFrom_41_1 hd rfl ⟨rfl, rfl⟩)
def sh_Ox_image (h : zHp) : Option (Int × zHp) := some (sh_Herd_hour_14 (sh_Yard_copyFrom_41_1 h), sh_Yard_copyFrom_41_1 h)
set_option maxRecDepth 100000 in
set_option maxHeartbeats 4000000 in
theorem zw_Ox_image {l : Launch} {E : zE} {d : Nat} (hd : 4 ≤ d) {h : zHp} {Q : Int → zHp → Prop} {r0 : Int} {h0 : zHp} (hF : sh_Ox_image h = some (r0, h0)) (K : Q r0 h0) : zW l E d zm_Ox_image 0 [.inr (.inr 0)] [] h Q := by
  rw [sh_Ox_image] at hF
  refine z_aload rfl rfl rfl ?_
  refine z_getr (r := 41) rfl rfl rfl rfl ?_
  refine z_aload rfl rfl rfl ?_
  refine z_getr (r := 1) rfl rfl rfl rfl ?_
  refine z_inv0 (d' := d - 1) (As := [.inr (.inr 1)]) rfl rfl (zf_Yard_copyFrom_41_1 (by omega)) rfl rfl rfl (by omega) rfl (fun r1 h2 hR3 hQ4 => ?_)
  obtain ⟨rfl, rfl⟩ := hQ4
  refine z_aload rfl rfl rfl ?_
  refine z_getr (r := 1) rfl rfl rfl rfl ?_
  refine z_getr (r := 14) rfl rfl rfl rfl ?_
  refine z_inv1 (d' := d - 1) (As := []) rfl rfl (zf_Herd_hour_14 (by omega)) rfl rfl rfl (by omega) rfl (fun r5 h6 hR7 hQ8 => ?_)
  obtain ⟨rfl, rfl⟩ := hQ8
  obtain ⟨rfl, rfl⟩ := zinj2 hF
  exact z_iret rfl rfl K
set_option maxRecDepth 100000 in
theorem zf_Ox_image {l : Launch} {E : zE} {d : Nat} (hd : 4 ≤ d) {h : zHp} {r0 : Int} {h0 : zHp} (hF : sh_Ox_image h = some (r0, h0)) : zC l E d zm_Ox_image [.inr (.inr 0)] h (fun r1 h1 => r0 = r1 ∧ h0 = h1) :=
  zC_of zk_Ox_image (by decide) rfl rfl (Nat.le_of_ble_eq_true rfl) (zw_Ox_image hd hF ⟨rfl, rfl⟩)
def sh_Mo_copy_86_87_L2 (N : Nat) : Nat → Int → zHp → Option (zHp)
  | 0, _, _ => none
  | n + 1, x2, h => (if 1061 ≤ x2 then some h else if 0 ≤ x2 ∧ x2 < 1061 then if 0 ≤ x2 ∧ x2 < 1061 then sh_Mo_copy_86_87_L2 N n (w32 (x2 + 1)) (zst h 87 x2.toNat (h 86 x2.toNat)) else none else none)
def sh_Mo_copy_86_87 (N : Nat) (h : zHp) : Option zHp := zb1 (sh_Mo_copy_86_87_L2 N N 0 h) fun h5 => some h5
set_option maxRecDepth 100000 in
set_option maxHeartbeats 4000000 in
theorem zl_Mo_copy_86_87_L2 {l : Launch} {E : zE} {d : Nat} (hd : 1 ≤ d) (N : Nat) {Q : Int → zHp → Prop} {oh : zHp} (K1 : zW l E d zm_Mo_copy 13 [zJk, zJk, zJk] [] oh Q) : ∀ (n : Nat) (x2 : Int) (h : zHp), sh_Mo_copy_86_87_L2 N n x2 h = some oh → zW l E d zm_Mo_copy 2 [.inr (.inr 86), .inr (.inr 87), .inl x2] [] h Q := by
  intro n
  induction n with
  | zero =>
    intro x2 h hF
    cases (show (none : Option (zHp)) = some oh from hF)
  | succ n ih =>
    intro x2 h hF
    rw [sh_Mo_copy_86_87_L2] at hF
    refine z_iload rfl rfl ?_
    refine z_const rfl ?_
    refine z_cge rfl (fun c1 => ?_) (fun c1 => ?_)
    · rw [if_pos c1] at hF
      refine zsubL (L' := [zJk, zJk, zJk]) ⟨Or.inr rfl, Or.inr rfl, Or.inr rfl, trivial⟩ ?_
      obtain rfl := Option.some.inj hF
      exact K1
    · rw [if_neg c1] at hF
      refine z_aload rfl rfl rfl ?_
      refine z_iload rfl rfl ?_
      refine z_aload rfl rfl rfl ?_
      refine z_iload rfl rfl ?_
      obtain ⟨g2, hF⟩ := zguard hF
      refine z_iald rfl rfl g2.1 g2.2 ?_
      obtain ⟨g3, hF⟩ := zguard hF
      refine z_iast rfl rfl g3.1 g3.2 ?_
      refine z_iinc rfl rfl rfl ?_
      refine z_goto rfl ?_
      exact ih _ _ hF
set_option maxRecDepth 100000 in
set_option maxHeartbeats 4000000 in
theorem zw_Mo_copy_86_87 {l : Launch} {E : zE} {d : Nat} (hd : 1 ≤ d) (N : Nat) {h : zHp} {Q : Int → zHp → Prop} {h0 : zHp} (hF : sh_Mo_copy_86_87 N h = some h0) (K : Q 0 h0) : zW l E d zm_Mo_copy 0 [.inr (.inr 86), .inr (.inr 87), zJk] [] h Q := by
  rw [sh_Mo_copy_86_87] at hF
  refine z_const rfl ?_
  refine z_istore rfl rfl rfl ?_
  obtain ⟨h5, hL4, hF⟩ := zbind1 hF
  refine zl_Mo_copy_86_87_L2 (by omega) N ?_ N _ _ hL4
  obtain rfl := Option.some.inj hF
  exact z_ret rfl rfl rfl K
set_option maxRecDepth 100000 in
theorem zf_Mo_copy_86_87 {l : Launch} {E : zE} {d : Nat} (hd : 1 ≤ d) (N : Nat) {h : zHp} {h0 : zHp} (hF : sh_Mo_copy_86_87 N h = some h0) : zC l E d zm_Mo_copy [.inr (.inr 86), .inr (.inr 87)] h (fun r1 h1 => 0 = r1 ∧ h0 = h1) :=
  zC_of zk_Mo_copy (by decide) rfl rfl (Nat.le_of_ble_eq_true rfl) (zw_Mo_copy_86_87 hd N hF ⟨rfl, rfl⟩)
def sh_Mo_image (N : Nat) (h : zHp) : Option (Int × zHp) := zb1 (sh_Mo_copy_86_87 N h) fun h6 => some (h6 86 3, h6)
set_option maxRecDepth 100000 in
set_option maxHeartbeats 4000000 in
theorem zw_Mo_image {l : Launch} {E : zE} {d : Nat} (hd : 2 ≤ d) (N : Nat) {h : zHp} {Q : Int → zHp → Prop} {r0 : Int} {h0 : zHp} (hF : sh_Mo_image N h = some (r0, h0)) (K : Q r0 h0) : zW l E d zm_Mo_image 0 [.inr (.inr 85)] [] h Q := by
  rw [sh_Mo_image] at hF
  refine z_aload rfl rfl rfl ?_
  refine z_getr (r := 86) rfl rfl rfl rfl ?_
  refine z_aload rfl rfl rfl ?_
  refine z_getr (r := 87) rfl rfl rfl rfl ?_
  obtain ⟨h6, hc5, hF⟩ := zbind1 hF
  refine z_ivs0 (d' := d - 1) (As := [.inr (.inr 86), .inr (.inr 87)]) rfl rfl (zf_Mo_copy_86_87 (by omega) N hc5) rfl (by omega) rfl (fun r1 h2 hR3 hQ4 => ?_)
  obtain ⟨rfl, rfl⟩ := hQ4
  refine z_aload rfl rfl rfl ?_
  refine z_getr (r := 86) rfl rfl rfl rfl ?_
  refine z_const rfl ?_
  refine z_ialdc 3 rfl rfl rfl (by decide) ?_
  obtain ⟨rfl, rfl⟩ := zinj2 hF
  exact z_iret rfl rfl K
set_option maxRecDepth 100000 in
theorem zf_Mo_image {l : Launch} {E : zE} {d : Nat} (hd : 2 ≤ d) (N : Nat) {h : zHp} {r0 : Int} {h0 : zHp} (hF : sh_Mo_image N h = some (r0, h0)) : zC l E d zm_Mo_image [.inr (.inr 85)] h (fun r1 h1 => r0 = r1 ∧ h0 = h1) :=
  zC_of zk_Mo_image (by decide) rfl rfl (Nat.le_of_ble_eq_true rfl) (zw_Mo_image hd N hF ⟨rfl, rfl⟩)
def sh_Herd_copyFrom_14_54 (h : zHp) : zHp := rcopy h 16 71 56 71
set_option maxRecDepth 100000 in
set_option maxHeartbeats 4000000 in
theorem zw_Herd_copyFrom_14_54 {l : Launch} {E : zE} {d : Nat} (hd : 2 ≤ d) {h : zHp} {Q : Int → zHp → Prop} {h0 : zHp} (hF : sh_Herd_copyFrom_14_54 h = h0) (K : Q 0 h0) : zW l E d zm_Herd_copyFrom 0 [.inr (.inr 14), .inr (.inr 54)] [] h Q := by
  rw [sh_Herd_copyFrom_14_54] at hF
  refine z_aload rfl rfl rfl ?_
  refine z_getr (r := 15) rfl rfl rfl rfl ?_
  refine z_aload rfl rfl rfl ?_
  refine z_getr (r := 55) rfl rfl rfl rfl ?_
  refine z_inv0 (d' := d - 1) (As := [.inr (.inr 55)]) rfl rfl (zf_Row_copyFrom (r := 15) (a := 16) (n := 71) (r2 := 55) (b := 56) (m := 71) rfl rfl rfl rfl (by decide)) rfl rfl rfl (by omega) rfl (fun r1 h2 hR3 hQ4 => ?_)
  obtain ⟨rfl, rfl⟩ := hQ4
  subst hF
  exact z_ret rfl rfl rfl K
set_option maxRecDepth 100000 in
theorem zf_Herd_copyFrom_14_54 {l : Launch} {E : zE} {d : Nat} (hd : 2 ≤ d) {h : zHp} : zC l E d zm_Herd_copyFrom [.inr (.inr 14), .inr (.inr 54)] h (fun r1 h1 => 0 = r1 ∧ sh_Herd_copyFrom_14_54 h = h1) :=
  zC_of zk_Herd_copyFrom (by decide) rfl rfl (Nat.le_of_ble_eq_true rfl) (zw_Herd_copyFrom_14_54 hd rfl ⟨rfl, rfl⟩)
def sh_Steps_copyFrom_17_57 (h : zHp) : zHp := zst (zst (rcopy h 19 1420 59 1420) 17 1 (rcopy h 19 1420 59 1420 57 1)) 17 2 (zst (rcopy h 19 1420 59 1420) 17 1 (rcopy h 19 1420 59 1420 57 1) 57 2)
set_option maxRecDepth 100000 in
set_option maxHeartbeats 4000000 in
theorem zw_Steps_copyFrom_17_57 {l : Launch} {E : zE} {d : Nat} (hd : 2 ≤ d) {h : zHp} {Q : Int → zHp → Prop} {h0 : zHp} (hF : sh_Steps_copyFrom_17_57 h = h0) (K : Q 0 h0) : zW l E d zm_Steps_copyFrom 0 [.inr (.inr 17), .inr (.inr 57)] [] h Q := by
  rw [sh_Steps_copyFrom_17_57] at hF
  refine z_aload rfl rfl rfl ?_
  refine z_getr (r := 18) rfl rfl rfl rfl ?_
  refine z_aload rfl rfl rfl ?_
  refine z_getr (r := 58) rfl rfl rfl rfl ?_
  refine z_inv0 (d' := d - 1) (As := [.inr (.inr 58)]) rfl rfl (zf_Row_copyFrom (r := 18) (a := 19) (n := 1420) (r2 := 58) (b := 59) (m := 1420) rfl rfl rfl rfl (by decide)) rfl rfl rfl (by omega) rfl (fun r1 h2 hR3 hQ4 => ?_)
  obtain ⟨rfl, rfl⟩ := hQ4
  refine z_aload rfl rfl rfl ?_
  refine z_aload rfl rfl rfl ?_
  refine z_geti rfl rfl rfl rfl ?_
  refine z_puti rfl rfl rfl rfl ?_
  refine z_aload rfl rfl rfl ?_
  refine z_aload rfl rfl rfl ?_
  refine z_geti rfl rfl rfl rfl ?_
  refine z_puti rfl rfl rfl rfl ?_
  subst hF
  exact z_ret rfl rfl rfl K
set_option maxRecDepth 100000 in
theorem zf_Steps_copyFrom_17_57 {l : Launch} {E : zE} {d : Nat} (hd : 2 ≤ d) {h : zHp} : zC l E d zm_Steps_copyFrom [.inr (.inr 17), .inr (.inr 57)] h (fun r1 h1 => 0 = r1 ∧ sh_Steps_copyFrom_17_57 h = h1) :=
  zC_of zk_Steps_copyFrom (by decide) rfl rfl (Nat.le_of_ble_eq_true rfl) (zw_Steps_copyFrom_17_57 hd rfl ⟨rfl, rfl⟩)
def sh_Yard_copyFrom_1_41 (h : zHp) : zHp := zst (zst (rcopy (rcopy (zst (sh_Steps_copyFrom_17_57 (sh_Herd_copyFrom_14_54 (rcopy (rcopy (rcopy (rcopy (rcopy (rcopy (zst h 1 0 (h 41 0)) 3 5 43 5) 5 5 45 5) 7 5 47 5) 9 4 49 4) 11 4 51 4) 13 4 53 4))) 1 9 (sh_Steps_copyFrom_17_57 (sh_Herd_copyFrom_14_54 (rcopy (rcopy (rcopy (rcopy (rcopy (rcopy (zst h 1 0 (h 41 0)) 3 5 43 5) 5 5 45 5) 7 5 47 5) 9 4 49 4) 11 4 51 4) 13 4 53 4)) 41 9)) 21 8 61 8) 23 8 63 8) 1 12 (rcopy (rcopy (zst (sh_Steps_copyFrom_17_57 (sh_Herd_copyFrom_14_54 (rcopy (rcopy (rcopy (rcopy (rcopy (rcopy (zst h 1 0 (h 41 0)) 3 5 43 5) 5 5 45 5) 7 5 47 5) 9 4 49 4) 11 4 51 4) 13 4 53 4))) 1 9 (sh_Steps_copyFrom_17_57 (sh_Herd_copyFrom_14_54 (rcopy (rcopy (rcopy (rcopy (rcopy (rcopy (zst h 1 0 (h 41 0)) 3 5 43 5) 5 5 45 5) 7 5 47 5) 9 4 49 4) 11 4 51 4) 13 4 53 4)) 41 9)) 21 8 61 8) 23 8 63 8 41 12)) 1 13 (zst (rcopy (rcopy (zst (sh_Steps_copyFrom_17_57 (sh_Herd_copyFrom_14_54 (rcopy (rcopy (rcopy (rcopy (rcopy (rcopy (zst h 1 0 (h 41 0)) 3 5 43 5) 5 5 45 5) 7 5 47 5) 9 4 49 4) 11 4 51 4) 13 4 53 4))) 1 9 (sh_Steps_copyFrom_17_57 (sh_Herd_copyFrom_14_54 (rcopy (rcopy (rcopy (rcopy (rcopy (rcopy (zst h 1 0 (h 41 0)) 3 5 43 5) 5 5 45 5) 7 5 47 5) 9 4 49 4) 11 4 51 4) 13 4 53 4)) 41 9)) 21 8 61 8) 23 8 63 8) 1 12 (rcopy (rcopy (zst (sh_Steps_copyFrom_17_57 (sh_Herd_copyFrom_14_54 (rcopy (rcopy (rcopy (rcopy (rcopy (rcopy (zst h 1 0 (h 41 0)) 3 5 43 5) 5 5 45 5) 7 5 47 5) 9 4 49 4) 11 4 51 4) 13 4 53 4))) 1 9 (sh_Steps_copyFrom_17_57 (sh_Herd_copyFrom_14_54 (rcopy (rcopy (rcopy (rcopy (rcopy (rcopy (zst h 1 0 (h 41 0)) 3 5 43 5) 5 5 45 5) 7 5 47 5) 9 4 49 4) 11 4 51 4) 13 4 53 4)) 41 9)) 21 8 61 8) 23 8 63 8 41 12) 41 13)
set_option maxRecDepth 100000 in
set_option maxHeartbeats 4000000 in
theorem zw_Yard_copyFrom_1_41 {l : Launch} {E : zE} {d : Nat} (hd : 3 ≤ d) {h : zHp} {Q : Int → zHp → Prop} {h0 : zHp} (hF : sh_Yard_copyFrom_1_41 h = h0) (K : Q 0 h0) : zW l E d zm_Yard_copyFrom 0 [.inr (.inr 1), .inr (.inr 41)] [] h Q := by
  rw [sh_Yard_copyFrom_1_41] at hF
  refine z_aload rfl rfl rfl ?_
  refine z_aload rfl rfl rfl ?_
  refine z_geti rfl rfl rfl rfl ?_
  refine z_puti rfl rfl rfl rfl ?_
  refine z_aload rfl rfl rfl ?_
  refine z_getr (r := 2) rfl rfl rfl rfl ?_
  refine z_aload rfl rfl rfl ?_
  refine z_getr (r := 42) rfl rfl rfl rfl ?_
  refine z_inv0 (d' := d - 1) (As := [.inr (.inr 42)]) rfl rfl (zf_Row_copyFrom (r := 2) (a := 3) (n := 5) (r2 := 42) (b := 43) (m := 5) rfl rfl rfl rfl (by decide)) rfl rfl rfl (by omega) rfl (fun r1 h2 hR3 hQ4 => ?_)
  obtain ⟨rfl, rfl⟩ := hQ4
  refine z_aload rfl rfl rfl ?_
  refine z_getr (r := 4) rfl rfl rfl rfl ?_
  refine z_aload rfl rfl rfl ?_
  refine z_getr (r := 44) rfl rfl rfl rfl ?_
  refine z_inv0 (d' := d - 1) (As := [.inr (.inr 44)]) rfl rfl (zf_Row_copyFrom (r := 4) (a := 5) (n := 5) (r2 := 44) (b := 45) (m := 5) rfl rfl rfl rfl (by decide)) rfl rfl rfl (by omega) rfl (fun r5 h6 hR7 hQ8 => ?_)
  obtain ⟨rfl, rfl⟩ := hQ8
  refine z_aload rfl rfl rfl ?_
  refine z_getr (r := 6) rfl rfl rfl rfl ?_
  refine z_aload rfl rfl rfl ?_
  refine z_getr (r := 46) rfl rfl rfl rfl ?_
  refine z_inv0 (d' := d - 1) (As := [.inr (.inr 46)]) rfl rfl (zf_Row_copyFrom (r := 6) (a := 7) (n := 5) (r2 := 46) (b := 47) (m := 5) rfl rfl rfl rfl (by decide)) rfl rfl rfl (by omega) rfl (fun r9 h10 hR11 hQ12 => ?_)
  obtain ⟨rfl, rfl⟩ := hQ12
  refine z_aload rfl rfl rfl ?_
  refine z_getr (r := 8) rfl rfl rfl rfl ?_
  refine z_aload rfl rfl rfl ?_
  refine z_getr (r := 48) rfl rfl rfl rfl ?_
  refine z_inv0 (d' := d - 1) (As := [.inr (.inr 48)]) rfl rfl (zf_Row_copyFrom (r := 8) (a := 9) (n := 4) (r2 := 48) (b := 49) (m := 4) rfl rfl rfl rfl (by decide)) rfl rfl rfl (by omega) rfl (fun r13 h14 hR15 hQ16 => ?_)
  obtain ⟨rfl, rfl⟩ := hQ16
  refine z_aload rfl rfl rfl ?_
  refine z_getr (r := 10) rfl rfl rfl rfl ?_
  refine z_aload rfl rfl rfl ?_
  refine z_getr (r := 50) rfl rfl rfl rfl ?_
  refine z_inv0 (d' := d - 1) (As := [.inr (.inr 50)]) rfl rfl (zf_Row_copyFrom (r := 10) (a := 11) (n := 4) (r2 := 50) (b := 51) (m := 4) rfl rfl rfl rfl (by decide)) rfl rfl rfl (by omega) rfl (fun r17 h18 hR19 hQ20 => ?_)
  obtain ⟨rfl, rfl⟩ := hQ20
  refine z_aload rfl rfl rfl ?_
  refine z_getr (r := 12) rfl rfl rfl rfl ?_
  refine z_aload rfl rfl rfl ?_
  refine z_getr (r := 52) rfl rfl rfl rfl ?_
  refine z_inv0 (d' := d - 1) (As := [.inr (.inr 52)]) rfl rfl (zf_Row_copyFrom (r := 12) (a := 13) (n := 4) (r2 := 52) (b := 53) (m := 4) rfl rfl rfl rfl (by decide)) rfl rfl rfl (by omega) rfl (fun r21 h22 hR23 hQ24 => ?_)
  obtain ⟨rfl, rfl⟩ := hQ24
  refine z_aload rfl rfl rfl ?_
  refine z_getr (r := 14) rfl rfl rfl rfl ?_
  refine z_aload rfl rfl rfl ?_
  refine z_getr (r := 54) rfl rfl rfl rfl ?_
  refine z_inv0 (d' := d - 1) (As := [.inr (.inr 54)]) rfl rfl (zf_Herd_copyFrom_14_54 (by omega)) rfl rfl rfl (by omega) rfl (fun r25 h26 hR27 hQ28 => ?_)
  obtain ⟨rfl, rfl⟩ := hQ28
  refine z_aload rfl rfl rfl ?_
  refine z_getr (r := 17) rfl rfl rfl rfl ?_
  refine z_aload rfl rfl rfl ?_
  refine z_getr (r := 57) rfl rfl rfl rfl ?_
  refine z_inv0 (d' := d - 1) (As := [.inr (.inr 57)]) rfl rfl (zf_Steps_copyFrom_17_57 (by omega)) rfl rfl rfl (by omega) rfl (fun r29 h30 hR31 hQ32 => ?_)
  obtain ⟨rfl, rfl⟩ := hQ32
  refine z_aload rfl rfl rfl ?_
  refine z_aload rfl rfl rfl ?_
  refine z_geti rfl rfl rfl rfl ?_
  refine z_puti rfl rfl rfl rfl ?_
  refine z_aload rfl rfl rfl ?_
  refine z_getr (r := 20) rfl rfl rfl rfl ?_
  refine z_aload rfl rfl rfl ?_
  refine z_getr (r := 60) rfl rfl rfl rfl ?_
  refine z_inv0 (d' := d - 1) (As := [.inr (.inr 60)]) rfl rfl (zf_Row_copyFrom (r := 20) (a := 21) (n := 8) (r2 := 60) (b := 61) (m := 8) rfl rfl rfl rfl (by decide)) rfl rfl rfl (by omega) rfl (fun r33 h34 hR35 hQ36 => ?_)
  obtain ⟨rfl, rfl⟩ := hQ36
  refine z_aload rfl rfl rfl ?_
  refine z_getr (r := 22) rfl rfl rfl rfl ?_
  refine z_aload rfl rfl rfl ?_
  refine z_getr (r := 62) rfl rfl rfl rfl ?_
  refine z_inv0 (d' := d - 1) (As := [.inr (.inr 62)]) rfl rfl (zf_Row_copyFrom (r := 22) (a := 23) (n := 8) (r2 := 62) (b := 63) (m := 8) rfl rfl rfl rfl (by decide)) rfl rfl rfl (by omega) rfl (fun r37 h38 hR39 hQ40 => ?_)
  obtain ⟨rfl, rfl⟩ := hQ40
  refine z_aload rfl rfl rfl ?_
  refine z_aload rfl rfl rfl ?_
  refine z_geti rfl rfl rfl rfl ?_
  refine z_puti rfl rfl rfl rfl ?_
  refine z_aload rfl rfl rfl ?_
  refine z_aload rfl rfl rfl ?_
  refine z_geti rfl rfl rfl rfl ?_
  refine z_puti rfl rfl rfl rfl ?_
  subst hF
  exact z_ret rfl rfl rfl K
set_option maxRecDepth 100000 in
theorem zf_Yard_copyFrom_1_41 {l : Launch} {E : zE} {d : Nat} (hd : 3 ≤ d) {h : zHp} : zC l E d zm_Yard_copyFrom [.inr (.inr 1), .inr (.inr 41)] h (fun r1 h1 => 0 = r1 ∧ sh_Yard_copyFrom_1_41 h = h1) :=
  zC_of zk_Yard_copyFrom (by decide) rfl rfl (Nat.le_of_ble_eq_true rfl) (zw_Yard_copyFrom_1_41 hd rfl ⟨rfl, rfl⟩)
def sh_Ox_back (h : zHp) : Option (Int × zHp) := some (sh_Herd_hour_14 (sh_Yard_copyFrom_1_41 h), sh_Yard_copyFrom_1_41 h)
set_option maxRecDepth 100000 in
set_option maxHeartbeats 4000000 in
theorem zw_Ox_back {l : Launch} {E : zE} {d : Nat} (hd : 4 ≤ d) {h : zHp} {Q : Int → zHp → Prop} {r0 : Int} {h0 : zHp} (hF : sh_Ox_back h = some (r0, h0)) (K : Q r0 h0) : zW l E d zm_Ox_back 0 [.inr (.inr 0)] [] h Q := by
  rw [sh_Ox_back] at hF
  refine z_aload rfl rfl rfl ?_
  refine z_getr (r := 1) rfl rfl rfl rfl ?_
  refine z_aload rfl rfl rfl ?_
  refine z_getr (r := 41) rfl rfl rfl rfl ?_
  refine z_inv0 (d' := d - 1) (As := [.inr (.inr 41)]) rfl rfl (zf_Yard_copyFrom_1_41 (by omega)) rfl rfl rfl (by omega) rfl (fun r1 h2 hR3 hQ4 => ?_)
  obtain ⟨rfl, rfl⟩ := hQ4
  refine z_aload rfl rfl rfl ?_
  refine z_getr (r := 1) rfl rfl rfl rfl ?_
  refine z_getr (r := 14) rfl rfl rfl rfl ?_
  refine z_inv1 (d' := d - 1) (As := []) rfl rfl (zf_Herd_hour_14 (by omega)) rfl rfl rfl (by omega) rfl (fun r5 h6 hR7 hQ8 => ?_)
  obtain ⟨rfl, rfl⟩ := hQ8
  obtain ⟨rfl, rfl⟩ := zinj2 hF
  exact z_iret rfl rfl K
set_option maxRecDepth 100000 in
theorem zf_Ox_back {l : Launch} {E : zE} {d : Nat} (hd : 4 ≤ d) {h : zHp} {r0 : Int} {h0 : zHp} (hF : sh_Ox_back h = some (r0, h0)) : zC l E d zm_Ox_back [.inr (.inr 0)] h (fun r1 h1 => r0 = r1 ∧ h0 = h1) :=
  zC_of zk_Ox_back (by decide) rfl rfl (Nat.le_of_ble_eq_true rfl) (zw_Ox_back hd hF ⟨rfl, rfl⟩)
def sh_Mo_copy_87_86_L2 (N : Nat) : Nat → Int → zHp → Option (zHp)
  | 0, _, _ => none
  | n + 1, x2, h => (if 1061 ≤ x2 then some h else if 0 ≤ x2 ∧ x2 < 1061 then if 0 ≤ x2 ∧ x2 < 1061 then sh_Mo_copy_87_86_L2 N n (w32 (x2 + 1)) (zst h 86 x2.toNat (h 87 x2.toNat)) else none else none)
def sh_Mo_copy_87_86 (N : Nat) (h : zHp) : Option zHp := zb1 (sh_Mo_copy_87_86_L2 N N 0 h) fun h5 => some h5
set_option maxRecDepth 100000 in
set_option maxHeartbeats 4000000 in
theorem zl_Mo_copy_87_86_L2 {l : Launch} {E : zE} {d : Nat} (hd : 1 ≤ d) (N : Nat) {Q : Int → zHp → Prop} {oh : zHp} (K1 : zW l E d zm_Mo_copy 13 [zJk, zJk, zJk] [] oh Q) : ∀ (n : Nat) (x2 : Int) (h : zHp), sh_Mo_copy_87_86_L2 N n x2 h = some oh → zW l E d zm_Mo_copy 2 [.inr (.inr 87), .inr (.inr 86), .inl x2] [] h Q := by
  intro n
  induction n with
  | zero =>
    intro x2 h hF
    cases (show (none : Option (zHp)) = some oh from hF)
  | succ n ih =>
    intro x2 h hF
    rw [sh_Mo_copy_87_86_L2] at hF
    refine z_iload rfl rfl ?_
    refine z_const rfl ?_
    refine z_cge rfl (fun c1 => ?_) (fun c1 => ?_)
    · rw [if_pos c1] at hF
      refine zsubL (L' := [zJk, zJk, zJk]) ⟨Or.inr rfl, Or.inr rfl, Or.inr rfl, trivial⟩ ?_
      obtain rfl := Option.some.inj hF
      exact K1
    · rw [if_neg c1] at hF
      refine z_aload rfl rfl rfl ?_
      refine z_iload rfl rfl ?_
      refine z_aload rfl rfl rfl ?_
      refine z_iload rfl rfl ?_
      obtain ⟨g2, hF⟩ := zguard hF
      refine z_iald rfl rfl g2.1 g2.2 ?_
      obtain ⟨g3, hF⟩ := zguard hF
      refine z_iast rfl rfl g3.1 g3.2 ?_
      refine z_iinc rfl rfl rfl ?_
      refine z_goto rfl ?_
      exact ih _ _ hF
set_option maxRecDepth 100000 in
set_option maxHeartbeats 4000000 in
theorem zw_Mo_copy_87_86 {l : Launch} {E : zE} {d : Nat} (hd : 1 ≤ d) (N : Nat) {h : zHp} {Q : Int → zHp → Prop} {h0 : zHp} (hF : sh_Mo_copy_87_86 N h = some h0) (K : Q 0 h0) : zW l E d zm_Mo_copy 0 [.inr (.inr 87), .inr (.inr 86), zJk] [] h Q := by
  rw [sh_Mo_copy_87_86] at hF
  refine z_const rfl ?_
  refine z_istore rfl rfl rfl ?_
  obtain ⟨h5, hL4, hF⟩ := zbind1 hF
  refine zl_Mo_copy_87_86_L2 (by omega) N ?_ N _ _ hL4
  obtain rfl := Option.some.inj hF
  exact z_ret rfl rfl rfl K
set_option maxRecDepth 100000 in
theorem zf_Mo_copy_87_86 {l : Launch} {E : zE} {d : Nat} (hd : 1 ≤ d) (N : Nat) {h : zHp} {h0 : zHp} (hF : sh_Mo_copy_87_86 N h = some h0) : zC l E d zm_Mo_copy [.inr (.inr 87), .inr (.inr 86)] h (fun r1 h1 => 0 = r1 ∧ h0 = h1) :=
  zC_of zk_Mo_copy (by decide) rfl rfl (Nat.le_of_ble_eq_true rfl) (zw_Mo_copy_87_86 hd N hF ⟨rfl, rfl⟩)
def sh_Mo_back (N : Nat) (h : zHp) : Option (Int × zHp) := zb1 (sh_Mo_copy_87_86 N h) fun h6 => some (h6 86 3, h6)
set_option maxRecDepth 100000 in
set_option maxHeartbeats 4000000 in
theorem zw_Mo_back {l : Launch} {E : zE} {d : Nat} (hd : 2 ≤ d) (N : Nat) {h : zHp} {Q : Int → zHp → Prop} {r0 : Int} {h0 : zHp} (hF : sh_Mo_back N h = some (r0, h0)) (K : Q r0 h0) : zW l E d zm_Mo_back 0 [.inr (.inr 85)] [] h Q := by
  rw [sh_Mo_back] at hF
  refine z_aload rfl rfl rfl ?_
  refine z_getr (r := 87) rfl rfl rfl rfl ?_
  refine z_aload rfl rfl rfl ?_
  refine z_getr (r := 86) rfl rfl rfl rfl ?_
  obtain ⟨h6, hc5, hF⟩ := zbind1 hF
  refine z_ivs0 (d' := d - 1) (As := [.inr (.inr 87), .inr (.inr 86)]) rfl rfl (zf_Mo_copy_87_86 (by omega) N hc5) rfl (by omega) rfl (fun r1 h2 hR3 hQ4 => ?_)
  obtain ⟨rfl, rfl⟩ := hQ4
  refine z_aload rfl rfl rfl ?_
  refine z_getr (r := 86) rfl rfl rfl rfl ?_
  refine z_const rfl ?_
  refine z_ialdc 3 rfl rfl rfl (by decide) ?_
  obtain ⟨rfl, rfl⟩ := zinj2 hF
  exact z_iret rfl rfl K
set_option maxRecDepth 100000 in
theorem zf_Mo_back {l : Launch} {E : zE} {d : Nat} (hd : 2 ≤ d) (N : Nat) {h : zHp} {r0 : Int} {h0 : zHp} (hF : sh_Mo_back N h = some (r0, h0)) : zC l E d zm_Mo_back [.inr (.inr 85)] h (fun r1 h1 => r0 = r1 ∧ h0 = h1) :=
  zC_of zk_Mo_back (by decide) rfl rfl (Nat.le_of_ble_eq_true rfl) (zw_Mo_back hd N hF ⟨rfl, rfl⟩)
def sh_Steps_count_17 (h : zHp) : Int := h 17 2
set_option maxRecDepth 100000 in
set_option maxHeartbeats 4000000 in
theorem zw_Steps_count_17 {l : Launch} {E : zE} {d : Nat} (hd : 1 ≤ d) {h : zHp} {Q : Int → zHp → Prop} {r0 : Int} (hF : sh_Steps_count_17 h = r0) (K : Q r0 h) : zW l E d zm_Steps_count 0 [.inr (.inr 17)] [] h Q := by
  rw [sh_Steps_count_17] at hF
  refine z_aload rfl rfl rfl ?_
  refine z_geti rfl rfl rfl rfl ?_
  subst hF
  exact z_iret rfl rfl K
set_option maxRecDepth 100000 in
theorem zf_Steps_count_17 {l : Launch} {E : zE} {d : Nat} (hd : 1 ≤ d) {h : zHp} : zC l E d zm_Steps_count [.inr (.inr 17)] h (fun r1 h1 => sh_Steps_count_17 h = r1 ∧ h = h1) :=
  zC_of zk_Steps_count (by decide) rfl rfl (Nat.le_of_ble_eq_true rfl) (zw_Steps_count_17 hd rfl ⟨rfl, rfl⟩)
def sh_Ox_about (x1 : Int) (h : zHp) : Int := (if sh_Ox_isFarm (w32 (x1 - 10)) h = 0 then (if sh_Ox_isField (w32 (x1 - 20)) h = 0 then (if x1 = 0 then h 1 0 else if x1 = 1 then sh_Herd_fields_14 h else if x1 = 2 then sh_Herd_oxen_14 h else if x1 = 3 then sh_Herd_hour_14 h else if x1 = 4 then h 1 12 else if x1 = 5 then h 1 13 else if x1 = 6 then h 1 9 else if x1 = 7 then sh_Steps_count_17 h else if x1 = 8 then h 0 1 else (-2)) else sh_Herd_furrows_14 (w32 (x1 - 20)) h) else rget h 7 5 (w32 (x1 - 10)))
set_option maxRecDepth 100000 in
set_option maxHeartbeats 4000000 in
theorem zw_Ox_about {l : Launch} {E : zE} {d : Nat} (hd : 4 ≤ d) (x1 : Int) {h : zHp} {Q : Int → zHp → Prop} {r0 : Int} (hF : sh_Ox_about x1 h = r0) (K : Q r0 h) : zW l E d zm_Ox_about 0 [.inr (.inr 0), .inl x1] [] h Q := by
  rw [sh_Ox_about] at hF
  refine z_aload rfl rfl rfl ?_
  refine z_iload rfl rfl ?_
  refine z_const rfl ?_
  refine z_isub rfl ?_
  refine z_inv1 (d' := d - 1) (As := [.inl (w32 (x1 - 10))]) rfl rfl (zf_Ox_isFarm (by omega) _) rfl rfl rfl (by omega) rfl (fun r1 h2 hR3 hQ4 => ?_)
  obtain ⟨rfl, rfl⟩ := hQ4
  refine z_zeq rfl (fun c5 => ?_) (fun c5 => ?_)
  · rw [if_pos c5] at hF
    refine z_aload rfl rfl rfl ?_
    refine z_iload rfl rfl ?_
    refine z_const rfl ?_
    refine z_isub rfl ?_
    refine z_inv1 (d' := d - 1) (As := [.inl (w32 (x1 - 20))]) rfl rfl (zf_Ox_isField (by omega) _) rfl rfl rfl (by omega) rfl (fun r6 h7 hR8 hQ9 => ?_)
    obtain ⟨rfl, rfl⟩ := hQ9
    refine z_zeq rfl (fun c10 => ?_) (fun c10 => ?_)
    · rw [if_pos c10] at hF
      refine z_iload rfl rfl ?_
      refine z_switch rfl (by unfold zI32; omega) (by decide) (fun c11 => ?_) (fun j t ht e => ?_)
      · simp only [List.length_cons, List.length_nil] at c11
        rw [if_neg (by omega), if_neg (by omega), if_neg (by omega), if_neg (by omega), if_neg (by omega), if_neg (by omega), if_neg (by omega), if_neg (by omega), if_neg (by omega)] at hF
        refine z_const rfl ?_
        subst hF
        exact z_iret rfl rfl K
      · match j, ht, e with
        | 0, ht, e =>
          obtain rfl : 30 = t := Option.some.inj ht
          rw [if_pos (by omega)] at hF
          refine z_aload rfl rfl rfl ?_
          refine z_getr (r := 1) rfl rfl rfl rfl ?_
          refine z_geti rfl rfl rfl rfl ?_
          subst hF
          exact z_iret rfl rfl K
        | 1, ht, e =>
          obtain rfl : 34 = t := Option.some.inj ht
          rw [if_neg (by omega), if_pos (by omega)] at hF
          refine z_aload rfl rfl rfl ?_
          refine z_getr (r := 1) rfl rfl rfl rfl ?_
          refine z_getr (r := 14) rfl rfl rfl rfl ?_
          refine z_inv1 (d' := d - 1) (As := []) rfl rfl (zf_Herd_fields_14 (by omega)) rfl rfl rfl (by omega) rfl (fun r12 h13 hR14 hQ15 => ?_)
          obtain ⟨rfl, rfl⟩ := hQ15
          subst hF
          exact z_iret rfl rfl K
        | 2, ht, e =>
          obtain rfl : 39 = t := Option.some.inj ht
          rw [if_neg (by omega), if_neg (by omega), if_pos (by omega)] at hF
          refine z_aload rfl rfl rfl ?_
          refine z_getr (r := 1) rfl rfl rfl rfl ?_
          refine z_getr (r := 14) rfl rfl rfl rfl ?_
          refine z_inv1 (d' := d - 1) (As := []) rfl rfl (zf_Herd_oxen_14 (by omega)) rfl rfl rfl (by omega) rfl (fun r16 h17 hR18 hQ19 => ?_)
          obtain ⟨rfl, rfl⟩ := hQ19
          subst hF
          exact z_iret rfl rfl K
        | 3, ht, e =>
          obtain rfl : 44 = t := Option.some.inj ht
          rw [if_neg (by omega), if_neg (by omega), if_neg (by omega), if_pos (by omega)] at hF
          refine z_aload rfl rfl rfl ?_
          refine z_getr (r := 1) rfl rfl rfl rfl ?_
          refine z_getr (r := 14) rfl rfl rfl rfl ?_
          refine z_inv1 (d' := d - 1) (As := []) rfl rfl (zf_Herd_hour_14 (by omega)) rfl rfl rfl (by omega) rfl (fun r20 h21 hR22 hQ23 => ?_)
          obtain ⟨rfl, rfl⟩ := hQ23
          subst hF
          exact z_iret rfl rfl K
        | 4, ht, e =>
          obtain rfl : 49 = t := Option.some.inj ht
          rw [if_neg (by omega), if_neg (by omega), if_neg (by omega), if_neg (by omega), if_pos (by omega)] at hF
          refine z_aload rfl rfl rfl ?_
          refine z_getr (r := 1) rfl rfl rfl rfl ?_
          refine z_geti rfl rfl rfl rfl ?_
          subst hF
          exact z_iret rfl rfl K
        | 5, ht, e =>
          obtain rfl : 53 = t := Option.some.inj ht
          rw [if_neg (by omega), if_neg (by omega), if_neg (by omega), if_neg (by omega), if_neg (by omega), if_pos (by omega)] at hF
          refine z_aload rfl rfl rfl ?_
          refine z_getr (r := 1) rfl rfl rfl rfl ?_
          refine z_geti rfl rfl rfl rfl ?_
          subst hF
          exact z_iret rfl rfl K
        | 6, ht, e =>
          obtain rfl : 57 = t := Option.some.inj ht
          rw [if_neg (by omega), if_neg (by omega), if_neg (by omega), if_neg (by omega), if_neg (by omega), if_neg (by omega), if_pos (by omega)] at hF
          refine z_aload rfl rfl rfl ?_
          refine z_getr (r := 1) rfl rfl rfl rfl ?_
          refine z_geti rfl rfl rfl rfl ?_
          subst hF
          exact z_iret rfl rfl K
        | 7, ht, e =>
          obtain rfl : 61 = t := Option.some.inj ht
          rw [if_neg (by omega), if_neg (by omega), if_neg (by omega), if_neg (by omega), if_neg (by omega), if_neg (by omega), if_neg (by omega), if_pos (by omega)] at hF
          refine z_aload rfl rfl rfl ?_
          refine z_getr (r := 1) rfl rfl rfl rfl ?_
          refine z_getr (r := 17) rfl rfl rfl rfl ?_
          refine z_inv1 (d' := d - 1) (As := []) rfl rfl (zf_Steps_count_17 (by omega)) rfl rfl rfl (by omega) rfl (fun r24 h25 hR26 hQ27 => ?_)
          obtain ⟨rfl, rfl⟩ := hQ27
          subst hF
          exact z_iret rfl rfl K
        | 8, ht, e =>
          obtain rfl : 66 = t := Option.some.inj ht
          rw [if_neg (by omega), if_neg (by omega), if_neg (by omega), if_neg (by omega), if_neg (by omega), if_neg (by omega), if_neg (by omega), if_neg (by omega), if_pos (by omega)] at hF
          refine z_aload rfl rfl rfl ?_
          refine z_geti rfl rfl rfl rfl ?_
          subst hF
          exact z_iret rfl rfl K
        | j + 9, ht, e => cases ht
    · rw [if_neg c10] at hF
      refine z_aload rfl rfl rfl ?_
      refine z_getr (r := 1) rfl rfl rfl rfl ?_
      refine z_getr (r := 14) rfl rfl rfl rfl ?_
      refine z_iload rfl rfl ?_
      refine z_const rfl ?_
      refine z_isub rfl ?_
      refine z_inv1 (d' := d - 1) (As := [.inl (w32 (x1 - 20))]) rfl rfl (zf_Herd_furrows_14 (by omega) _) rfl rfl rfl (by omega) rfl (fun r28 h29 hR30 hQ31 => ?_)
      obtain ⟨rfl, rfl⟩ := hQ31
      subst hF
      exact z_iret rfl rfl K
  · rw [if_neg c5] at hF
    refine z_aload rfl rfl rfl ?_
    refine z_getr (r := 1) rfl rfl rfl rfl ?_
    refine z_getr (r := 6) rfl rfl rfl rfl ?_
    refine z_iload rfl rfl ?_
    refine z_const rfl ?_
    refine z_isub rfl ?_
    refine z_inv1 (d' := d - 1) (As := [.inl (w32 (x1 - 10))]) rfl rfl (zf_Row_get (r := 6) (a := 7) (n := 5) rfl rfl _) rfl rfl rfl (by omega) rfl (fun r32 h33 hR34 hQ35 => ?_)
    obtain ⟨rfl, rfl⟩ := hQ35
    subst hF
    exact z_iret rfl rfl K
set_option maxRecDepth 100000 in
theorem zf_Ox_about {l : Launch} {E : zE} {d : Nat} (hd : 4 ≤ d) (x1 : Int) {h : zHp} : zC l E d zm_Ox_about [.inr (.inr 0), .inl x1] h (fun r1 h1 => sh_Ox_about x1 h = r1 ∧ h = h1) :=
  zC_of zk_Ox_about (by decide) rfl rfl (Nat.le_of_ble_eq_true rfl) (zw_Ox_about hd _ rfl ⟨rfl, rfl⟩)
def sh_Mo_about (N : Nat) (x1 : Int) (h : zHp) : Option Int := (if sh_Mo_isIn x1 10 (w32 (9 + (h 86 0))) = 0 then (if sh_Mo_isIn x1 20 (w32 (19 + (h 86 1))) = 0 then (if sh_Mo_isIn x1 0 7 = 0 then some (if x1 = 8 then h 85 4 else (-2) : Int) else if 0 ≤ x1 ∧ x1 < 1061 then some (h 86 x1.toNat) else none) else if 0 ≤ w32 ((w32 (25 + (w32 (4 * (w32 (x1 - 20)))))) + 3) ∧ w32 ((w32 (25 + (w32 (4 * (w32 (x1 - 20)))))) + 3) < 1061 then some (h 86 (w32 ((w32 (25 + (w32 (4 * (w32 (x1 - 20)))))) + 3)).toNat) else none) else zb1 (sh_Mo_pitchOf N (w32 (x1 - 10)) h) fun r27 => some r27)
set_option maxRecDepth 100000 in
set_option maxHeartbeats 4000000 in
theorem zw_Mo_about {l : Launch} {E : zE} {d : Nat} (hd : 2 ≤ d) (N : Nat) (x1 : Int) {h : zHp} {Q : Int → zHp → Prop} {r0 : Int} (hF : sh_Mo_about N x1 h = some r0) (K : Q r0 h) : zW l E d zm_Mo_about 0 [.inr (.inr 85), .inl x1] [] h Q := by
  rw [sh_Mo_about] at hF
  refine z_iload rfl rfl ?_
  refine z_const rfl ?_
  refine z_const rfl ?_
  refine z_aload rfl rfl rfl ?_
  refine z_getr (r := 86) rfl rfl rfl rfl ?_
  refine z_const rfl ?_
  refine z_ialdc 0 rfl rfl rfl (by decide) ?_
  refine z_iadd rfl ?_
  refine z_ivs1 (d' := d - 1) (As := [.inl x1, .inl 10, .inl (w32 (9 + (h 86 0)))]) rfl rfl (zf_Mo_isIn (by omega) _ _ _) rfl (by omega) rfl (fun r1 h2 hR3 hQ4 => ?_)
  obtain ⟨rfl, rfl⟩ := hQ4
  refine z_zeq rfl (fun c5 => ?_) (fun c5 => ?_)
  · rw [if_pos c5] at hF
    refine z_iload rfl rfl ?_
    refine z_const rfl ?_
    refine z_const rfl ?_
    refine z_aload rfl rfl rfl ?_
    refine z_getr (r := 86) rfl rfl rfl rfl ?_
    refine z_const rfl ?_
    refine z_ialdc 1 rfl rfl rfl (by decide) ?_
    refine z_iadd rfl ?_
    refine z_ivs1 (d' := d - 1) (As := [.inl x1, .inl 20, .inl (w32 (19 + (h 86 1)))]) rfl rfl (zf_Mo_isIn (by omega) _ _ _) rfl (by omega) rfl (fun r6 h7 hR8 hQ9 => ?_)
    obtain ⟨rfl, rfl⟩ := hQ9
    refine z_zeq rfl (fun c10 => ?_) (fun c10 => ?_)
    · rw [if_pos c10] at hF
      refine z_iload rfl rfl ?_
      refine z_const rfl ?_
      refine z_const rfl ?_
      refine z_ivs1 (d' := d - 1) (As := [.inl x1, .inl 0, .inl 7]) rfl rfl (zf_Mo_isIn (by omega) _ _ _) rfl (by omega) rfl (fun r11 h12 hR13 hQ14 => ?_)
      obtain ⟨rfl, rfl⟩ := hQ14
      refine z_zeq rfl (fun c17 => ?_) (fun c17 => ?_)
      · rw [if_pos c17] at hF
        refine z_iload rfl rfl ?_
        refine z_const rfl ?_
        have hJ19 : zW l E d zm_Mo_about 56 [zJk, zJk] [.inl (if x1 = 8 then h 85 4 else (-2) : Int)] h Q := by
          obtain rfl := Option.some.inj hF
          exact z_iret rfl rfl K
        refine z_cne rfl (fun c18 => ?_) (fun c18 => ?_)
        · refine z_const rfl ?_
          refine zsubL (L' := [zJk, zJk]) ⟨Or.inr rfl, Or.inr rfl, trivial⟩ ?_
          exact zcast (by first | rfl | (simp only [if_neg c18] <;> rfl)) (by first | rfl | (simp only [if_neg c18] <;> rfl)) hJ19
        · refine z_aload rfl rfl rfl ?_
          refine z_geti rfl rfl rfl rfl ?_
          refine z_goto rfl ?_
          refine zsubL (L' := [zJk, zJk]) ⟨Or.inr rfl, Or.inr rfl, trivial⟩ ?_
          exact zcast (by first | rfl | (simp only [if_pos c18] <;> rfl)) (by first | rfl | (simp only [if_pos c18] <;> rfl)) hJ19
      · rw [if_neg c17] at hF
        refine z_aload rfl rfl rfl ?_
        refine z_getr (r := 86) rfl rfl rfl rfl ?_
        refine z_iload rfl rfl ?_
        obtain ⟨g20, hF⟩ := zguard hF
        refine z_iald rfl rfl g20.1 g20.2 ?_
        refine z_goto rfl ?_
        obtain rfl := Option.some.inj hF
        exact z_iret rfl rfl K
    · rw [if_neg c10] at hF
      refine z_aload rfl rfl rfl ?_
      refine z_getr (r := 86) rfl rfl rfl rfl ?_
      refine z_const rfl ?_
      refine z_const rfl ?_
      refine z_iload rfl rfl ?_
      refine z_const rfl ?_
      refine z_isub rfl ?_
      refine z_imul rfl ?_
      refine z_iadd rfl ?_
      refine z_const rfl ?_
      refine z_iadd rfl ?_
      obtain ⟨g21, hF⟩ := zguard hF
      refine z_iald rfl rfl g21.1 g21.2 ?_
      obtain rfl := Option.some.inj hF
      exact z_iret rfl rfl K
  · rw [if_neg c5] at hF
    refine z_aload rfl rfl rfl ?_
    refine z_iload rfl rfl ?_
    refine z_const rfl ?_
    refine z_isub rfl ?_
    obtain ⟨r27, hc26, hF⟩ := zbind1 hF
    refine z_inv1 (d' := d - 1) (As := [.inl (w32 (x1 - 10))]) rfl rfl (zf_Mo_pitchOf (by omega) N _ hc26) rfl rfl rfl (by omega) rfl (fun r22 h23 hR24 hQ25 => ?_)
    obtain ⟨rfl, rfl⟩ := hQ25
    obtain rfl := Option.some.inj hF
    exact z_iret rfl rfl K
set_option maxRecDepth 100000 in
theorem zf_Mo_about {l : Launch} {E : zE} {d : Nat} (hd : 2 ≤ d) (N : Nat) (x1 : Int) {h : zHp} {r0 : Int} (hF : sh_Mo_about N x1 h = some r0) : zC l E d zm_Mo_about [.inr (.inr 85), .inl x1] h (fun r1 h1 => r0 = r1 ∧ h = h1) :=
  zC_of zk_Mo_about (by decide) rfl rfl (Nat.le_of_ble_eq_true rfl) (zw_Mo_about hd N _ hF ⟨rfl, rfl⟩)
