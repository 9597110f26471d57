/-! by program (wip/whole/emit.py) out of the claim's listing -/
def sh_Mo_isFarm (x1 : Int) (h : zHp) : Int := sh_Mo_isIn x1 0 (w32 ((h 86 0) - 1))
set_option maxRecDepth 100000 in
set_option maxHeartbeats 4000000 in
theorem zw_Mo_isFarm {l : Launch} {E : zE} {d : Nat} (hd : 2 ≤ d) (x1 : Int) {h : zHp} {Q : Int → zHp → Prop} {r0 : Int} (hF : sh_Mo_isFarm x1 h = r0) (K : Q r0 h) : zW l E d zm_Mo_isFarm 0 [.inr (.inr 85), .inl x1] [] h Q := by
  rw [sh_Mo_isFarm] at hF
  refine z_iload rfl rfl ?_
  refine z_const rfl ?_
  refine z_aload rfl rfl rfl ?_
  refine z_getr (r := 86) rfl rfl rfl rfl ?_
  refine z_const rfl ?_
  refine z_ialdc 0 rfl rfl rfl (by decide) ?_
  refine z_const rfl ?_
  refine z_isub rfl ?_
  refine z_ivs1 (d' := d - 1) (As := [.inl x1, .inl 0, .inl (w32 ((h 86 0) - 1))]) rfl rfl (zf_Mo_isIn (by omega) _ _ _) rfl (by omega) rfl (fun r1 h2 hR3 hQ4 => ?_)
  obtain ⟨rfl, rfl⟩ := hQ4
  subst hF
  exact z_zret rfl rfl (zRr_z rfl hR3) K
set_option maxRecDepth 100000 in
theorem zf_Mo_isFarm {l : Launch} {E : zE} {d : Nat} (hd : 2 ≤ d) (x1 : Int) {h : zHp} : zC l E d zm_Mo_isFarm [.inr (.inr 85), .inl x1] h (fun r1 h1 => sh_Mo_isFarm x1 h = r1 ∧ h = h1) :=
  zC_of zk_Mo_isFarm (by decide) rfl rfl (Nat.le_of_ble_eq_true rfl) (zw_Mo_isFarm hd _ rfl ⟨rfl, rfl⟩)
theorem zb_Mo_isFarm (x1 : Int) (h : zHp) : sh_Mo_isFarm x1 h = 0 ∨ sh_Mo_isFarm x1 h = 1 := by
  unfold sh_Mo_isFarm
  exact zb_Mo_isIn _ _ _
def sh_Mo_make (N : Nat) (x1 x2 x3 : Int) (h : zHp) : Option zHp := if 0 ≤ w32 ((w32 (41 + (w32 (8 * x1)))) + x2) ∧ w32 ((w32 (41 + (w32 (8 * x1)))) + x2) < 1061 then some (zst h 86 (w32 ((w32 (41 + (w32 (8 * x1)))) + x2)).toNat x3) else none
set_option maxRecDepth 100000 in
set_option maxHeartbeats 4000000 in
theorem zw_Mo_make {l : Launch} {E : zE} {d : Nat} (hd : 1 ≤ d) (N : Nat) (x1 x2 x3 : Int) {h : zHp} {Q : Int → zHp → Prop} {h0 : zHp} (hF : sh_Mo_make N x1 x2 x3 h = some h0) (K : Q 0 h0) : zW l E d zm_Mo_make 0 [.inr (.inr 85), .inl x1, .inl x2, .inl x3] [] h Q := by
  rw [sh_Mo_make] at hF
  refine z_aload rfl rfl rfl ?_
  refine z_getr (r := 86) rfl rfl rfl rfl ?_
  refine z_const rfl ?_
  refine z_const rfl ?_
  refine z_iload rfl rfl ?_
  refine z_imul rfl ?_
  refine z_iadd rfl ?_
  refine z_iload rfl rfl ?_
  refine z_iadd rfl ?_
  refine z_iload rfl rfl ?_
  obtain ⟨g1, hF⟩ := zguard hF
  refine z_iast rfl rfl g1.1 g1.2 ?_
  obtain rfl := Option.some.inj hF
  exact z_ret rfl rfl rfl K
set_option maxRecDepth 100000 in
theorem zf_Mo_make {l : Launch} {E : zE} {d : Nat} (hd : 1 ≤ d) (N : Nat) (x1 x2 x3 : Int) {h : zHp} {h0 : zHp} (hF : sh_Mo_make N x1 x2 x3 h = some h0) : zC l E d zm_Mo_make [.inr (.inr 85), .inl x1, .inl x2, .inl x3] h (fun r1 h1 => 0 = r1 ∧ h0 = h1) :=
  zC_of zk_Mo_make (by decide) rfl rfl (Nat.le_of_ble_eq_true rfl) (zw_Mo_make hd N _ _ _ hF ⟨rfl, rfl⟩)
def sh_Mo_ox (N : Nat) (x1 x2 x3 x4 : Int) (h : zHp) : Option (Int × zHp) := (if sh_Mo_isFarm x1 h = 0 then some ((-1), h) else (if x2 = (-1) then (if sh_Mo_isIn x3 1 9 = 0 then some ((-1), h) else (if sh_Mo_isIn x4 0 9 = 0 then some ((-1), h) else (if h 86 2 = 8 then some ((-1), h) else zb1 (sh_Mo_make N (h 86 2) 0 x1 h) fun h23 => zb1 (sh_Mo_make N (h 86 2) 1 x2 h23) fun h29 => zb1 (sh_Mo_make N (h 86 2) 2 x3 h29) fun h35 => zb1 (sh_Mo_make N (h 86 2) 3 x4 h35) fun h41 => zb1 (sh_Mo_make N (h 86 2) 4 x1 h41) fun h47 => zb1 (sh_Mo_make N (h 86 2) 5 0 h47) fun h53 => zb1 (sh_Mo_make N (h 86 2) 6 x1 h53) fun h59 => zb1 (sh_Mo_make N (h 86 2) 7 (-1) h59) fun h65 => some (h 86 2, zst h65 86 2 (w32 ((h65 86 2) + 1)))))) else (if sh_Mo_isFarm x2 h = 0 then some ((-1), h) else (if sh_Mo_isIn x3 1 9 = 0 then some ((-1), h) else (if sh_Mo_isIn x4 0 9 = 0 then some ((-1), h) else (if h 86 2 = 8 then some ((-1), h) else zb1 (sh_Mo_make N (h 86 2) 0 x1 h) fun h87 => zb1 (sh_Mo_make N (h 86 2) 1 x2 h87) fun h93 => zb1 (sh_Mo_make N (h 86 2) 2 x3 h93) fun h99 => zb1 (sh_Mo_make N (h 86 2) 3 x4 h99) fun h105 => zb1 (sh_Mo_make N (h 86 2) 4 x1 h105) fun h111 => zb1 (sh_Mo_make N (h 86 2) 5 0 h111) fun h117 => zb1 (sh_Mo_make N (h 86 2) 6 x1 h117) fun h123 => zb1 (sh_Mo_make N (h 86 2) 7 (-1) h123) fun h129 => some (h 86 2, zst h129 86 2 (w32 ((h129 86 2) + 1)))))))))
set_option maxRecDepth 100000 in
set_option maxHeartbeats 4000000 in
theorem zw_Mo_ox {l : Launch} {E : zE} {d : Nat} (hd : 3 ≤ d) (N : Nat) (x1 x2 x3 x4 : Int) {h : zHp} {Q : Int → zHp → Prop} {r0 : Int} {h0 : zHp} (hF : sh_Mo_ox N x1 x2 x3 x4 h = some (r0, h0)) (K : Q r0 h0) : zW l E d zm_Mo_ox 0 [.inr (.inr 85), .inl x1, .inl x2, .inl x3, .inl x4, zJk] [] h Q := by
  rw [sh_Mo_ox] at hF
  refine z_aload rfl rfl rfl ?_
  refine z_iload rfl rfl ?_
  refine z_inv1 (d' := d - 1) (As := [.inl x1]) rfl rfl (zf_Mo_isFarm (by omega) _) rfl rfl rfl (by omega) rfl (fun r1 h2 hR3 hQ4 => ?_)
  obtain ⟨rfl, rfl⟩ := hQ4
  refine z_zeq rfl (fun c5 => ?_) (fun c5 => ?_)
  · rw [if_pos c5] at hF
    refine z_const rfl ?_
    obtain ⟨rfl, rfl⟩ := zinj2 hF
    exact z_iret rfl rfl K
  · rw [if_neg c5] at hF
    refine z_iload rfl rfl ?_
    refine z_const rfl ?_
    refine z_ceq rfl (fun c6 => ?_) (fun c6 => ?_)
    · rw [if_pos c6] at hF
      refine z_iload rfl rfl ?_
      refine z_const rfl ?_
      refine z_const rfl ?_
      refine z_ivs1 (d' := d - 1) (As := [.inl x3, .inl 1, .inl 9]) rfl rfl (zf_Mo_isIn (by omega) _ _ _) rfl (by omega) rfl (fun r7 h8 hR9 hQ10 => ?_)
      obtain ⟨rfl, rfl⟩ := hQ10
      refine z_zeq rfl (fun c11 => ?_) (fun c11 => ?_)
      · rw [if_pos c11] at hF
        refine z_const rfl ?_
        obtain ⟨rfl, rfl⟩ := zinj2 hF
        exact z_iret rfl rfl K
      · rw [if_neg c11] at hF
        refine z_iload rfl rfl ?_
        refine z_const rfl ?_
        refine z_const rfl ?_
        refine z_ivs1 (d' := d - 1) (As := [.inl x4, .inl 0, .inl 9]) rfl rfl (zf_Mo_isIn (by omega) _ _ _) rfl (by omega) rfl (fun r12 h13 hR14 hQ15 => ?_)
        obtain ⟨rfl, rfl⟩ := hQ15
        refine z_zeq rfl (fun c16 => ?_) (fun c16 => ?_)
        · rw [if_pos c16] at hF
          refine z_const rfl ?_
          obtain ⟨rfl, rfl⟩ := zinj2 hF
          exact z_iret rfl rfl K
        · rw [if_neg c16] at hF
          refine z_aload rfl rfl rfl ?_
          refine z_getr (r := 86) rfl rfl rfl rfl ?_
          refine z_const rfl ?_
          refine z_ialdc 2 rfl rfl rfl (by decide) ?_
          refine z_const rfl ?_
          refine z_cne rfl (fun c17 => ?_) (fun c17 => ?_)
          · rw [if_neg c17] at hF
            refine z_aload rfl rfl rfl ?_
            refine z_getr (r := 86) rfl rfl rfl rfl ?_
            refine z_const rfl ?_
            refine z_ialdc 2 rfl rfl rfl (by decide) ?_
            refine z_istore rfl rfl rfl ?_
            refine z_aload rfl rfl rfl ?_
            refine z_iload rfl rfl ?_
            refine z_const rfl ?_
            refine z_iload rfl rfl ?_
            obtain ⟨h23, hc22, hF⟩ := zbind1 hF
            refine z_inv0 (d' := d - 1) (As := [.inl (h 86 2), .inl 0, .inl x1]) rfl rfl (zf_Mo_make (by omega) N _ _ _ hc22) rfl rfl rfl (by omega) rfl (fun r18 h19 hR20 hQ21 => ?_)
            obtain ⟨rfl, rfl⟩ := hQ21
            refine z_aload rfl rfl rfl ?_
            refine z_iload rfl rfl ?_
            refine z_const rfl ?_
            refine z_iload rfl rfl ?_
            obtain ⟨h29, hc28, hF⟩ := zbind1 hF
            refine z_inv0 (d' := d - 1) (As := [.inl (h 86 2), .inl 1, .inl x2]) rfl rfl (zf_Mo_make (by omega) N _ _ _ hc28) rfl rfl rfl (by omega) rfl (fun r24 h25 hR26 hQ27 => ?_)
            obtain ⟨rfl, rfl⟩ := hQ27
            refine z_aload rfl rfl rfl ?_
            refine z_iload rfl rfl ?_
            refine z_const rfl ?_
            refine z_iload rfl rfl ?_
            obtain ⟨h35, hc34, hF⟩ := zbind1 hF
            refine z_inv0 (d' := d - 1) (As := [.inl (h 86 2), .inl 2, .inl x3]) rfl rfl (zf_Mo_make (by omega) N _ _ _ hc34) rfl rfl rfl (by omega) rfl (fun r30 h31 hR32 hQ33 => ?_)
            obtain ⟨rfl, rfl⟩ := hQ33
            refine z_aload rfl rfl rfl ?_
            refine z_iload rfl rfl ?_
            refine z_const rfl ?_
            refine z_iload rfl rfl ?_
            obtain ⟨h41, hc40, hF⟩ := zbind1 hF
            refine z_inv0 (d' := d - 1) (As := [.inl (h 86 2), .inl 3, .inl x4]) rfl rfl (zf_Mo_make (by omega) N _ _ _ hc40) rfl rfl rfl (by omega) rfl (fun r36 h37 hR38 hQ39 => ?_)
            obtain ⟨rfl, rfl⟩ := hQ39
            refine z_aload rfl rfl rfl ?_
            refine z_iload rfl rfl ?_
            refine z_const rfl ?_
            refine z_iload rfl rfl ?_
            obtain ⟨h47, hc46, hF⟩ := zbind1 hF
            refine z_inv0 (d' := d - 1) (As := [.inl (h 86 2), .inl 4, .inl x1]) rfl rfl (zf_Mo_make (by omega) N _ _ _ hc46) rfl rfl rfl (by omega) rfl (fun r42 h43 hR44 hQ45 => ?_)
            obtain ⟨rfl, rfl⟩ := hQ45
            refine z_aload rfl rfl rfl ?_
            refine z_iload rfl rfl ?_
            refine z_const rfl ?_
            refine z_const rfl ?_
            obtain ⟨h53, hc52, hF⟩ := zbind1 hF
            refine z_inv0 (d' := d - 1) (As := [.inl (h 86 2), .inl 5, .inl 0]) rfl rfl (zf_Mo_make (by omega) N _ _ _ hc52) rfl rfl rfl (by omega) rfl (fun r48 h49 hR50 hQ51 => ?_)
            obtain ⟨rfl, rfl⟩ := hQ51
            refine z_aload rfl rfl rfl ?_
            refine z_iload rfl rfl ?_
            refine z_const rfl ?_
            refine z_iload rfl rfl ?_
            obtain ⟨h59, hc58, hF⟩ := zbind1 hF
            refine z_inv0 (d' := d - 1) (As := [.inl (h 86 2), .inl 6, .inl x1]) rfl rfl (zf_Mo_make (by omega) N _ _ _ hc58) rfl rfl rfl (by omega) rfl (fun r54 h55 hR56 hQ57 => ?_)
            obtain ⟨rfl, rfl⟩ := hQ57
            refine z_aload rfl rfl rfl ?_
            refine z_iload rfl rfl ?_
            refine z_const rfl ?_
            refine z_const rfl ?_
            obtain ⟨h65, hc64, hF⟩ := zbind1 hF
            refine z_inv0 (d' := d - 1) (As := [.inl (h 86 2), .inl 7, .inl (-1)]) rfl rfl (zf_Mo_make (by omega) N _ _ _ hc64) rfl rfl rfl (by omega) rfl (fun r60 h61 hR62 hQ63 => ?_)
            obtain ⟨rfl, rfl⟩ := hQ63
            refine z_aload rfl rfl rfl ?_
            refine z_getr (r := 86) rfl rfl rfl rfl ?_
            refine z_const rfl ?_
            refine z_dup2 rfl rfl rfl ?_
            refine z_ialdc 2 rfl rfl rfl (by decide) ?_
            refine z_const rfl ?_
            refine z_iadd rfl ?_
            refine z_iastc 2 rfl rfl rfl (by decide) ?_
            refine z_iload rfl rfl ?_
            obtain ⟨rfl, rfl⟩ := zinj2 hF
            exact z_iret rfl rfl K
          · rw [if_pos c17] at hF
            refine z_const rfl ?_
            obtain ⟨rfl, rfl⟩ := zinj2 hF
            exact z_iret rfl rfl K
    · rw [if_neg c6] at hF
      refine z_aload rfl rfl rfl ?_
      refine z_iload rfl rfl ?_
      refine z_inv1 (d' := d - 1) (As := [.inl x2]) rfl rfl (zf_Mo_isFarm (by omega) _) rfl rfl rfl (by omega) rfl (fun r66 h67 hR68 hQ69 => ?_)
      obtain ⟨rfl, rfl⟩ := hQ69
      refine z_zeq rfl (fun c70 => ?_) (fun c70 => ?_)
      · rw [if_pos c70] at hF
        refine z_const rfl ?_
        obtain ⟨rfl, rfl⟩ := zinj2 hF
        exact z_iret rfl rfl K
      · rw [if_neg c70] at hF
        refine z_iload rfl rfl ?_
        refine z_const rfl ?_
        refine z_const rfl ?_
        refine z_ivs1 (d' := d - 1) (As := [.inl x3, .inl 1, .inl 9]) rfl rfl (zf_Mo_isIn (by omega) _ _ _) rfl (by omega) rfl (fun r71 h72 hR73 hQ74 => ?_)
        obtain ⟨rfl, rfl⟩ := hQ74
        refine z_zeq rfl (fun c75 => ?_) (fun c75 => ?_)
        · rw [if_pos c75] at hF
          refine z_const rfl ?_
          obtain ⟨rfl, rfl⟩ := zinj2 hF
          exact z_iret rfl rfl K
        · rw [if_neg c75] at hF
          refine z_iload rfl rfl ?_
          refine z_const rfl ?_
          refine z_const rfl ?_
          refine z_ivs1 (d' := d - 1) (As := [.inl x4, .inl 0, .inl 9]) rfl rfl (zf_Mo_isIn (by omega) _ _ _) rfl (by omega) rfl (fun r76 h77 hR78 hQ79 => ?_)
          obtain ⟨rfl, rfl⟩ := hQ79
          refine z_zeq rfl (fun c80 => ?_) (fun c80 => ?_)
          · rw [if_pos c80] at hF
            refine z_const rfl ?_
            obtain ⟨rfl, rfl⟩ := zinj2 hF
            exact z_iret rfl rfl K
          · rw [if_neg c80] at hF
            refine z_aload rfl rfl rfl ?_
            refine z_getr (r := 86) rfl rfl rfl rfl ?_
            refine z_const rfl ?_
            refine z_ialdc 2 rfl rfl rfl (by decide) ?_
            refine z_const rfl ?_
            refine z_cne rfl (fun c81 => ?_) (fun c81 => ?_)
            · rw [if_neg c81] at hF
              refine z_aload rfl rfl rfl ?_
              refine z_getr (r := 86) rfl rfl rfl rfl ?_
              refine z_const rfl ?_
              refine z_ialdc 2 rfl rfl rfl (by decide) ?_
              refine z_istore rfl rfl rfl ?_
              refine z_aload rfl rfl rfl ?_
              refine z_iload rfl rfl ?_
              refine z_const rfl ?_
              refine z_iload rfl rfl ?_
              obtain ⟨h87, hc86, hF⟩ := zbind1 hF
              refine z_inv0 (d' := d - 1) (As := [.inl (h 86 2), .inl 0, .inl x1]) rfl rfl (zf_Mo_make (by omega) N _ _ _ hc86) rfl rfl rfl (by omega) rfl (fun r82 h83 hR84 hQ85 => ?_)
              obtain ⟨rfl, rfl⟩ := hQ85
              refine z_aload rfl rfl rfl ?_
              refine z_iload rfl rfl ?_
              refine z_const rfl ?_
              refine z_iload rfl rfl ?_
              obtain ⟨h93, hc92, hF⟩ := zbind1 hF
              refine z_inv0 (d' := d - 1) (As := [.inl (h 86 2), .inl 1, .inl x2]) rfl rfl (zf_Mo_make (by omega) N _ _ _ hc92) rfl rfl rfl (by omega) rfl (fun r88 h89 hR90 hQ91 => ?_)
              obtain ⟨rfl, rfl⟩ := hQ91
              refine z_aload rfl rfl rfl ?_
              refine z_iload rfl rfl ?_
              refine z_const rfl ?_
              refine z_iload rfl rfl ?_
              obtain ⟨h99, hc98, hF⟩ := zbind1 hF
              refine z_inv0 (d' := d - 1) (As := [.inl (h 86 2), .inl 2, .inl x3]) rfl rfl (zf_Mo_make (by omega) N _ _ _ hc98) rfl rfl rfl (by omega) rfl (fun r94 h95 hR96 hQ97 => ?_)
              obtain ⟨rfl, rfl⟩ := hQ97
              refine z_aload rfl rfl rfl ?_
              refine z_iload rfl rfl ?_
              refine z_const rfl ?_
              refine z_iload rfl rfl ?_
              obtain ⟨h105, hc104, hF⟩ := zbind1 hF
              refine z_inv0 (d' := d - 1) (As := [.inl (h 86 2), .inl 3, .inl x4]) rfl rfl (zf_Mo_make (by omega) N _ _ _ hc104) rfl rfl rfl (by omega) rfl (fun r100 h101 hR102 hQ103 => ?_)
              obtain ⟨rfl, rfl⟩ := hQ103
              refine z_aload rfl rfl rfl ?_
              refine z_iload rfl rfl ?_
              refine z_const rfl ?_
              refine z_iload rfl rfl ?_
              obtain ⟨h111, hc110, hF⟩ := zbind1 hF
              refine z_inv0 (d' := d - 1) (As := [.inl (h 86 2), .inl 4, .inl x1]) rfl rfl (zf_Mo_make (by omega) N _ _ _ hc110) rfl rfl rfl (by omega) rfl (fun r106 h107 hR108 hQ109 => ?_)
              obtain ⟨rfl, rfl⟩ := hQ109
              refine z_aload rfl rfl rfl ?_
              refine z_iload rfl rfl ?_
              refine z_const rfl ?_
              refine z_const rfl ?_
              obtain ⟨h117, hc116, hF⟩ := zbind1 hF
              refine z_inv0 (d' := d - 1) (As := [.inl (h 86 2), .inl 5, .inl 0]) rfl rfl (zf_Mo_make (by omega) N _ _ _ hc116) rfl rfl rfl (by omega) rfl (fun r112 h113 hR114 hQ115 => ?_)
              obtain ⟨rfl, rfl⟩ := hQ115
              refine z_aload rfl rfl rfl ?_
              refine z_iload rfl rfl ?_
              refine z_const rfl ?_
              refine z_iload rfl rfl ?_
              obtain ⟨h123, hc122, hF⟩ := zbind1 hF
              refine z_inv0 (d' := d - 1) (As := [.inl (h 86 2), .inl 6, .inl x1]) rfl rfl (zf_Mo_make (by omega) N _ _ _ hc122) rfl rfl rfl (by omega) rfl (fun r118 h119 hR120 hQ121 => ?_)
              obtain ⟨rfl, rfl⟩ := hQ121
              refine z_aload rfl rfl rfl ?_
              refine z_iload rfl rfl ?_
              refine z_const rfl ?_
              refine z_const rfl ?_
              obtain ⟨h129, hc128, hF⟩ := zbind1 hF
              refine z_inv0 (d' := d - 1) (As := [.inl (h 86 2), .inl 7, .inl (-1)]) rfl rfl (zf_Mo_make (by omega) N _ _ _ hc128) rfl rfl rfl (by omega) rfl (fun r124 h125 hR126 hQ127 => ?_)
              obtain ⟨rfl, rfl⟩ := hQ127
              refine z_aload rfl rfl rfl ?_
              refine z_getr (r := 86) rfl rfl rfl rfl ?_
              refine z_const rfl ?_
              refine z_dup2 rfl rfl rfl ?_
              refine z_ialdc 2 rfl rfl rfl (by decide) ?_
              refine z_const rfl ?_
              refine z_iadd rfl ?_
              refine z_iastc 2 rfl rfl rfl (by decide) ?_
              refine z_iload rfl rfl ?_
              obtain ⟨rfl, rfl⟩ := zinj2 hF
              exact z_iret rfl rfl K
            · rw [if_pos c81] at hF
              refine z_const rfl ?_
              obtain ⟨rfl, rfl⟩ := zinj2 hF
              exact z_iret rfl rfl K
set_option maxRecDepth 100000 in
theorem zf_Mo_ox {l : Launch} {E : zE} {d : Nat} (hd : 3 ≤ d) (N : Nat) (x1 x2 x3 x4 : Int) {h : zHp} {r0 : Int} {h0 : zHp} (hF : sh_Mo_ox N x1 x2 x3 x4 h = some (r0, h0)) : zC l E d zm_Mo_ox [.inr (.inr 85), .inl x1, .inl x2, .inl x3, .inl x4] h (fun r1 h1 => r0 = r1 ∧ h0 = h1) :=
  zC_of zk_Mo_ox (by decide) rfl rfl (Nat.le_of_ble_eq_true rfl) (zw_Mo_ox hd N _ _ _ _ hF ⟨rfl, rfl⟩)
def sh_Ox_feedFour_L2 (N : Nat) : Nat → Int → Int → zHp → Option (zHp)
  | 0, _, _, _ => none
  | n + 1, x1, x2, h => (if x2 < 0 then some h else sh_Ox_feedFour_L2 N n x1 (w32 (x2 + (-8))) (zst (rput h 25 300 (h 0 1) (zand (zushr x1 x2) 255)) 0 1 (w32 ((rput h 25 300 (h 0 1) (zand (zushr x1 x2) 255) 0 1) + 1))))
def sh_Ox_feedFour (N : Nat) (x1 : Int) (h : zHp) : Option zHp := zb1 (sh_Ox_feedFour_L2 N N x1 24 h) fun h7 => some h7
set_option maxRecDepth 100000 in
set_option maxHeartbeats 4000000 in
theorem zl_Ox_feedFour_L2 {l : Launch} {E : zE} {d : Nat} (hd : 2 ≤ d) (N : Nat) {Q : Int → zHp → Prop} {oh : zHp} (K1 : zW l E d zm_Ox_feedFour 22 [zJk, zJk, zJk] [] oh Q) : ∀ (n : Nat) (x1 x2 : Int) (h : zHp), sh_Ox_feedFour_L2 N n x1 x2 h = some oh → zW l E d zm_Ox_feedFour 2 [.inr (.inr 0), .inl x1, .inl x2] [] h Q := by
  intro n
  induction n with
  | zero =>
    intro x1 x2 h hF
    cases (show (none : Option (zHp)) = some oh from hF)
  | succ n ih =>
    intro x1 x2 h hF
    rw [sh_Ox_feedFour_L2] at hF
    refine z_iload rfl rfl ?_
    refine z_zlt rfl (fun c1 => ?_) (fun c1 => ?_)
    · rw [if_pos c1] at hF
      refine zsubL (L' := [zJk, zJk, zJk]) ⟨Or.inr rfl, Or.inr rfl, Or.inr rfl, trivial⟩ ?_
      obtain rfl := Option.some.inj hF
      exact K1
    · rw [if_neg c1] at hF
      refine z_aload rfl rfl rfl ?_
      refine z_getr (r := 24) rfl rfl rfl rfl ?_
      refine z_aload rfl rfl rfl ?_
      refine z_geti rfl rfl rfl rfl ?_
      refine z_iload rfl rfl ?_
      refine z_iload rfl rfl ?_
      refine z_iushr rfl ?_
      refine z_const rfl ?_
      refine z_iand rfl ?_
      refine z_inv0 (d' := d - 1) (As := [.inl (h 0 1), .inl (zand (zushr x1 x2) 255)]) rfl rfl (zf_Row_put (r := 24) (a := 25) (n := 300) rfl rfl _ _) rfl rfl rfl (by omega) rfl (fun r2 h3 hR4 hQ5 => ?_)
      obtain ⟨rfl, rfl⟩ := hQ5
      refine z_aload rfl rfl rfl ?_
      refine z_dup rfl rfl ?_
      refine z_geti rfl rfl rfl rfl ?_
      refine z_const rfl ?_
      refine z_iadd rfl ?_
      refine z_puti rfl rfl rfl rfl ?_
      refine z_iinc rfl rfl rfl ?_
      refine z_goto rfl ?_
      exact ih _ _ _ hF
set_option maxRecDepth 100000 in
set_option maxHeartbeats 4000000 in
theorem zw_Ox_feedFour {l : Launch} {E : zE} {d : Nat} (hd : 2 ≤ d) (N : Nat) (x1 : Int) {h : zHp} {Q : Int → zHp → Prop} {h0 : zHp} (hF : sh_Ox_feedFour N x1 h = some h0) (K : Q 0 h0) : zW l E d zm_Ox_feedFour 0 [.inr (.inr 0), .inl x1, zJk] [] h Q := by
  rw [sh_Ox_feedFour] at hF
  refine z_const rfl ?_
  refine z_istore rfl rfl rfl ?_
  obtain ⟨h7, hL6, hF⟩ := zbind1 hF
  refine zl_Ox_feedFour_L2 (by omega) N ?_ N _ _ _ hL6
  obtain rfl := Option.some.inj hF
  exact z_ret rfl rfl rfl K
set_option maxRecDepth 100000 in
theorem zf_Ox_feedFour {l : Launch} {E : zE} {d : Nat} (hd : 2 ≤ d) (N : Nat) (x1 : Int) {h : zHp} {h0 : zHp} (hF : sh_Ox_feedFour N x1 h = some h0) : zC l E d zm_Ox_feedFour [.inr (.inr 0), .inl x1] h (fun r1 h1 => 0 = r1 ∧ h0 = h1) :=
  zC_of zk_Ox_feedFour (by decide) rfl rfl (Nat.le_of_ble_eq_true rfl) (zw_Ox_feedFour hd N _ hF ⟨rfl, rfl⟩)
def sh_Ox_feed (N : Nat) (x1 x2 x3 x4 x5 : Int) (h : zHp) : Option (Int × zHp) := (if h 0 1 ≤ 280 then zb1 (sh_Ox_feedFour N x1 h) fun h7 => zb1 (sh_Ox_feedFour N x2 h7) fun h13 => zb1 (sh_Ox_feedFour N x3 h13) fun h19 => zb1 (sh_Ox_feedFour N x4 h19) fun h25 => zb1 (sh_Ox_feedFour N x5 h25) fun h31 => some (h31 0 1, h31) else some ((-1), h))
set_option maxRecDepth 100000 in
set_option maxHeartbeats 4000000 in
theorem zw_Ox_feed {l : Launch} {E : zE} {d : Nat} (hd : 3 ≤ d) (N : Nat) (x1 x2 x3 x4 x5 : Int) {h : zHp} {Q : Int → zHp → Prop} {r0 : Int} {h0 : zHp} (hF : sh_Ox_feed N x1 x2 x3 x4 x5 h = some (r0, h0)) (K : Q r0 h0) : zW l E d zm_Ox_feed 0 [.inr (.inr 0), .inl x1, .inl x2, .inl x3, .inl x4, .inl x5] [] h Q := by
  rw [sh_Ox_feed] at hF
  refine z_aload rfl rfl rfl ?_
  refine z_geti rfl rfl rfl rfl ?_
  refine z_const rfl ?_
  refine z_cle rfl (fun c1 => ?_) (fun c1 => ?_)
  · rw [if_pos c1] at hF
    refine z_aload rfl rfl rfl ?_
    refine z_iload rfl rfl ?_
    obtain ⟨h7, hc6, hF⟩ := zbind1 hF
    refine z_inv0 (d' := d - 1) (As := [.inl x1]) rfl rfl (zf_Ox_feedFour (by omega) N _ hc6) rfl rfl rfl (by omega) rfl (fun r2 h3 hR4 hQ5 => ?_)
    obtain ⟨rfl, rfl⟩ := hQ5
    refine z_aload rfl rfl rfl ?_
    refine z_iload rfl rfl ?_
    obtain ⟨h13, hc12, hF⟩ := zbind1 hF
    refine z_inv0 (d' := d - 1) (As := [.inl x2]) rfl rfl (zf_Ox_feedFour (by omega) N _ hc12) rfl rfl rfl (by omega) rfl (fun r8 h9 hR10 hQ11 => ?_)
    obtain ⟨rfl, rfl⟩ := hQ11
    refine z_aload rfl rfl rfl ?_
    refine z_iload rfl rfl ?_
    obtain ⟨h19, hc18, hF⟩ := zbind1 hF
    refine z_inv0 (d' := d - 1) (As := [.inl x3]) rfl rfl (zf_Ox_feedFour (by omega) N _ hc18) rfl rfl rfl (by omega) rfl (fun r14 h15 hR16 hQ17 => ?_)
    obtain ⟨rfl, rfl⟩ := hQ17
    refine z_aload rfl rfl rfl ?_
    refine z_iload rfl rfl ?_
    obtain ⟨h25, hc24, hF⟩ := zbind1 hF
    refine z_inv0 (d' := d - 1) (As := [.inl x4]) rfl rfl (zf_Ox_feedFour (by omega) N _ hc24) rfl rfl rfl (by omega) rfl (fun r20 h21 hR22 hQ23 => ?_)
    obtain ⟨rfl, rfl⟩ := hQ23
    refine z_aload rfl rfl rfl ?_
    refine z_iload rfl rfl ?_
    obtain ⟨h31, hc30, hF⟩ := zbind1 hF
    refine z_inv0 (d' := d - 1) (As := [.inl x5]) rfl rfl (zf_Ox_feedFour (by omega) N _ hc30) rfl rfl rfl (by omega) rfl (fun r26 h27 hR28 hQ29 => ?_)
    obtain ⟨rfl, rfl⟩ := hQ29
    refine z_aload rfl rfl rfl ?_
    refine z_geti rfl rfl rfl rfl ?_
    obtain ⟨rfl, rfl⟩ := zinj2 hF
    exact z_iret rfl rfl K
  · rw [if_neg c1] at hF
    refine z_const rfl ?_
    obtain ⟨rfl, rfl⟩ := zinj2 hF
    exact z_iret rfl rfl K
set_option maxRecDepth 100000 in
theorem zf_Ox_feed {l : Launch} {E : zE} {d : Nat} (hd : 3 ≤ d) (N : Nat) (x1 x2 x3 x4 x5 : Int) {h : zHp} {r0 : Int} {h0 : zHp} (hF : sh_Ox_feed N x1 x2 x3 x4 x5 h = some (r0, h0)) : zC l E d zm_Ox_feed [.inr (.inr 0), .inl x1, .inl x2, .inl x3, .inl x4, .inl x5] h (fun r1 h1 => r0 = r1 ∧ h0 = h1) :=
  zC_of zk_Ox_feed (by decide) rfl rfl (Nat.le_of_ble_eq_true rfl) (zw_Ox_feed hd N _ _ _ _ _ hF ⟨rfl, rfl⟩)
def sh_Mo_four_L2 (N : Nat) : Nat → Int → Int → zHp → Option (zHp)
  | 0, _, _, _ => none
  | n + 1, x1, x2, h => (if x2 < 0 then some h else if 0 ≤ h 85 4 ∧ h 85 4 < 300 then sh_Mo_four_L2 N n x1 (w32 (x2 + (-8))) (zst (zst h 89 (h 85 4).toNat (zand (zshr x1 x2) 255)) 85 4 (w32 ((zst h 89 (h 85 4).toNat (zand (zshr x1 x2) 255) 85 4) + 1))) else none)
def sh_Mo_four (N : Nat) (x1 : Int) (h : zHp) : Option zHp := zb1 (sh_Mo_four_L2 N N x1 24 h) fun h4 => some h4
set_option maxRecDepth 100000 in
set_option maxHeartbeats 4000000 in
theorem zl_Mo_four_L2 {l : Launch} {E : zE} {d : Nat} (hd : 1 ≤ d) (N : Nat) {Q : Int → zHp → Prop} {oh : zHp} (K1 : zW l E d zm_Mo_four 22 [zJk, zJk, zJk] [] oh Q) : ∀ (n : Nat) (x1 x2 : Int) (h : zHp), sh_Mo_four_L2 N n x1 x2 h = some oh → zW l E d zm_Mo_four 2 [.inr (.inr 85), .inl x1, .inl x2] [] h Q := by
  intro n
  induction n with
  | zero =>
    intro x1 x2 h hF
    cases (show (none : Option (zHp)) = some oh from hF)
  | succ n ih =>
    intro x1 x2 h hF
    rw [sh_Mo_four_L2] at hF
    refine z_iload rfl rfl ?_
    refine z_zlt rfl (fun c1 => ?_) (fun c1 => ?_)
    · rw [if_pos c1] at hF
      refine zsubL (L' := [zJk, zJk, zJk]) ⟨Or.inr rfl, Or.inr rfl, Or.inr rfl, trivial⟩ ?_
      obtain rfl := Option.some.inj hF
      exact K1
    · rw [if_neg c1] at hF
      refine z_aload rfl rfl rfl ?_
      refine z_getr (r := 89) rfl rfl rfl rfl ?_
      refine z_aload rfl rfl rfl ?_
      refine z_geti rfl rfl rfl rfl ?_
      refine z_iload rfl rfl ?_
      refine z_iload rfl rfl ?_
      refine z_ishr rfl ?_
      refine z_const rfl ?_
      refine z_iand rfl ?_
      obtain ⟨g2, hF⟩ := zguard hF
      refine z_iast rfl rfl g2.1 g2.2 ?_
      refine z_aload rfl rfl rfl ?_
      refine z_dup rfl rfl ?_
      refine z_geti rfl rfl rfl rfl ?_
      refine z_const rfl ?_
      refine z_iadd rfl ?_
      refine z_puti rfl rfl rfl rfl ?_
      refine z_iinc rfl rfl rfl ?_
      refine z_goto rfl ?_
      exact ih _ _ _ hF
set_option maxRecDepth 100000 in
set_option maxHeartbeats 4000000 in
theorem zw_Mo_four {l : Launch} {E : zE} {d : Nat} (hd : 1 ≤ d) (N : Nat) (x1 : Int) {h : zHp} {Q : Int → zHp → Prop} {h0 : zHp} (hF : sh_Mo_four N x1 h = some h0) (K : Q 0 h0) : zW l E d zm_Mo_four 0 [.inr (.inr 85), .inl x1, zJk] [] h Q := by
  rw [sh_Mo_four] at hF
  refine z_const rfl ?_
  refine z_istore rfl rfl rfl ?_
  obtain ⟨h4, hL3, hF⟩ := zbind1 hF
  refine zl_Mo_four_L2 (by omega) N ?_ N _ _ _ hL3
  obtain rfl := Option.some.inj hF
  exact z_ret rfl rfl rfl K
set_option maxRecDepth 100000 in
theorem zf_Mo_four {l : Launch} {E : zE} {d : Nat} (hd : 1 ≤ d) (N : Nat) (x1 : Int) {h : zHp} {h0 : zHp} (hF : sh_Mo_four N x1 h = some h0) : zC l E d zm_Mo_four [.inr (.inr 85), .inl x1] h (fun r1 h1 => 0 = r1 ∧ h0 = h1) :=
  zC_of zk_Mo_four (by decide) rfl rfl (Nat.le_of_ble_eq_true rfl) (zw_Mo_four hd N _ hF ⟨rfl, rfl⟩)
def sh_Mo_feed (N : Nat) (x1 x2 x3 x4 x5 : Int) (h : zHp) : Option (Int × zHp) := (if w32 ((h 85 4) + 20) ≤ 300 then zb1 (sh_Mo_four N x1 h) fun h7 => zb1 (sh_Mo_four N x2 h7) fun h13 => zb1 (sh_Mo_four N x3 h13) fun h19 => zb1 (sh_Mo_four N x4 h19) fun h25 => zb1 (sh_Mo_four N x5 h25) fun h31 => some (h31 85 4, h31) else some ((-1), h))
set_option maxRecDepth 100000 in
set_option maxHeartbeats 4000000 in
theorem zw_Mo_feed {l : Launch} {E : zE} {d : Nat} (hd : 2 ≤ d) (N : Nat) (x1 x2 x3 x4 x5 : Int) {h : zHp} {Q : Int → zHp → Prop} {r0 : Int} {h0 : zHp} (hF : sh_Mo_feed N x1 x2 x3 x4 x5 h = some (r0, h0)) (K : Q r0 h0) : zW l E d zm_Mo_feed 0 [.inr (.inr 85), .inl x1, .inl x2, .inl x3, .inl x4, .inl x5] [] h Q := by
  rw [sh_Mo_feed] at hF
  refine z_aload rfl rfl rfl ?_
  refine z_geti rfl rfl rfl rfl ?_
  refine z_const rfl ?_
  refine z_iadd rfl ?_
  refine z_const rfl ?_
  refine z_cle rfl (fun c1 => ?_) (fun c1 => ?_)
  · rw [if_pos c1] at hF
    refine z_aload rfl rfl rfl ?_
    refine z_iload rfl rfl ?_
    obtain ⟨h7, hc6, hF⟩ := zbind1 hF
    refine z_inv0 (d' := d - 1) (As := [.inl x1]) rfl rfl (zf_Mo_four (by omega) N _ hc6) rfl rfl rfl (by omega) rfl (fun r2 h3 hR4 hQ5 => ?_)
    obtain ⟨rfl, rfl⟩ := hQ5
    refine z_aload rfl rfl rfl ?_
    refine z_iload rfl rfl ?_
    obtain ⟨h13, hc12, hF⟩ := zbind1 hF
    refine z_inv0 (d' := d - 1) (As := [.inl x2]) rfl rfl (zf_Mo_four (by omega) N _ hc12) rfl rfl rfl (by omega) rfl (fun r8 h9 hR10 hQ11 => ?_)
    obtain ⟨rfl, rfl⟩ := hQ11
    refine z_aload rfl rfl rfl ?_
    refine z_iload rfl rfl ?_
    obtain ⟨h19, hc18, hF⟩ := zbind1 hF
    refine z_inv0 (d' := d - 1) (As := [.inl x3]) rfl rfl (zf_Mo_four (by omega) N _ hc18) rfl rfl rfl (by omega) rfl (fun r14 h15 hR16 hQ17 => ?_)
    obtain ⟨rfl, rfl⟩ := hQ17
    refine z_aload rfl rfl rfl ?_
    refine z_iload rfl rfl ?_
    obtain ⟨h25, hc24, hF⟩ := zbind1 hF
    refine z_inv0 (d' := d - 1) (As := [.inl x4]) rfl rfl (zf_Mo_four (by omega) N _ hc24) rfl rfl rfl (by omega) rfl (fun r20 h21 hR22 hQ23 => ?_)
    obtain ⟨rfl, rfl⟩ := hQ23
    refine z_aload rfl rfl rfl ?_
    refine z_iload rfl rfl ?_
    obtain ⟨h31, hc30, hF⟩ := zbind1 hF
    refine z_inv0 (d' := d - 1) (As := [.inl x5]) rfl rfl (zf_Mo_four (by omega) N _ hc30) rfl rfl rfl (by omega) rfl (fun r26 h27 hR28 hQ29 => ?_)
    obtain ⟨rfl, rfl⟩ := hQ29
    refine z_aload rfl rfl rfl ?_
    refine z_geti rfl rfl rfl rfl ?_
    obtain ⟨rfl, rfl⟩ := zinj2 hF
    exact z_iret rfl rfl K
  · rw [if_neg c1] at hF
    refine z_const rfl ?_
    obtain ⟨rfl, rfl⟩ := zinj2 hF
    exact z_iret rfl rfl K
set_option maxRecDepth 100000 in
theorem zf_Mo_feed {l : Launch} {E : zE} {d : Nat} (hd : 2 ≤ d) (N : Nat) (x1 x2 x3 x4 x5 : Int) {h : zHp} {r0 : Int} {h0 : zHp} (hF : sh_Mo_feed N x1 x2 x3 x4 x5 h = some (r0, h0)) : zC l E d zm_Mo_feed [.inr (.inr 85), .inl x1, .inl x2, .inl x3, .inl x4, .inl x5] h (fun r1 h1 => r0 = r1 ∧ h0 = h1) :=
  zC_of zk_Mo_feed (by decide) rfl rfl (Nat.le_of_ble_eq_true rfl) (zw_Mo_feed hd N _ _ _ _ _ hF ⟨rfl, rfl⟩)
def sh_Ox_end (x1 : Int) (h : zHp) : Option (Int × zHp) := (if sh_Ox_within x1 0 (h 0 1) = 0 then some ((-1), h) else some (x1, zst h 0 1 x1))
set_option maxRecDepth 100000 in
set_option maxHeartbeats 4000000 in
theorem zw_Ox_end {l : Launch} {E : zE} {d : Nat} (hd : 2 ≤ d) (x1 : Int) {h : zHp} {Q : Int → zHp → Prop} {r0 : Int} {h0 : zHp} (hF : sh_Ox_end x1 h = some (r0, h0)) (K : Q r0 h0) : zW l E d zm_Ox_end 0 [.inr (.inr 0), .inl x1] [] h Q := by
  rw [sh_Ox_end] at hF
  refine z_iload rfl rfl ?_
  refine z_const rfl ?_
  refine z_aload rfl rfl rfl ?_
  refine z_geti rfl rfl rfl rfl ?_
  refine z_ivs1 (d' := d - 1) (As := [.inl x1, .inl 0, .inl (h 0 1)]) rfl rfl (zf_Ox_within (by omega) _ _ _) rfl (by omega) rfl (fun r1 h2 hR3 hQ4 => ?_)
  obtain ⟨rfl, rfl⟩ := hQ4
  refine z_zne rfl (fun c5 => ?_) (fun c5 => ?_)
  · rw [if_neg c5] at hF
    refine z_aload rfl rfl rfl ?_
    refine z_iload rfl rfl ?_
    refine z_puti rfl rfl rfl rfl ?_
    refine z_iload rfl rfl ?_
    obtain ⟨rfl, rfl⟩ := zinj2 hF
    exact z_iret rfl rfl K
  · rw [if_pos c5] at hF
    refine z_const rfl ?_
    obtain ⟨rfl, rfl⟩ := zinj2 hF
    exact z_iret rfl rfl K
set_option maxRecDepth 100000 in
theorem zf_Ox_end {l : Launch} {E : zE} {d : Nat} (hd : 2 ≤ d) (x1 : Int) {h : zHp} {r0 : Int} {h0 : zHp} (hF : sh_Ox_end x1 h = some (r0, h0)) : zC l E d zm_Ox_end [.inr (.inr 0), .inl x1] h (fun r1 h1 => r0 = r1 ∧ h0 = h1) :=
  zC_of zk_Ox_end (by decide) rfl rfl (Nat.le_of_ble_eq_true rfl) (zw_Ox_end hd _ hF ⟨rfl, rfl⟩)
def sh_Mo_end (x1 : Int) (h : zHp) : Option (Int × zHp) := (if sh_Mo_isIn x1 0 (h 85 4) = 0 then some ((-1), h) else some (x1, zst h 85 4 x1))
set_option maxRecDepth 100000 in
set_option maxHeartbeats 4000000 in
theorem zw_Mo_end {l : Launch} {E : zE} {d : Nat} (hd : 2 ≤ d) (x1 : Int) {h : zHp} {Q : Int → zHp → Prop} {r0 : Int} {h0 : zHp} (hF : sh_Mo_end x1 h = some (r0, h0)) (K : Q r0 h0) : zW l E d zm_Mo_end 0 [.inr (.inr 85), .inl x1] [] h Q := by
  rw [sh_Mo_end] at hF
  refine z_iload rfl rfl ?_
  refine z_const rfl ?_
  refine z_aload rfl rfl rfl ?_
  refine z_geti rfl rfl rfl rfl ?_
  refine z_ivs1 (d' := d - 1) (As := [.inl x1, .inl 0, .inl (h 85 4)]) rfl rfl (zf_Mo_isIn (by omega) _ _ _) rfl (by omega) rfl (fun r1 h2 hR3 hQ4 => ?_)
  obtain ⟨rfl, rfl⟩ := hQ4
  refine z_zne rfl (fun c5 => ?_) (fun c5 => ?_)
  · rw [if_neg c5] at hF
    refine z_aload rfl rfl rfl ?_
    refine z_iload rfl rfl ?_
    refine z_puti rfl rfl rfl rfl ?_
    refine z_iload rfl rfl ?_
    obtain ⟨rfl, rfl⟩ := zinj2 hF
    exact z_iret rfl rfl K
  · rw [if_pos c5] at hF
    refine z_const rfl ?_
    obtain ⟨rfl, rfl⟩ := zinj2 hF
    exact z_iret rfl rfl K
set_option maxRecDepth 100000 in
theorem zf_Mo_end {l : Launch} {E : zE} {d : Nat} (hd : 2 ≤ d) (x1 : Int) {h : zHp} {r0 : Int} {h0 : zHp} (hF : sh_Mo_end x1 h = some (r0, h0)) : zC l E d zm_Mo_end [.inr (.inr 85), .inl x1] h (fun r1 h1 => r0 = r1 ∧ h0 = h1) :=
  zC_of zk_Mo_end (by decide) rfl rfl (Nat.le_of_ble_eq_true rfl) (zw_Mo_end hd _ hF ⟨rfl, rfl⟩)
def sh_Texts_setClause (x1 x2 x3 x4 : Int) (h : zHp) : zHp := rput (rput h 30 20 (w32 ((w32 (x1 * 5)) + x2)) (w32 ((w32 (x1 * 300)) + x3))) 32 20 (w32 ((w32 (x1 * 5)) + x2)) (w32 ((w32 (x1 * 300)) + x4))
set_option maxRecDepth 100000 in
set_option maxHeartbeats 4000000 in
theorem zw_Texts_setClause {l : Launch} {E : zE} {d : Nat} (hd : 2 ≤ d) (x1 x2 x3 x4 : Int) {h : zHp} {Q : Int → zHp → Prop} {h0 : zHp} (hF : sh_Texts_setClause x1 x2 x3 x4 h = h0) (K : Q 0 h0) : zW l E d zm_Texts_setClause 0 [.inr (.inr 26), .inl x1, .inl x2, .inl x3, .inl x4] [] h Q := by
  rw [sh_Texts_setClause] at hF
  refine z_aload rfl rfl rfl ?_
  refine z_getr (r := 29) rfl rfl rfl rfl ?_
  refine z_iload rfl rfl ?_
  refine z_const rfl ?_
  refine z_imul rfl ?_
  refine z_iload rfl rfl ?_
  refine z_iadd rfl ?_
  refine z_iload rfl rfl ?_
  refine z_const rfl ?_
  refine z_imul rfl ?_
  refine z_iload rfl rfl ?_
  refine z_iadd rfl ?_
  refine z_inv0 (d' := d - 1) (As := [.inl (w32 ((w32 (x1 * 5)) + x2)), .inl (w32 ((w32 (x1 * 300)) + x3))]) rfl rfl (zf_Row_put (r := 29) (a := 30) (n := 20) rfl rfl _ _) rfl rfl rfl (by omega) rfl (fun r1 h2 hR3 hQ4 => ?_)
  obtain ⟨rfl, rfl⟩ := hQ4
  refine z_aload rfl rfl rfl ?_
  refine z_getr (r := 31) rfl rfl rfl rfl ?_
  refine z_iload rfl rfl ?_
  refine z_const rfl ?_
  refine z_imul rfl ?_
  refine z_iload rfl rfl ?_
  refine z_iadd rfl ?_
  refine z_iload rfl rfl ?_
  refine z_const rfl ?_
  refine z_imul rfl ?_
  refine z_iload rfl rfl ?_
  refine z_iadd rfl ?_
  refine z_inv0 (d' := d - 1) (As := [.inl (w32 ((w32 (x1 * 5)) + x2)), .inl (w32 ((w32 (x1 * 300)) + x4))]) rfl rfl (zf_Row_put (r := 31) (a := 32) (n := 20) rfl rfl _ _) rfl rfl rfl (by omega) rfl (fun r5 h6 hR7 hQ8 => ?_)
  obtain ⟨rfl, rfl⟩ := hQ8
  subst hF
  exact z_ret rfl rfl rfl K
set_option maxRecDepth 100000 in
theorem zf_Texts_setClause {l : Launch} {E : zE} {d : Nat} (hd : 2 ≤ d) (x1 x2 x3 x4 : Int) {h : zHp} : zC l E d zm_Texts_setClause [.inr (.inr 26), .inl x1, .inl x2, .inl x3, .inl x4] h (fun r1 h1 => 0 = r1 ∧ sh_Texts_setClause x1 x2 x3 x4 h = h1) :=
  zC_of zk_Texts_setClause (by decide) rfl rfl (Nat.le_of_ble_eq_true rfl) (zw_Texts_setClause hd _ _ _ _ rfl ⟨rfl, rfl⟩)
def sh_Texts_clear_L2 (N : Nat) : Nat → Int → Int → zHp → Option (zHp)
  | 0, _, _, _ => none
  | n + 1, x1, x2, h => (if 5 ≤ x2 then some h else sh_Texts_clear_L2 N n x1 (w32 (x2 + 1)) (sh_Texts_setClause x1 x2 0 0 h))
def sh_Texts_clear (N : Nat) (x1 : Int) (h : zHp) : Option zHp := zb1 (sh_Texts_clear_L2 N N x1 0 h) fun h7 => some h7
set_option maxRecDepth 100000 in
set_option maxHeartbeats 4000000 in
theorem zl_Texts_clear_L2 {l : Launch} {E : zE} {d : Nat} (hd : 3 ≤ d) (N : Nat) {Q : Int → zHp → Prop} {oh : zHp} (K1 : zW l E d zm_Texts_clear 13 [zJk, zJk, zJk] [] oh Q) : ∀ (n : Nat) (x1 x2 : Int) (h : zHp), sh_Texts_clear_L2 N n x1 x2 h = some oh → zW l E d zm_Texts_clear 2 [.inr (.inr 26), .inl x1, .inl x2] [] h Q := by
  intro n
  induction n with
  | zero =>
    intro x1 x2 h hF
    cases (show (none : Option (zHp)) = some oh from hF)
  | succ n ih =>
    intro x1 x2 h hF
    rw [sh_Texts_clear_L2] at hF
    refine z_iload rfl rfl ?_
    refine z_const rfl ?_
    refine z_cge rfl (fun c1 => ?_) (fun c1 => ?_)
    · rw [if_pos c1] at hF
      refine zsubL (L' := [zJk, zJk, zJk]) ⟨Or.inr rfl, Or.inr rfl, Or.inr rfl, trivial⟩ ?_
      obtain rfl := Option.some.inj hF
      exact K1
    · rw [if_neg c1] at hF
      refine z_aload rfl rfl rfl ?_
      refine z_iload rfl rfl ?_
      refine z_iload rfl rfl ?_
      refine z_const rfl ?_
      refine z_const rfl ?_
      refine z_inv0 (d' := d - 1) (As := [.inl x1, .inl x2, .inl 0, .inl 0]) rfl rfl (zf_Texts_setClause (by omega) _ _ _ _) rfl rfl rfl (by omega) rfl (fun r2 h3 hR4 hQ5 => ?_)
      obtain ⟨rfl, rfl⟩ := hQ5
      refine z_iinc rfl rfl rfl ?_
      refine z_goto rfl ?_
      exact ih _ _ _ hF
set_option maxRecDepth 100000 in
set_option maxHeartbeats 4000000 in
theorem zw_Texts_clear {l : Launch} {E : zE} {d : Nat} (hd : 3 ≤ d) (N : Nat) (x1 : Int) {h : zHp} {Q : Int → zHp → Prop} {h0 : zHp} (hF : sh_Texts_clear N x1 h = some h0) (K : Q 0 h0) : zW l E d zm_Texts_clear 0 [.inr (.inr 26), .inl x1, zJk] [] h Q := by
  rw [sh_Texts_clear] at hF
  refine z_const rfl ?_
  refine z_istore rfl rfl rfl ?_
  obtain ⟨h7, hL6, hF⟩ := zbind1 hF
  refine zl_Texts_clear_L2 (by omega) N ?_ N _ _ _ hL6
  obtain rfl := Option.some.inj hF
  exact z_ret rfl rfl rfl K
set_option maxRecDepth 100000 in
theorem zf_Texts_clear {l : Launch} {E : zE} {d : Nat} (hd : 3 ≤ d) (N : Nat) (x1 : Int) {h : zHp} {h0 : zHp} (hF : sh_Texts_clear N x1 h = some h0) : zC l E d zm_Texts_clear [.inr (.inr 26), .inl x1] h (fun r1 h1 => 0 = r1 ∧ h0 = h1) :=
  zC_of zk_Texts_clear (by decide) rfl rfl (Nat.le_of_ble_eq_true rfl) (zw_Texts_clear hd N _ hF ⟨rfl, rfl⟩)
def sh_Texts_has (x1 x2 : Int) (h : zHp) : Int := (if rget h 32 20 (w32 ((w32 (x1 * 5)) + x2)) ≤ rget h 30 20 (w32 ((w32 (x1 * 5)) + x2)) then 0 else 1 : Int)
set_option maxRecDepth 100000 in
set_option maxHeartbeats 4000000 in
theorem zw_Texts_has {l : Launch} {E : zE} {d : Nat} (hd : 2 ≤ d) (x1 x2 : Int) {h : zHp} {Q : Int → zHp → Prop} {r0 : Int} (hF : sh_Texts_has x1 x2 h = r0) (K : Q r0 h) : zW l E d zm_Texts_has 0 [.inr (.inr 26), .inl x1, .inl x2] [] h Q := by
  rw [sh_Texts_has] at hF
  refine z_aload rfl rfl rfl ?_
  refine z_getr (r := 29) rfl rfl rfl rfl ?_
  refine z_iload rfl rfl ?_
  refine z_const rfl ?_
  refine z_imul rfl ?_
  refine z_iload rfl rfl ?_
  refine z_iadd rfl ?_
  refine z_inv1 (d' := d - 1) (As := [.inl (w32 ((w32 (x1 * 5)) + x2))]) rfl rfl (zf_Row_get (r := 29) (a := 30) (n := 20) rfl rfl _) rfl rfl rfl (by omega) rfl (fun r1 h2 hR3 hQ4 => ?_)
  obtain ⟨rfl, rfl⟩ := hQ4
  refine z_aload rfl rfl rfl ?_
  refine z_getr (r := 31) rfl rfl rfl rfl ?_
  refine z_iload rfl rfl ?_
  refine z_const rfl ?_
  refine z_imul rfl ?_
  refine z_iload rfl rfl ?_
  refine z_iadd rfl ?_
  refine z_inv1 (d' := d - 1) (As := [.inl (w32 ((w32 (x1 * 5)) + x2))]) rfl rfl (zf_Row_get (r := 31) (a := 32) (n := 20) rfl rfl _) rfl rfl rfl (by omega) rfl (fun r5 h6 hR7 hQ8 => ?_)
  obtain ⟨rfl, rfl⟩ := hQ8
  have hJ10 : zW l E d zm_Texts_has 20 [zJk, zJk, zJk] [.inl (if rget h 32 20 (w32 ((w32 (x1 * 5)) + x2)) ≤ rget h 30 20 (w32 ((w32 (x1 * 5)) + x2)) then 0 else 1 : Int)] h Q := by
    subst hF
    exact z_zret rfl rfl (zor_ite (Or.inl rfl) (Or.inr rfl)) K
  refine z_cge rfl (fun c9 => ?_) (fun c9 => ?_)
  · refine z_const rfl ?_
    refine zsubL (L' := [zJk, zJk, zJk]) ⟨Or.inr rfl, Or.inr rfl, Or.inr rfl, trivial⟩ ?_
    exact zcast (by first | rfl | (simp only [if_pos c9] <;> rfl)) (by first | rfl | (simp only [if_pos c9] <;> rfl)) hJ10
  · refine z_const rfl ?_
    refine z_goto rfl ?_
    refine zsubL (L' := [zJk, zJk, zJk]) ⟨Or.inr rfl, Or.inr rfl, Or.inr rfl, trivial⟩ ?_
    exact zcast (by first | rfl | (simp only [if_neg c9] <;> rfl)) (by first | rfl | (simp only [if_neg c9] <;> rfl)) hJ10
set_option maxRecDepth 100000 in
theorem zf_Texts_has {l : Launch} {E : zE} {d : Nat} (hd : 2 ≤ d) (x1 x2 : Int) {h : zHp} : zC l E d zm_Texts_has [.inr (.inr 26), .inl x1, .inl x2] h (fun r1 h1 => sh_Texts_has x1 x2 h = r1 ∧ h = h1) :=
  zC_of zk_Texts_has (by decide) rfl rfl (Nat.le_of_ble_eq_true rfl) (zw_Texts_has hd _ _ rfl ⟨rfl, rfl⟩)
theorem zb_Texts_has (x1 x2 : Int) (h : zHp) : sh_Texts_has x1 x2 h = 0 ∨ sh_Texts_has x1 x2 h = 1 := by
  unfold sh_Texts_has
  exact zor_ite (Or.inl rfl) (Or.inr rfl)
def sh_Reader_readClause_J63 (N : Nat) (a1 : Int) (hj : zHp) : Option zHp := (if hj 67 2 = 0 then zb1 (sh_Reader_step N (sh_Texts_setClause (hj 67 5) (hj 67 6) a1 (hj 67 7) hj)) fun h45 => some h45 else some hj)
def sh_Reader_readClause (N : Nat) (h : zHp) : Option zHp := (if zst h 67 6 (w32 ((h 67 10) - 11)) 67 6 < 0 then some (sh_Reader_fail 1 (zst h 67 6 (w32 ((h 67 10) - 11)))) else (if zst h 67 6 (w32 ((h 67 10) - 11)) 67 6 < 5 then (if sh_Texts_has (zst h 67 6 (w32 ((h 67 10) - 11)) 67 5) (zst h 67 6 (w32 ((h 67 10) - 11)) 67 6) (zst h 67 6 (w32 ((h 67 10) - 11))) = 0 then zb1 (sh_Reader_step N (zst h 67 6 (w32 ((h 67 10) - 11)))) fun h17 => zb2 (sh_Reader_readRank N (if (if h17 67 6 = 0 then 1 else (if h17 67 6 = 1 then 1 else 0 : Int) : Int) = 0 then 3 else 0 : Int) 0 h17) fun r28 h29 => if h29 67 2 = 0 then (if h29 67 10 = 30 then sh_Reader_readClause_J63 N (zst h 67 6 (w32 ((h 67 10) - 11)) 67 7) h29 else sh_Reader_readClause_J63 N (zst h 67 6 (w32 ((h 67 10) - 11)) 67 7) (sh_Reader_fail 1 h29)) else sh_Reader_readClause_J63 N (zst h 67 6 (w32 ((h 67 10) - 11)) 67 7) h29 else some (sh_Reader_fail 4 (zst h 67 6 (w32 ((h 67 10) - 11))))) else some (sh_Reader_fail 1 (zst h 67 6 (w32 ((h 67 10) - 11))))))
set_option maxRecDepth 100000 in
set_option maxHeartbeats 4000000 in
theorem zw_Reader_readClause {l : Launch} {E : zE} {d : Nat} (hd : 113 ≤ d) (N : Nat) {h : zHp} {Q : Int → zHp → Prop} {h0 : zHp} (hF : sh_Reader_readClause N h = some h0) (K : Q 0 h0) : zW l E d zm_Reader_readClause 0 [.inr (.inr 67), zJk, zJk] [] h Q := by
  rw [sh_Reader_readClause] at hF
  refine z_aload rfl rfl rfl ?_
  refine z_aload rfl rfl rfl ?_
  refine z_geti rfl rfl rfl rfl ?_
  refine z_const rfl ?_
  refine z_isub rfl ?_
  refine z_puti rfl rfl rfl rfl ?_
  refine z_aload rfl rfl rfl ?_
  refine z_geti rfl rfl rfl rfl ?_
  refine z_zlt rfl (fun c1 => ?_) (fun c1 => ?_)
  · rw [if_pos c1] at hF
    refine z_aload rfl rfl rfl ?_
    refine z_const rfl ?_
    refine z_inv0 (d' := d - 1) (As := [.inl 1]) rfl rfl (zf_Reader_fail (by omega) _) rfl rfl rfl (by omega) rfl (fun r2 h3 hR4 hQ5 => ?_)
    obtain ⟨rfl, rfl⟩ := hQ5
    obtain rfl := Option.some.inj hF
    exact z_ret rfl rfl rfl K
  · rw [if_neg c1] at hF
    refine z_aload rfl rfl rfl ?_
    refine z_geti rfl rfl rfl rfl ?_
    refine z_const rfl ?_
    refine z_clt rfl (fun c6 => ?_) (fun c6 => ?_)
    · rw [if_pos c6] at hF
      refine z_aload rfl rfl rfl ?_
      refine z_getr (r := 26) rfl rfl rfl rfl ?_
      refine z_aload rfl rfl rfl ?_
      refine z_geti rfl rfl rfl rfl ?_
      refine z_aload rfl rfl rfl ?_
      refine z_geti rfl rfl rfl rfl ?_
      refine z_inv1 (d' := d - 1) (As := [.inl (zst h 67 6 (w32 ((h 67 10) - 11)) 67 5), .inl (zst h 67 6 (w32 ((h 67 10) - 11)) 67 6)]) rfl rfl (zf_Texts_has (by omega) _ _) rfl rfl rfl (by omega) rfl (fun r7 h8 hR9 hQ10 => ?_)
      obtain ⟨rfl, rfl⟩ := hQ10
      refine z_zeq rfl (fun c11 => ?_) (fun c11 => ?_)
      · rw [if_pos c11] at hF
        refine z_aload rfl rfl rfl ?_
        refine z_geti rfl rfl rfl rfl ?_
        refine z_istore rfl rfl rfl ?_
        refine z_aload rfl rfl rfl ?_
        obtain ⟨h17, hc16, hF⟩ := zbind1 hF
        refine z_inv0 (d' := d - 1) (As := []) rfl rfl (zf_Reader_step (by omega) N hc16) rfl rfl rfl (by omega) rfl (fun r12 h13 hR14 hQ15 => ?_)
        obtain ⟨rfl, rfl⟩ := hQ15
        refine z_aload rfl rfl rfl ?_
        refine z_geti rfl rfl rfl rfl ?_
        have hJ20 : zW l E d zm_Reader_readClause 44 [.inr (.inr 67), .inl (zst h 67 6 (w32 ((h 67 10) - 11)) 67 7), zJk] [.inl (if h17 67 6 = 0 then 1 else (if h17 67 6 = 1 then 1 else 0 : Int) : Int)] h17 Q := by
          refine z_istore rfl rfl rfl ?_
          refine z_aload rfl rfl rfl ?_
          refine z_iload rfl rfl ?_
          have hJ22 : zW l E d zm_Reader_readClause 51 [.inr (.inr 67), .inl (zst h 67 6 (w32 ((h 67 10) - 11)) 67 7), zJk] [.inl (if (if h17 67 6 = 0 then 1 else (if h17 67 6 = 1 then 1 else 0 : Int) : Int) = 0 then 3 else 0 : Int), .inr (.inr 67)] h17 Q := by
            refine z_const rfl ?_
            obtain ⟨r28, h29, hc27, hF⟩ := zbind2 hF
            refine z_inv0 (d' := d - 1) (As := [.inl (if (if h17 67 6 = 0 then 1 else (if h17 67 6 = 1 then 1 else 0 : Int) : Int) = 0 then 3 else 0 : Int), .inl 0]) rfl rfl (zf_Reader_readRank (by omega) N _ _ hc27) rfl rfl rfl (by omega) rfl (fun r23 h24 hR25 hQ26 => ?_)
            obtain ⟨rfl, rfl⟩ := hQ26
            refine z_aload rfl rfl rfl ?_
            refine z_geti rfl rfl rfl rfl ?_
            have hJ33 : ∀ (a1 : Int) (hj : zHp), sh_Reader_readClause_J63 N a1 hj = some h0 → zW l E d zm_Reader_readClause 63 [.inr (.inr 67), .inl a1, zJk] [] hj Q := by
              intro a1 hj hF
              rw [sh_Reader_readClause_J63] at hF
              refine z_aload rfl rfl rfl ?_
              refine z_geti rfl rfl rfl rfl ?_
              refine z_zne rfl (fun c35 => ?_) (fun c35 => ?_)
              · rw [if_neg c35] at hF
                obtain rfl := Option.some.inj hF
                exact z_ret rfl rfl rfl K
              · rw [if_pos c35] at hF
                refine z_aload rfl rfl rfl ?_
                refine z_getr (r := 26) rfl rfl rfl rfl ?_
                refine z_aload rfl rfl rfl ?_
                refine z_geti rfl rfl rfl rfl ?_
                refine z_aload rfl rfl rfl ?_
                refine z_geti rfl rfl rfl rfl ?_
                refine z_iload rfl rfl ?_
                refine z_aload rfl rfl rfl ?_
                refine z_geti rfl rfl rfl rfl ?_
                refine z_inv0 (d' := d - 1) (As := [.inl (hj 67 5), .inl (hj 67 6), .inl a1, .inl (hj 67 7)]) rfl rfl (zf_Texts_setClause (by omega) _ _ _ _) rfl rfl rfl (by omega) rfl (fun r36 h37 hR38 hQ39 => ?_)
                obtain ⟨rfl, rfl⟩ := hQ39
                refine z_aload rfl rfl rfl ?_
                obtain ⟨h45, hc44, hF⟩ := zbind1 hF
                refine z_inv0 (d' := d - 1) (As := []) rfl rfl (zf_Reader_step (by omega) N hc44) rfl rfl rfl (by omega) rfl (fun r40 h41 hR42 hQ43 => ?_)
                obtain ⟨rfl, rfl⟩ := hQ43
                obtain rfl := Option.some.inj hF
                exact z_ret rfl rfl rfl K
            refine z_zne rfl (fun c32 => ?_) (fun c32 => ?_)
            · rw [if_neg c32] at hF
              exact hJ33 _ _ hF
            · rw [if_pos c32] at hF
              refine z_aload rfl rfl rfl ?_
              refine z_geti rfl rfl rfl rfl ?_
              refine z_const rfl ?_
              refine z_ceq rfl (fun c47 => ?_) (fun c47 => ?_)
              · rw [if_pos c47] at hF
                exact hJ33 _ _ hF
              · rw [if_neg c47] at hF
                refine z_aload rfl rfl rfl ?_
                refine z_const rfl ?_
                refine z_inv0 (d' := d - 1) (As := [.inl 1]) rfl rfl (zf_Reader_fail (by omega) _) rfl rfl rfl (by omega) rfl (fun r48 h49 hR50 hQ51 => ?_)
                obtain ⟨rfl, rfl⟩ := hQ51
                exact hJ33 _ _ hF
          refine z_zeq rfl (fun c21 => ?_) (fun c21 => ?_)
          · refine z_const rfl ?_
            refine zsubL (L' := [.inr (.inr 67), .inl (zst h 67 6 (w32 ((h 67 10) - 11)) 67 7), zJk]) ⟨Or.inl rfl, Or.inl rfl, Or.inr rfl, trivial⟩ ?_
            exact zcast (by first | rfl | (simp only [if_pos c21] <;> rfl)) (by first | rfl | (simp only [if_pos c21] <;> rfl)) hJ22
          · refine z_const rfl ?_
            refine z_goto rfl ?_
            refine zsubL (L' := [.inr (.inr 67), .inl (zst h 67 6 (w32 ((h 67 10) - 11)) 67 7), zJk]) ⟨Or.inl rfl, Or.inl rfl, Or.inr rfl, trivial⟩ ?_
            exact zcast (by first | rfl | (simp only [if_neg c21] <;> rfl)) (by first | rfl | (simp only [if_neg c21] <;> rfl)) hJ22
        refine z_zeq rfl (fun c18 => ?_) (fun c18 => ?_)
        · refine z_const rfl ?_
          refine z_goto rfl ?_
          exact zcast (by first | rfl | (simp only [if_pos c18] <;> rfl)) (by first | rfl | (simp only [if_pos c18] <;> rfl)) hJ20
        · refine z_aload rfl rfl rfl ?_
          refine z_geti rfl rfl rfl rfl ?_
          refine z_const rfl ?_
          refine z_cne rfl (fun c19 => ?_) (fun c19 => ?_)
          · refine z_const rfl ?_
            exact zcast (by first | rfl | (simp only [if_neg c18, if_neg c19] <;> rfl)) (by first | rfl | (simp only [if_neg c18, if_neg c19] <;> rfl)) hJ20
          · refine z_const rfl ?_
            refine z_goto rfl ?_
            exact zcast (by first | rfl | (simp only [if_neg c18, if_pos c19] <;> rfl)) (by first | rfl | (simp only [if_neg c18, if_pos c19] <;> rfl)) hJ20
      · rw [if_neg c11] at hF
        refine z_aload rfl rfl rfl ?_
        refine z_const rfl ?_
        refine z_inv0 (d' := d - 1) (As := [.inl 4]) rfl rfl (zf_Reader_fail (by omega) _) rfl rfl rfl (by omega) rfl (fun r52 h53 hR54 hQ55 => ?_)
        obtain ⟨rfl, rfl⟩ := hQ55
        obtain rfl := Option.some.inj hF
        exact z_ret rfl rfl rfl K
    · rw [if_neg c6] at hF
      refine z_aload rfl rfl rfl ?_
      refine z_const rfl ?_
      refine z_inv0 (d' := d - 1) (As := [.inl 1]) rfl rfl (zf_Reader_fail (by omega) _) rfl rfl rfl (by omega) rfl (fun r56 h57 hR58 hQ59 => ?_)
      obtain ⟨rfl, rfl⟩ := hQ59
      obtain rfl := Option.some.inj hF
      exact z_ret rfl rfl rfl K
set_option maxRecDepth 100000 in
theorem zf_Reader_readClause {l : Launch} {E : zE} {d : Nat} (hd : 113 ≤ d) (N : Nat) {h : zHp} {h0 : zHp} (hF : sh_Reader_readClause N h = some h0) : zC l E d zm_Reader_readClause [.inr (.inr 67)] h (fun r1 h1 => 0 = r1 ∧ h0 = h1) :=
  zC_of zk_Reader_readClause (by decide) rfl rfl (Nat.le_of_ble_eq_true rfl) (zw_Reader_readClause hd N hF ⟨rfl, rfl⟩)
def sh_Reader_read_L26 (N : Nat) : Nat → Int → zHp → Option (zHp)
  | 0, _, _ => none
  | n + 1, x3, h => (if 5 < x3 then some h else (if h 67 2 = 0 then (if h 67 10 = 35 then some h else zb1 (sh_Reader_readClause N h) fun h21 => sh_Reader_read_L26 N n (w32 (x3 + 1)) h21) else some h))
def sh_Reader_read (N : Nat) (x1 x2 : Int) (h : zHp) : Option (Int × zHp) := zb1 (sh_Texts_clear N x2 (zst (zst (zst (zst (zst (zst h 67 4 x1) 67 5 x2) 67 2 0) 67 3 (-1)) 67 7 0) 67 9 0)) fun h6 => zb1 (sh_Reader_step N h6) fun h12 => zb1 (sh_Reader_read_L26 N N 0 h12) fun h23 => some ((if h23 67 2 = 0 then 1 else 0 : Int), h23)
set_option maxRecDepth 100000 in
set_option maxHeartbeats 4000000 in
theorem zl_Reader_read_L26 {l : Launch} {E : zE} {d : Nat} (hd : 114 ≤ d) (N : Nat) {Q : Int → zHp → Prop} {oh : zHp} (K1 : zW l E d zm_Reader_read 40 [.inr (.inr 67), zJk, zJk, zJk] [] oh Q) : ∀ (n : Nat) (x3 : Int) (h : zHp), sh_Reader_read_L26 N n x3 h = some oh → zW l E d zm_Reader_read 26 [.inr (.inr 67), zJk, zJk, .inl x3] [] h Q := by
  intro n
  induction n with
  | zero =>
    intro x3 h hF
    cases (show (none : Option (zHp)) = some oh from hF)
  | succ n ih =>
    intro x3 h hF
    rw [sh_Reader_read_L26] at hF
    refine z_iload rfl rfl ?_
    refine z_const rfl ?_
    refine z_cgt rfl (fun c13 => ?_) (fun c13 => ?_)
    · rw [if_pos c13] at hF
      refine zsubL (L' := [.inr (.inr 67), zJk, zJk, zJk]) ⟨Or.inl rfl, Or.inl rfl, Or.inl rfl, Or.inr rfl, trivial⟩ ?_
      obtain rfl := Option.some.inj hF
      exact K1
    · rw [if_neg c13] at hF
      refine z_aload rfl rfl rfl ?_
      refine z_geti rfl rfl rfl rfl ?_
      refine z_zne rfl (fun c14 => ?_) (fun c14 => ?_)
      · rw [if_neg c14] at hF
        refine zsubL (L' := [.inr (.inr 67), zJk, zJk, zJk]) ⟨Or.inl rfl, Or.inl rfl, Or.inl rfl, Or.inr rfl, trivial⟩ ?_
        obtain rfl := Option.some.inj hF
        exact K1
      · rw [if_pos c14] at hF
        refine z_aload rfl rfl rfl ?_
        refine z_geti rfl rfl rfl rfl ?_
        refine z_const rfl ?_
        refine z_ceq rfl (fun c15 => ?_) (fun c15 => ?_)
        · rw [if_pos c15] at hF
          refine zsubL (L' := [.inr (.inr 67), zJk, zJk, zJk]) ⟨Or.inl rfl, Or.inl rfl, Or.inl rfl, Or.inr rfl, trivial⟩ ?_
          obtain rfl := Option.some.inj hF
          exact K1
        · rw [if_neg c15] at hF
          refine z_aload rfl rfl rfl ?_
          obtain ⟨h21, hc20, hF⟩ := zbind1 hF
          refine z_inv0 (d' := d - 1) (As := []) rfl rfl (zf_Reader_readClause (by omega) N hc20) rfl rfl rfl (by omega) rfl (fun r16 h17 hR18 hQ19 => ?_)
          obtain ⟨rfl, rfl⟩ := hQ19
          refine z_iinc rfl rfl rfl ?_
          refine z_goto rfl ?_
          exact ih _ _ hF
set_option maxRecDepth 100000 in
set_option maxHeartbeats 4000000 in
theorem zw_Reader_read {l : Launch} {E : zE} {d : Nat} (hd : 114 ≤ d) (N : Nat) (x1 x2 : Int) {h : zHp} {Q : Int → zHp → Prop} {r0 : Int} {h0 : zHp} (hF : sh_Reader_read N x1 x2 h = some (r0, h0)) (K : Q r0 h0) : zW l E d zm_Reader_read 0 [.inr (.inr 67), .inl x1, .inl x2, zJk] [] h Q := by
  rw [sh_Reader_read] at hF
  refine z_aload rfl rfl rfl ?_
  refine z_iload rfl rfl ?_
  refine z_puti rfl rfl rfl rfl ?_
  refine z_aload rfl rfl rfl ?_
  refine z_iload rfl rfl ?_
  refine z_puti rfl rfl rfl rfl ?_
  refine z_aload rfl rfl rfl ?_
  refine z_const rfl ?_
  refine z_puti rfl rfl rfl rfl ?_
  refine z_aload rfl rfl rfl ?_
  refine z_const rfl ?_
  refine z_puti rfl rfl rfl rfl ?_
  refine z_aload rfl rfl rfl ?_
  refine z_const rfl ?_
  refine z_puti rfl rfl rfl rfl ?_
  refine z_aload rfl rfl rfl ?_
  refine z_const rfl ?_
  refine z_puti rfl rfl rfl rfl ?_
  refine z_aload rfl rfl rfl ?_
  refine z_getr (r := 26) rfl rfl rfl rfl ?_
  refine z_iload rfl rfl ?_
  obtain ⟨h6, hc5, hF⟩ := zbind1 hF
  refine z_inv0 (d' := d - 1) (As := [.inl x2]) rfl rfl (zf_Texts_clear (by omega) N _ hc5) rfl rfl rfl (by omega) rfl (fun r1 h2 hR3 hQ4 => ?_)
  obtain ⟨rfl, rfl⟩ := hQ4
  refine z_aload rfl rfl rfl ?_
  obtain ⟨h12, hc11, hF⟩ := zbind1 hF
  refine z_inv0 (d' := d - 1) (As := []) rfl rfl (zf_Reader_step (by omega) N hc11) rfl rfl rfl (by omega) rfl (fun r7 h8 hR9 hQ10 => ?_)
  obtain ⟨rfl, rfl⟩ := hQ10
  refine z_const rfl ?_
  refine z_istore rfl rfl rfl ?_
  refine zsubL (L' := [.inr (.inr 67), zJk, zJk, .inl 0]) ⟨Or.inl rfl, Or.inr rfl, Or.inr rfl, Or.inl rfl, trivial⟩ ?_
  obtain ⟨h23, hL22, hF⟩ := zbind1 hF
  refine zl_Reader_read_L26 (by omega) N ?_ N _ _ hL22
  refine z_aload rfl rfl rfl ?_
  refine z_geti rfl rfl rfl rfl ?_
  have hJ25 : zW l E d zm_Reader_read 46 [zJk, zJk, zJk, zJk] [.inl (if h23 67 2 = 0 then 1 else 0 : Int)] h23 Q := by
    obtain ⟨rfl, rfl⟩ := zinj2 hF
    exact z_zret rfl rfl (zor_ite (Or.inr rfl) (Or.inl rfl)) K
  refine z_zne rfl (fun c24 => ?_) (fun c24 => ?_)
  · refine z_const rfl ?_
    refine zsubL (L' := [zJk, zJk, zJk, zJk]) ⟨Or.inr rfl, Or.inl rfl, Or.inl rfl, Or.inl rfl, trivial⟩ ?_
    exact zcast (by first | rfl | (simp only [if_neg c24] <;> rfl)) (by first | rfl | (simp only [if_neg c24] <;> rfl)) hJ25
  · refine z_const rfl ?_
    refine z_goto rfl ?_
    refine zsubL (L' := [zJk, zJk, zJk, zJk]) ⟨Or.inr rfl, Or.inl rfl, Or.inl rfl, Or.inl rfl, trivial⟩ ?_
    exact zcast (by first | rfl | (simp only [if_pos c24] <;> rfl)) (by first | rfl | (simp only [if_pos c24] <;> rfl)) hJ25
set_option maxRecDepth 100000 in
theorem zf_Reader_read {l : Launch} {E : zE} {d : Nat} (hd : 114 ≤ d) (N : Nat) (x1 x2 : Int) {h : zHp} {r0 : Int} {h0 : zHp} (hF : sh_Reader_read N x1 x2 h = some (r0, h0)) : zC l E d zm_Reader_read [.inr (.inr 67), .inl x1, .inl x2] h (fun r1 h1 => r0 = r1 ∧ h0 = h1) :=
  zC_of zk_Reader_read (by decide) rfl rfl (Nat.le_of_ble_eq_true rfl) (zw_Reader_read hd N _ _ hF ⟨rfl, rfl⟩)
def sh_Ox_text (N : Nat) (h : zHp) : Option (Int × zHp) := (if h 1 12 < 4 then zb2 (sh_Reader_read N (h 0 1) (h 1 12) (zst h 0 1 0)) fun r7 h8 => if r7 = 0 then some ((-1), h8) else some (h 1 12, zst h8 1 12 (w32 ((h 1 12) + 1))) else some ((-1), h))
set_option maxRecDepth 100000 in
set_option maxHeartbeats 4000000 in
theorem zw_Ox_text {l : Launch} {E : zE} {d : Nat} (hd : 115 ≤ d) (N : Nat) {h : zHp} {Q : Int → zHp → Prop} {r0 : Int} {h0 : zHp} (hF : sh_Ox_text N h = some (r0, h0)) (K : Q r0 h0) : zW l E d zm_Ox_text 0 [.inr (.inr 0), zJk, zJk] [] h Q := by
  rw [sh_Ox_text] at hF
  refine z_aload rfl rfl rfl ?_
  refine z_getr (r := 1) rfl rfl rfl rfl ?_
  refine z_geti rfl rfl rfl rfl ?_
  refine z_istore rfl rfl rfl ?_
  refine z_iload rfl rfl ?_
  refine z_const rfl ?_
  refine z_clt rfl (fun c1 => ?_) (fun c1 => ?_)
  · rw [if_pos c1] at hF
    refine z_aload rfl rfl rfl ?_
    refine z_geti rfl rfl rfl rfl ?_
    refine z_istore rfl rfl rfl ?_
    refine z_aload rfl rfl rfl ?_
    refine z_const rfl ?_
    refine z_puti rfl rfl rfl rfl ?_
    refine z_aload rfl rfl rfl ?_
    refine z_getr (r := 67) rfl rfl rfl rfl ?_
    refine z_iload rfl rfl ?_
    refine z_iload rfl rfl ?_
    obtain ⟨r7, h8, hc6, hF⟩ := zbind2 hF
    refine z_inv1 (d' := d - 1) (As := [.inl (h 0 1), .inl (h 1 12)]) rfl rfl (zf_Reader_read (by omega) N _ _ hc6) rfl rfl rfl (by omega) rfl (fun r2 h3 hR4 hQ5 => ?_)
    obtain ⟨rfl, rfl⟩ := hQ5
    refine z_zne rfl (fun c9 => ?_) (fun c9 => ?_)
    · rw [if_neg c9] at hF
      refine z_aload rfl rfl rfl ?_
      refine z_getr (r := 1) rfl rfl rfl rfl ?_
      refine z_iload rfl rfl ?_
      refine z_const rfl ?_
      refine z_iadd rfl ?_
      refine z_puti rfl rfl rfl rfl ?_
      refine z_iload rfl rfl ?_
      obtain ⟨rfl, rfl⟩ := zinj2 hF
      exact z_iret rfl rfl K
    · rw [if_pos c9] at hF
      refine z_const rfl ?_
      obtain ⟨rfl, rfl⟩ := zinj2 hF
      exact z_iret rfl rfl K
  · rw [if_neg c1] at hF
    refine z_const rfl ?_
    obtain ⟨rfl, rfl⟩ := zinj2 hF
    exact z_iret rfl rfl K
set_option maxRecDepth 100000 in
theorem zf_Ox_text {l : Launch} {E : zE} {d : Nat} (hd : 115 ≤ d) (N : Nat) {h : zHp} {r0 : Int} {h0 : zHp} (hF : sh_Ox_text N h = some (r0, h0)) : zC l E d zm_Ox_text [.inr (.inr 0)] h (fun r1 h1 => r0 = r1 ∧ h0 = h1) :=
  zC_of zk_Ox_text (by decide) rfl rfl (Nat.le_of_ble_eq_true rfl) (zw_Ox_text hd N hF ⟨rfl, rfl⟩)
def sh_Mo_byteAt (N : Nat) (x1 : Int) (h : zHp) : Option Int := (if h 85 4 ≤ x1 then some (-1) else if 0 ≤ x1 ∧ x1 < 300 then some (h 89 x1.toNat) else none)
set_option maxRecDepth 100000 in
set_option maxHeartbeats 4000000 in
theorem zw_Mo_byteAt {l : Launch} {E : zE} {d : Nat} (hd : 1 ≤ d) (N : Nat) (x1 : Int) {h : zHp} {Q : Int → zHp → Prop} {r0 : Int} (hF : sh_Mo_byteAt N x1 h = some r0) (K : Q r0 h) : zW l E d zm_Mo_byteAt 0 [.inr (.inr 85), .inl x1] [] h Q := by
  rw [sh_Mo_byteAt] at hF
  refine z_iload rfl rfl ?_
  refine z_aload rfl rfl rfl ?_
  refine z_geti rfl rfl rfl rfl ?_
  refine z_cge rfl (fun c2 => ?_) (fun c2 => ?_)
  · rw [if_pos c2] at hF
    refine z_const rfl ?_
    obtain rfl := Option.some.inj hF
    exact z_iret rfl rfl K
  · rw [if_neg c2] at hF
    refine z_aload rfl rfl rfl ?_
    refine z_getr (r := 89) rfl rfl rfl rfl ?_
    refine z_iload rfl rfl ?_
    obtain ⟨g3, hF⟩ := zguard hF
    refine z_iald rfl rfl g3.1 g3.2 ?_
    refine z_goto rfl ?_
    obtain rfl := Option.some.inj hF
    exact z_iret rfl rfl K
set_option maxRecDepth 100000 in
theorem zf_Mo_byteAt {l : Launch} {E : zE} {d : Nat} (hd : 1 ≤ d) (N : Nat) (x1 : Int) {h : zHp} {r0 : Int} (hF : sh_Mo_byteAt N x1 h = some r0) : zC l E d zm_Mo_byteAt [.inr (.inr 85), .inl x1] h (fun r1 h1 => r0 = r1 ∧ h = h1) :=
  zC_of zk_Mo_byteAt (by decide) rfl rfl (Nat.le_of_ble_eq_true rfl) (zw_Mo_byteAt hd N _ hF ⟨rfl, rfl⟩)
def sh_Mo_isDigit (x0 : Int) : Int := sh_Mo_isIn x0 48 57
set_option maxRecDepth 100000 in
set_option maxHeartbeats 4000000 in
theorem zw_Mo_isDigit {l : Launch} {E : zE} {d : Nat} (hd : 2 ≤ d) (x0 : Int) {h : zHp} {Q : Int → zHp → Prop} {r0 : Int} (hF : sh_Mo_isDigit x0 = r0) (K : Q r0 h) : zW l E d zm_Mo_isDigit 0 [.inl x0] [] h Q := by
  rw [sh_Mo_isDigit] at hF
  refine z_iload rfl rfl ?_
  refine z_const rfl ?_
  refine z_const rfl ?_
  refine z_ivs1 (d' := d - 1) (As := [.inl x0, .inl 48, .inl 57]) rfl rfl (zf_Mo_isIn (by omega) _ _ _) rfl (by omega) rfl (fun r1 h2 hR3 hQ4 => ?_)
  obtain ⟨rfl, rfl⟩ := hQ4
  subst hF
  exact z_zret rfl rfl (zRr_z rfl hR3) K
set_option maxRecDepth 100000 in
theorem zf_Mo_isDigit {l : Launch} {E : zE} {d : Nat} (hd : 2 ≤ d) (x0 : Int) {h : zHp} : zC l E d zm_Mo_isDigit [.inl x0] h (fun r1 h1 => sh_Mo_isDigit x0 = r1 ∧ h = h1) :=
  zC_of zk_Mo_isDigit (by decide) rfl rfl (Nat.le_of_ble_eq_true rfl) (zw_Mo_isDigit hd _ rfl ⟨rfl, rfl⟩)
theorem zb_Mo_isDigit (x0 : Int) : sh_Mo_isDigit x0 = 0 ∨ sh_Mo_isDigit x0 = 1 := by
  unfold sh_Mo_isDigit
  exact zb_Mo_isIn _ _ _
def sh_Mo_isLetter (x0 : Int) : Int := (if sh_Mo_isIn x0 97 122 = 0 then (if sh_Mo_isIn x0 65 90 = 0 then 0 else 1 : Int) else 1 : Int)
set_option maxRecDepth 100000 in
set_option maxHeartbeats 4000000 in
theorem zw_Mo_isLetter {l : Launch} {E : zE} {d : Nat} (hd : 2 ≤ d) (x0 : Int) {h : zHp} {Q : Int → zHp → Prop} {r0 : Int} (hF : sh_Mo_isLetter x0 = r0) (K : Q r0 h) : zW l E d zm_Mo_isLetter 0 [.inl x0] [] h Q := by
  rw [sh_Mo_isLetter] at hF
  refine z_iload rfl rfl ?_
  refine z_const rfl ?_
  refine z_const rfl ?_
  refine z_ivs1 (d' := d - 1) (As := [.inl x0, .inl 97, .inl 122]) rfl rfl (zf_Mo_isIn (by omega) _ _ _) rfl (by omega) rfl (fun r1 h2 hR3 hQ4 => ?_)
  obtain ⟨rfl, rfl⟩ := hQ4
  have hJ11 : zW l E d zm_Mo_isLetter 13 [zJk] [.inl (if sh_Mo_isIn x0 97 122 = 0 then (if sh_Mo_isIn x0 65 90 = 0 then 0 else 1 : Int) else 1 : Int)] h Q := by
    subst hF
    exact z_zret rfl rfl (zor_ite (zor_ite (Or.inl rfl) (Or.inr rfl)) (Or.inr rfl)) K
  refine z_zne rfl (fun c5 => ?_) (fun c5 => ?_)
  · refine z_const rfl ?_
    refine z_goto rfl ?_
    refine zsubL (L' := [zJk]) ⟨Or.inr rfl, trivial⟩ ?_
    exact zcast (by first | rfl | (simp only [if_neg c5] <;> rfl)) (by first | rfl | (simp only [if_neg c5] <;> rfl)) hJ11
  · refine z_iload rfl rfl ?_
    refine z_const rfl ?_
    refine z_const rfl ?_
    refine z_ivs1 (d' := d - 1) (As := [.inl x0, .inl 65, .inl 90]) rfl rfl (zf_Mo_isIn (by omega) _ _ _) rfl (by omega) rfl (fun r6 h7 hR8 hQ9 => ?_)
    obtain ⟨rfl, rfl⟩ := hQ9
    refine z_zeq rfl (fun c10 => ?_) (fun c10 => ?_)
    · refine z_const rfl ?_
      refine zsubL (L' := [zJk]) ⟨Or.inr rfl, trivial⟩ ?_
      exact zcast (by first | rfl | (simp only [if_pos c5, if_pos c10] <;> rfl)) (by first | rfl | (simp only [if_pos c5, if_pos c10] <;> rfl)) hJ11
    · refine z_const rfl ?_
      refine z_goto rfl ?_
      refine zsubL (L' := [zJk]) ⟨Or.inr rfl, trivial⟩ ?_
      exact zcast (by first | rfl | (simp only [if_pos c5, if_neg c10] <;> rfl)) (by first | rfl | (simp only [if_pos c5, if_neg c10] <;> rfl)) hJ11
set_option maxRecDepth 100000 in
theorem zf_Mo_isLetter {l : Launch} {E : zE} {d : Nat} (hd : 2 ≤ d) (x0 : Int) {h : zHp} : zC l E d zm_Mo_isLetter [.inl x0] h (fun r1 h1 => sh_Mo_isLetter x0 = r1 ∧ h = h1) :=
  zC_of zk_Mo_isLetter (by decide) rfl rfl (Nat.le_of_ble_eq_true rfl) (zw_Mo_isLetter hd _ rfl ⟨rfl, rfl⟩)
theorem zb_Mo_isLetter (x0 : Int) : sh_Mo_isLetter x0 = 0 ∨ sh_Mo_isLetter x0 = 1 := by
  unfold sh_Mo_isLetter
  exact zor_ite (zor_ite (Or.inl rfl) (Or.inr rfl)) (Or.inr rfl)
def sh_Mo_nextToken_L0 (N : Nat) : Nat → zHp → Option (zHp)
  | 0, _ => none
  | n + 1, h => zb1 (sh_Mo_byteAt N (h 85 7) h) fun r6 => if r6 = 32 then sh_Mo_nextToken_L0 N n (zst h 85 7 (w32 ((h 85 7) + 1))) else zb1 (sh_Mo_byteAt N (h 85 7) h) fun r14 => if r14 = 10 then sh_Mo_nextToken_L0 N n (zst h 85 7 (w32 ((h 85 7) + 1))) else some h
def sh_Mo_nextToken_L82 (N : Nat) : Nat → zHp → Option (zHp)
  | 0, _ => none
  | n + 1, h => zb1 (sh_Mo_byteAt N (h 85 7) h) fun r96 => if sh_Mo_isLetter r96 = 0 then some h else (if 7 ≤ w32 ((h 85 7) - (h 85 8)) then sh_Mo_nextToken_L82 N n (zst h 85 7 (w32 ((h 85 7) + 1))) else zb1 (sh_Mo_byteAt N (h 85 7) h) fun r109 => sh_Mo_nextToken_L82 N n (zst (zst h 85 11 (zlor (zlshl (h 85 11) 8) r109)) 85 7 (w32 ((zst h 85 11 (zlor (zlshl (h 85 11) 8) r109) 85 7) + 1))))
def sh_Mo_nextToken_L43 (N : Nat) : Nat → zHp → Option (zHp)
  | 0, _ => none
  | n + 1, h => zb1 (sh_Mo_byteAt N (h 85 7) h) fun r119 => if sh_Mo_isDigit r119 = 0 then some h else (if 100000 ≤ h 85 10 then sh_Mo_nextToken_L43 N n (zst h 85 7 (w32 ((h 85 7) + 1))) else zb1 (sh_Mo_byteAt N (h 85 7) h) fun r132 => sh_Mo_nextToken_L43 N n (zst (zst h 85 10 (w32 ((w32 ((w32 (10 * (h 85 10))) + r132)) - 48))) 85 7 (w32 ((zst h 85 10 (w32 ((w32 ((w32 (10 * (h 85 10))) + r132)) - 48)) 85 7) + 1))))
def sh_Mo_nextToken (N : Nat) (h : zHp) : Option zHp := zb1 (sh_Mo_nextToken_L0 N N h) fun h17 => zb1 (sh_Mo_byteAt N (zst h17 85 8 (h17 85 7) 85 7) (zst h17 85 8 (h17 85 7))) fun r23 => if 0 ≤ r23 then (if sh_Mo_isDigit r23 = 0 then (if sh_Mo_isLetter r23 = 0 then (if r23 = 60 then zb1 (sh_Mo_byteAt N (zst (zst (zst h17 85 8 (h17 85 7)) 85 7 (w32 ((zst h17 85 8 (h17 85 7) 85 7) + 1))) 85 9 (if (if r23 = 60 then 1 else (if r23 = 62 then 1 else (if r23 = 61 then 1 else (if r23 = 35 then 1 else (if r23 = 43 then 1 else (if r23 = 45 then 1 else (if r23 = 42 then 1 else (if r23 = 47 then 1 else (if r23 = 40 then 1 else (if r23 = 41 then 1 else (if r23 = 59 then 1 else 0 : Int) : Int) : Int) : Int) : Int) : Int) : Int) : Int) : Int) : Int) : Int) = 0 then 3 else r23 : Int) 85 7) (zst (zst (zst h17 85 8 (h17 85 7)) 85 7 (w32 ((zst h17 85 8 (h17 85 7) 85 7) + 1))) 85 9 (if (if r23 = 60 then 1 else (if r23 = 62 then 1 else (if r23 = 61 then 1 else (if r23 = 35 then 1 else (if r23 = 43 then 1 else (if r23 = 45 then 1 else (if r23 = 42 then 1 else (if r23 = 47 then 1 else (if r23 = 40 then 1 else (if r23 = 41 then 1 else (if r23 = 59 then 1 else 0 : Int) : Int) : Int) : Int) : Int) : Int) : Int) : Int) : Int) : Int) : Int) = 0 then 3 else r23 : Int))) fun r74 => if r74 = 61 then some (zst (zst (zst (zst (zst h17 85 8 (h17 85 7)) 85 7 (w32 ((zst h17 85 8 (h17 85 7) 85 7) + 1))) 85 9 (if (if r23 = 60 then 1 else (if r23 = 62 then 1 else (if r23 = 61 then 1 else (if r23 = 35 then 1 else (if r23 = 43 then 1 else (if r23 = 45 then 1 else (if r23 = 42 then 1 else (if r23 = 47 then 1 else (if r23 = 40 then 1 else (if r23 = 41 then 1 else (if r23 = 59 then 1 else 0 : Int) : Int) : Int) : Int) : Int) : Int) : Int) : Int) : Int) : Int) : Int) = 0 then 3 else r23 : Int)) 85 7 (w32 ((zst (zst (zst h17 85 8 (h17 85 7)) 85 7 (w32 ((zst h17 85 8 (h17 85 7) 85 7) + 1))) 85 9 (if (if r23 = 60 then 1 else (if r23 = 62 then 1 else (if r23 = 61 then 1 else (if r23 = 35 then 1 else (if r23 = 43 then 1 else (if r23 = 45 then 1 else (if r23 = 42 then 1 else (if r23 = 47 then 1 else (if r23 = 40 then 1 else (if r23 = 41 then 1 else (if r23 = 59 then 1 else 0 : Int) : Int) : Int) : Int) : Int) : Int) : Int) : Int) : Int) : Int) : Int) = 0 then 3 else r23 : Int) 85 7) + 1))) 85 9 (if r23 = 60 then 4 else 5 : Int)) else some (zst (zst (zst h17 85 8 (h17 85 7)) 85 7 (w32 ((zst h17 85 8 (h17 85 7) 85 7) + 1))) 85 9 (if (if r23 = 60 then 1 else (if r23 = 62 then 1 else (if r23 = 61 then 1 else (if r23 = 35 then 1 else (if r23 = 43 then 1 else (if r23 = 45 then 1 else (if r23 = 42 then 1 else (if r23 = 47 then 1 else (if r23 = 40 then 1 else (if r23 = 41 then 1 else (if r23 = 59 then 1 else 0 : Int) : Int) : Int) : Int) : Int) : Int) : Int) : Int) : Int) : Int) : Int) = 0 then 3 else r23 : Int)) else (if r23 = 62 then zb1 (sh_Mo_byteAt N (zst (zst (zst h17 85 8 (h17 85 7)) 85 7 (w32 ((zst h17 85 8 (h17 85 7) 85 7) + 1))) 85 9 (if (if r23 = 60 then 1 else (if r23 = 62 then 1 else (if r23 = 61 then 1 else (if r23 = 35 then 1 else (if r23 = 43 then 1 else (if r23 = 45 then 1 else (if r23 = 42 then 1 else (if r23 = 47 then 1 else (if r23 = 40 then 1 else (if r23 = 41 then 1 else (if r23 = 59 then 1 else 0 : Int) : Int) : Int) : Int) : Int) : Int) : Int) : Int) : Int) : Int) : Int) = 0 then 3 else r23 : Int) 85 7) (zst (zst (zst h17 85 8 (h17 85 7)) 85 7 (w32 ((zst h17 85 8 (h17 85 7) 85 7) + 1))) 85 9 (if (if r23 = 60 then 1 else (if r23 = 62 then 1 else (if r23 = 61 then 1 else (if r23 = 35 then 1 else (if r23 = 43 then 1 else (if r23 = 45 then 1 else (if r23 = 42 then 1 else (if r23 = 47 then 1 else (if r23 = 40 then 1 else (if r23 = 41 then 1 else (if r23 = 59 then 1 else 0 : Int) : Int) : Int) : Int) : Int) : Int) : Int) : Int) : Int) : Int) : Int) = 0 then 3 else r23 : Int))) fun r86 => if r86 = 61 then some (zst (zst (zst (zst (zst h17 85 8 (h17 85 7)) 85 7 (w32 ((zst h17 85 8 (h17 85 7) 85 7) + 1))) 85 9 (if (if r23 = 60 then 1 else (if r23 = 62 then 1 else (if r23 = 61 then 1 else (if r23 = 35 then 1 else (if r23 = 43 then 1 else (if r23 = 45 then 1 else (if r23 = 42 then 1 else (if r23 = 47 then 1 else (if r23 = 40 then 1 else (if r23 = 41 then 1 else (if r23 = 59 then 1 else 0 : Int) : Int) : Int) : Int) : Int) : Int) : Int) : Int) : Int) : Int) : Int) = 0 then 3 else r23 : Int)) 85 7 (w32 ((zst (zst (zst h17 85 8 (h17 85 7)) 85 7 (w32 ((zst h17 85 8 (h17 85 7) 85 7) + 1))) 85 9 (if (if r23 = 60 then 1 else (if r23 = 62 then 1 else (if r23 = 61 then 1 else (if r23 = 35 then 1 else (if r23 = 43 then 1 else (if r23 = 45 then 1 else (if r23 = 42 then 1 else (if r23 = 47 then 1 else (if r23 = 40 then 1 else (if r23 = 41 then 1 else (if r23 = 59 then 1 else 0 : Int) : Int) : Int) : Int) : Int) : Int) : Int) : Int) : Int) : Int) : Int) = 0 then 3 else r23 : Int) 85 7) + 1))) 85 9 (if r23 = 60 then 4 else 5 : Int)) else some (zst (zst (zst h17 85 8 (h17 85 7)) 85 7 (w32 ((zst h17 85 8 (h17 85 7) 85 7) + 1))) 85 9 (if (if r23 = 60 then 1 else (if r23 = 62 then 1 else (if r23 = 61 then 1 else (if r23 = 35 then 1 else (if r23 = 43 then 1 else (if r23 = 45 then 1 else (if r23 = 42 then 1 else (if r23 = 47 then 1 else (if r23 = 40 then 1 else (if r23 = 41 then 1 else (if r23 = 59 then 1 else 0 : Int) : Int) : Int) : Int) : Int) : Int) : Int) : Int) : Int) : Int) : Int) = 0 then 3 else r23 : Int)) else some (zst (zst (zst h17 85 8 (h17 85 7)) 85 7 (w32 ((zst h17 85 8 (h17 85 7) 85 7) + 1))) 85 9 (if (if r23 = 60 then 1 else (if r23 = 62 then 1 else (if r23 = 61 then 1 else (if r23 = 35 then 1 else (if r23 = 43 then 1 else (if r23 = 45 then 1 else (if r23 = 42 then 1 else (if r23 = 47 then 1 else (if r23 = 40 then 1 else (if r23 = 41 then 1 else (if r23 = 59 then 1 else 0 : Int) : Int) : Int) : Int) : Int) : Int) : Int) : Int) : Int) : Int) : Int) = 0 then 3 else r23 : Int)))) else zb1 (sh_Mo_nextToken_L82 N N (zst (zst (zst h17 85 8 (h17 85 7)) 85 9 2) 85 11 0)) fun h111 => if w32 ((h111 85 7) - (h111 85 8)) ≤ 7 then some h111 else some (zst h111 85 11 0)) else zb1 (sh_Mo_nextToken_L43 N N (zst (zst (zst h17 85 8 (h17 85 7)) 85 9 1) 85 10 0)) fun h134 => some h134) else some (zst (zst h17 85 8 (h17 85 7)) 85 9 0)
set_option maxRecDepth 100000 in
set_option maxHeartbeats 4000000 in
theorem zl_Mo_nextToken_L0 {l : Launch} {E : zE} {d : Nat} (hd : 3 ≤ d) (N : Nat) {Q : Int → zHp → Prop} {oh : zHp} (K1 : zW l E d zm_Mo_nextToken 19 [.inr (.inr 85), zJk, zJk] [] oh Q) : ∀ (n : Nat) (h : zHp), sh_Mo_nextToken_L0 N n h = some oh → zW l E d zm_Mo_nextToken 0 [.inr (.inr 85), zJk, zJk] [] h Q := by
  intro n
  induction n with
  | zero =>
    intro h hF
    cases (show (none : Option (zHp)) = some oh from hF)
  | succ n ih =>
    intro h hF
    rw [sh_Mo_nextToken_L0] at hF
    refine z_aload rfl rfl rfl ?_
    refine z_aload rfl rfl rfl ?_
    refine z_geti rfl rfl rfl rfl ?_
    obtain ⟨r6, hc5, hF⟩ := zbind1 hF
    refine z_inv1 (d' := d - 1) (As := [.inl (h 85 7)]) rfl rfl (zf_Mo_byteAt (by omega) N _ hc5) rfl rfl rfl (by omega) rfl (fun r1 h2 hR3 hQ4 => ?_)
    obtain ⟨rfl, rfl⟩ := hQ4
    refine z_const rfl ?_
    refine z_ceq rfl (fun c8 => ?_) (fun c8 => ?_)
    · rw [if_pos c8] at hF
      refine z_aload rfl rfl rfl ?_
      refine z_dup rfl rfl ?_
      refine z_geti rfl rfl rfl rfl ?_
      refine z_const rfl ?_
      refine z_iadd rfl ?_
      refine z_puti rfl rfl rfl rfl ?_
      refine z_goto rfl ?_
      exact ih _ hF
    · rw [if_neg c8] at hF
      refine z_aload rfl rfl rfl ?_
      refine z_aload rfl rfl rfl ?_
      refine z_geti rfl rfl rfl rfl ?_
      obtain ⟨r14, hc13, hF⟩ := zbind1 hF
      refine z_inv1 (d' := d - 1) (As := [.inl (h 85 7)]) rfl rfl (zf_Mo_byteAt (by omega) N _ hc13) rfl rfl rfl (by omega) rfl (fun r9 h10 hR11 hQ12 => ?_)
      obtain ⟨rfl, rfl⟩ := hQ12
      refine z_const rfl ?_
      refine z_cne rfl (fun c15 => ?_) (fun c15 => ?_)
      · rw [if_neg c15] at hF
        obtain rfl := Option.some.inj hF
        exact K1
      · rw [if_pos c15] at hF
        refine z_aload rfl rfl rfl ?_
        refine z_dup rfl rfl ?_
        refine z_geti rfl rfl rfl rfl ?_
        refine z_const rfl ?_
        refine z_iadd rfl ?_
        refine z_puti rfl rfl rfl rfl ?_
        refine z_goto rfl ?_
        exact ih _ hF
set_option maxRecDepth 100000 in
set_option maxHeartbeats 4000000 in
theorem zl_Mo_nextToken_L82 {l : Launch} {E : zE} {d : Nat} (hd : 3 ≤ d) (N : Nat) {Q : Int → zHp → Prop} {oh : zHp} (K1 : zW l E d zm_Mo_nextToken 114 [.inr (.inr 85), zJk, zJk] [] oh Q) : ∀ (n : Nat) (h : zHp), sh_Mo_nextToken_L82 N n h = some oh → zW l E d zm_Mo_nextToken 82 [.inr (.inr 85), zJk, zJk] [] h Q := by
  intro n
  induction n with
  | zero =>
    intro h hF
    cases (show (none : Option (zHp)) = some oh from hF)
  | succ n ih =>
    intro h hF
    rw [sh_Mo_nextToken_L82] at hF
    refine z_aload rfl rfl rfl ?_
    refine z_aload rfl rfl rfl ?_
    refine z_geti rfl rfl rfl rfl ?_
    obtain ⟨r96, hc95, hF⟩ := zbind1 hF
    refine z_inv1 (d' := d - 1) (As := [.inl (h 85 7)]) rfl rfl (zf_Mo_byteAt (by omega) N _ hc95) rfl rfl rfl (by omega) rfl (fun r91 h92 hR93 hQ94 => ?_)
    obtain ⟨rfl, rfl⟩ := hQ94
    refine z_ivs1 (d' := d - 1) (As := [.inl r96]) rfl rfl (zf_Mo_isLetter (by omega) _) rfl (by omega) rfl (fun r97 h98 hR99 hQ100 => ?_)
    obtain ⟨rfl, rfl⟩ := hQ100
    refine z_zeq rfl (fun c101 => ?_) (fun c101 => ?_)
    · rw [if_pos c101] at hF
      obtain rfl := Option.some.inj hF
      exact K1
    · rw [if_neg c101] at hF
      refine z_aload rfl rfl rfl ?_
      refine z_geti rfl rfl rfl rfl ?_
      refine z_aload rfl rfl rfl ?_
      refine z_geti rfl rfl rfl rfl ?_
      refine z_isub rfl ?_
      refine z_const rfl ?_
      refine z_cge rfl (fun c103 => ?_) (fun c103 => ?_)
      · rw [if_pos c103] at hF
        refine z_aload rfl rfl rfl ?_
        refine z_dup rfl rfl ?_
        refine z_geti rfl rfl rfl rfl ?_
        refine z_const rfl ?_
        refine z_iadd rfl ?_
        refine z_puti rfl rfl rfl rfl ?_
        refine z_goto rfl ?_
        exact ih _ hF
      · rw [if_neg c103] at hF
        refine z_aload rfl rfl rfl ?_
        refine z_aload rfl rfl rfl ?_
        refine z_getl rfl rfl rfl ?_
        refine z_const rfl ?_
        refine z_lshl rfl ?_
        refine z_aload rfl rfl rfl ?_
        refine z_aload rfl rfl rfl ?_
        refine z_geti rfl rfl rfl rfl ?_
        obtain ⟨r109, hc108, hF⟩ := zbind1 hF
        refine z_inv1 (d' := d - 1) (As := [.inl (h 85 7)]) rfl rfl (zf_Mo_byteAt (by omega) N _ hc108) rfl rfl rfl (by omega) rfl (fun r104 h105 hR106 hQ107 => ?_)
        obtain ⟨rfl, rfl⟩ := hQ107
        refine z_i2l rfl ?_
        refine z_lor rfl ?_
        refine z_putl rfl rfl rfl rfl ?_
        refine z_aload rfl rfl rfl ?_
        refine z_dup rfl rfl ?_
        refine z_geti rfl rfl rfl rfl ?_
        refine z_const rfl ?_
        refine z_iadd rfl ?_
        refine z_puti rfl rfl rfl rfl ?_
        refine z_goto rfl ?_
        exact ih _ hF
set_option maxRecDepth 100000 in
set_option maxHeartbeats 4000000 in
theorem zl_Mo_nextToken_L43 {l : Launch} {E : zE} {d : Nat} (hd : 3 ≤ d) (N : Nat) {Q : Int → zHp → Prop} {oh : zHp} (K1 : zW l E d zm_Mo_nextToken 201 [zJk, zJk, zJk] [] oh Q) : ∀ (n : Nat) (h : zHp), sh_Mo_nextToken_L43 N n h = some oh → zW l E d zm_Mo_nextToken 43 [.inr (.inr 85), zJk, zJk] [] h Q := by
  intro n
  induction n with
  | zero =>
    intro h hF
    cases (show (none : Option (zHp)) = some oh from hF)
  | succ n ih =>
    intro h hF
    rw [sh_Mo_nextToken_L43] at hF
    refine z_aload rfl rfl rfl ?_
    refine z_aload rfl rfl rfl ?_
    refine z_geti rfl rfl rfl rfl ?_
    obtain ⟨r119, hc118, hF⟩ := zbind1 hF
    refine z_inv1 (d' := d - 1) (As := [.inl (h 85 7)]) rfl rfl (zf_Mo_byteAt (by omega) N _ hc118) rfl rfl rfl (by omega) rfl (fun r114 h115 hR116 hQ117 => ?_)
    obtain ⟨rfl, rfl⟩ := hQ117
    refine z_ivs1 (d' := d - 1) (As := [.inl r119]) rfl rfl (zf_Mo_isDigit (by omega) _) rfl (by omega) rfl (fun r120 h121 hR122 hQ123 => ?_)
    obtain ⟨rfl, rfl⟩ := hQ123
    refine z_zeq rfl (fun c124 => ?_) (fun c124 => ?_)
    · rw [if_pos c124] at hF
      refine zsubL (L' := [zJk, zJk, zJk]) ⟨Or.inr rfl, Or.inl rfl, Or.inl rfl, trivial⟩ ?_
      obtain rfl := Option.some.inj hF
      exact K1
    · rw [if_neg c124] at hF
      refine z_aload rfl rfl rfl ?_
      refine z_geti rfl rfl rfl rfl ?_
      refine z_const rfl ?_
      refine z_cge rfl (fun c126 => ?_) (fun c126 => ?_)
      · rw [if_pos c126] at hF
        refine z_aload rfl rfl rfl ?_
        refine z_dup rfl rfl ?_
        refine z_geti rfl rfl rfl rfl ?_
        refine z_const rfl ?_
        refine z_iadd rfl ?_
        refine z_puti rfl rfl rfl rfl ?_
        refine z_goto rfl ?_
        exact ih _ hF
      · rw [if_neg c126] at hF
        refine z_aload rfl rfl rfl ?_
        refine z_const rfl ?_
        refine z_aload rfl rfl rfl ?_
        refine z_geti rfl rfl rfl rfl ?_
        refine z_imul rfl ?_
        refine z_aload rfl rfl rfl ?_
        refine z_aload rfl rfl rfl ?_
        refine z_geti rfl rfl rfl rfl ?_
        obtain ⟨r132, hc131, hF⟩ := zbind1 hF
        refine z_inv1 (d' := d - 1) (As := [.inl (h 85 7)]) rfl rfl (zf_Mo_byteAt (by omega) N _ hc131) rfl rfl rfl (by omega) rfl (fun r127 h128 hR129 hQ130 => ?_)
        obtain ⟨rfl, rfl⟩ := hQ130
        refine z_iadd rfl ?_
        refine z_const rfl ?_
        refine z_isub rfl ?_
        refine z_puti rfl rfl rfl rfl ?_
        refine z_aload rfl rfl rfl ?_
        refine z_dup rfl rfl ?_
        refine z_geti rfl rfl rfl rfl ?_
        refine z_const rfl ?_
        refine z_iadd rfl ?_
        refine z_puti rfl rfl rfl rfl ?_
        refine z_goto rfl ?_
        exact ih _ hF
set_option maxRecDepth 100000 in
set_option maxHeartbeats 4000000 in
theorem zw_Mo_nextToken {l : Launch} {E : zE} {d : Nat} (hd : 3 ≤ d) (N : Nat) {h : zHp} {Q : Int → zHp → Prop} {h0 : zHp} (hF : sh_Mo_nextToken N h = some h0) (K : Q 0 h0) : zW l E d zm_Mo_nextToken 0 [.inr (.inr 85), zJk, zJk] [] h Q := by
  rw [sh_Mo_nextToken] at hF
  obtain ⟨h17, hL16, hF⟩ := zbind1 hF
  refine zl_Mo_nextToken_L0 (by omega) N ?_ N _ hL16
  refine z_aload rfl rfl rfl ?_
  refine z_aload rfl rfl rfl ?_
  refine z_geti rfl rfl rfl rfl ?_
  refine z_puti rfl rfl rfl rfl ?_
  refine z_aload rfl rfl rfl ?_
  refine z_aload rfl rfl rfl ?_
  refine z_geti rfl rfl rfl rfl ?_
  obtain ⟨r23, hc22, hF⟩ := zbind1 hF
  refine z_inv1 (d' := d - 1) (As := [.inl (zst h17 85 8 (h17 85 7) 85 7)]) rfl rfl (zf_Mo_byteAt (by omega) N _ hc22) rfl rfl rfl (by omega) rfl (fun r18 h19 hR20 hQ21 => ?_)
  obtain ⟨rfl, rfl⟩ := hQ21
  refine z_istore rfl rfl rfl ?_
  refine z_iload rfl rfl ?_
  refine z_zge rfl (fun c35 => ?_) (fun c35 => ?_)
  · rw [if_pos c35] at hF
    refine z_iload rfl rfl ?_
    refine z_ivs1 (d' := d - 1) (As := [.inl r23]) rfl rfl (zf_Mo_isDigit (by omega) _) rfl (by omega) rfl (fun r36 h37 hR38 hQ39 => ?_)
    obtain ⟨rfl, rfl⟩ := hQ39
    refine z_zeq rfl (fun c46 => ?_) (fun c46 => ?_)
    · rw [if_pos c46] at hF
      refine z_iload rfl rfl ?_
      refine z_ivs1 (d' := d - 1) (As := [.inl r23]) rfl rfl (zf_Mo_isLetter (by omega) _) rfl (by omega) rfl (fun r47 h48 hR49 hQ50 => ?_)
      obtain ⟨rfl, rfl⟩ := hQ50
      refine z_zeq rfl (fun c52 => ?_) (fun c52 => ?_)
      · rw [if_pos c52] at hF
        refine z_aload rfl rfl rfl ?_
        refine z_dup rfl rfl ?_
        refine z_geti rfl rfl rfl rfl ?_
        refine z_const rfl ?_
        refine z_iadd rfl ?_
        refine z_puti rfl rfl rfl rfl ?_
        refine z_iload rfl rfl ?_
        refine z_const rfl ?_
        have hJ64 : zW l E d zm_Mo_nextToken 167 [.inr (.inr 85), .inl r23, zJk] [.inl (if r23 = 60 then 1 else (if r23 = 62 then 1 else (if r23 = 61 then 1 else (if r23 = 35 then 1 else (if r23 = 43 then 1 else (if r23 = 45 then 1 else (if r23 = 42 then 1 else (if r23 = 47 then 1 else (if r23 = 40 then 1 else (if r23 = 41 then 1 else (if r23 = 59 then 1 else 0 : Int) : Int) : Int) : Int) : Int) : Int) : Int) : Int) : Int) : Int) : Int)] (zst (zst h17 85 8 (h17 85 7)) 85 7 (w32 ((zst h17 85 8 (h17 85 7) 85 7) + 1))) Q := by
          refine z_istore rfl rfl rfl ?_
          refine z_aload rfl rfl rfl ?_
          refine z_iload rfl rfl ?_
          have hJ66 : zW l E d zm_Mo_nextToken 174 [.inr (.inr 85), .inl r23, zJk] [.inl (if (if r23 = 60 then 1 else (if r23 = 62 then 1 else (if r23 = 61 then 1 else (if r23 = 35 then 1 else (if r23 = 43 then 1 else (if r23 = 45 then 1 else (if r23 = 42 then 1 else (if r23 = 47 then 1 else (if r23 = 40 then 1 else (if r23 = 41 then 1 else (if r23 = 59 then 1 else 0 : Int) : Int) : Int) : Int) : Int) : Int) : Int) : Int) : Int) : Int) : Int) = 0 then 3 else r23 : Int), .inr (.inr 85)] (zst (zst h17 85 8 (h17 85 7)) 85 7 (w32 ((zst h17 85 8 (h17 85 7) 85 7) + 1))) Q := by
            refine z_puti rfl rfl rfl rfl ?_
            refine z_iload rfl rfl ?_
            refine z_const rfl ?_
            refine z_ceq rfl (fun c68 => ?_) (fun c68 => ?_)
            · rw [if_pos c68] at hF
              refine z_aload rfl rfl rfl ?_
              refine z_aload rfl rfl rfl ?_
              refine z_geti rfl rfl rfl rfl ?_
              obtain ⟨r74, hc73, hF⟩ := zbind1 hF
              refine z_inv1 (d' := d - 1) (As := [.inl (zst (zst (zst h17 85 8 (h17 85 7)) 85 7 (w32 ((zst h17 85 8 (h17 85 7) 85 7) + 1))) 85 9 (if (if r23 = 60 then 1 else (if r23 = 62 then 1 else (if r23 = 61 then 1 else (if r23 = 35 then 1 else (if r23 = 43 then 1 else (if r23 = 45 then 1 else (if r23 = 42 then 1 else (if r23 = 47 then 1 else (if r23 = 40 then 1 else (if r23 = 41 then 1 else (if r23 = 59 then 1 else 0 : Int) : Int) : Int) : Int) : Int) : Int) : Int) : Int) : Int) : Int) : Int) = 0 then 3 else r23 : Int) 85 7)]) rfl rfl (zf_Mo_byteAt (by omega) N _ hc73) rfl rfl rfl (by omega) rfl (fun r69 h70 hR71 hQ72 => ?_)
              obtain ⟨rfl, rfl⟩ := hQ72
              refine z_const rfl ?_
              refine z_cne rfl (fun c76 => ?_) (fun c76 => ?_)
              · rw [if_neg c76] at hF
                obtain rfl := Option.some.inj hF
                exact z_ret rfl rfl rfl K
              · rw [if_pos c76] at hF
                refine z_aload rfl rfl rfl ?_
                refine z_dup rfl rfl ?_
                refine z_geti rfl rfl rfl rfl ?_
                refine z_const rfl ?_
                refine z_iadd rfl ?_
                refine z_puti rfl rfl rfl rfl ?_
                refine z_aload rfl rfl rfl ?_
                refine z_iload rfl rfl ?_
                refine z_const rfl ?_
                have hJ78 : zW l E d zm_Mo_nextToken 200 [zJk, zJk, zJk] [.inl (if r23 = 60 then 4 else 5 : Int), .inr (.inr 85)] (zst (zst (zst (zst h17 85 8 (h17 85 7)) 85 7 (w32 ((zst h17 85 8 (h17 85 7) 85 7) + 1))) 85 9 (if (if r23 = 60 then 1 else (if r23 = 62 then 1 else (if r23 = 61 then 1 else (if r23 = 35 then 1 else (if r23 = 43 then 1 else (if r23 = 45 then 1 else (if r23 = 42 then 1 else (if r23 = 47 then 1 else (if r23 = 40 then 1 else (if r23 = 41 then 1 else (if r23 = 59 then 1 else 0 : Int) : Int) : Int) : Int) : Int) : Int) : Int) : Int) : Int) : Int) : Int) = 0 then 3 else r23 : Int)) 85 7 (w32 ((zst (zst (zst h17 85 8 (h17 85 7)) 85 7 (w32 ((zst h17 85 8 (h17 85 7) 85 7) + 1))) 85 9 (if (if r23 = 60 then 1 else (if r23 = 62 then 1 else (if r23 = 61 then 1 else (if r23 = 35 then 1 else (if r23 = 43 then 1 else (if r23 = 45 then 1 else (if r23 = 42 then 1 else (if r23 = 47 then 1 else (if r23 = 40 then 1 else (if r23 = 41 then 1 else (if r23 = 59 then 1 else 0 : Int) : Int) : Int) : Int) : Int) : Int) : Int) : Int) : Int) : Int) : Int) = 0 then 3 else r23 : Int) 85 7) + 1))) Q := by
                  refine z_puti rfl rfl rfl rfl ?_
                  obtain rfl := Option.some.inj hF
                  exact z_ret rfl rfl rfl K
                refine z_cne rfl (fun c77 => ?_) (fun c77 => ?_)
                · refine z_const rfl ?_
                  refine zsubL (L' := [zJk, zJk, zJk]) ⟨Or.inr rfl, Or.inr rfl, Or.inl rfl, trivial⟩ ?_
                  exact zcast (by first | rfl | (simp only [if_neg c77] <;> rfl)) (by first | rfl | (simp only [if_neg c77] <;> rfl)) hJ78
                · refine z_const rfl ?_
                  refine z_goto rfl ?_
                  refine zsubL (L' := [zJk, zJk, zJk]) ⟨Or.inr rfl, Or.inr rfl, Or.inl rfl, trivial⟩ ?_
                  exact zcast (by first | rfl | (simp only [if_pos c77] <;> rfl)) (by first | rfl | (simp only [if_pos c77] <;> rfl)) hJ78
            · rw [if_neg c68] at hF
              refine z_iload rfl rfl ?_
              refine z_const rfl ?_
              refine z_cne rfl (fun c80 => ?_) (fun c80 => ?_)
              · rw [if_neg c80] at hF
                obtain rfl := Option.some.inj hF
                exact z_ret rfl rfl rfl K
              · rw [if_pos c80] at hF
                refine z_aload rfl rfl rfl ?_
                refine z_aload rfl rfl rfl ?_
                refine z_geti rfl rfl rfl rfl ?_
                obtain ⟨r86, hc85, hF⟩ := zbind1 hF
                refine z_inv1 (d' := d - 1) (As := [.inl (zst (zst (zst h17 85 8 (h17 85 7)) 85 7 (w32 ((zst h17 85 8 (h17 85 7) 85 7) + 1))) 85 9 (if (if r23 = 60 then 1 else (if r23 = 62 then 1 else (if r23 = 61 then 1 else (if r23 = 35 then 1 else (if r23 = 43 then 1 else (if r23 = 45 then 1 else (if r23 = 42 then 1 else (if r23 = 47 then 1 else (if r23 = 40 then 1 else (if r23 = 41 then 1 else (if r23 = 59 then 1 else 0 : Int) : Int) : Int) : Int) : Int) : Int) : Int) : Int) : Int) : Int) : Int) = 0 then 3 else r23 : Int) 85 7)]) rfl rfl (zf_Mo_byteAt (by omega) N _ hc85) rfl rfl rfl (by omega) rfl (fun r81 h82 hR83 hQ84 => ?_)
                obtain ⟨rfl, rfl⟩ := hQ84
                refine z_const rfl ?_
                refine z_cne rfl (fun c88 => ?_) (fun c88 => ?_)
                · rw [if_neg c88] at hF
                  obtain rfl := Option.some.inj hF
                  exact z_ret rfl rfl rfl K
                · rw [if_pos c88] at hF
                  refine z_aload rfl rfl rfl ?_
                  refine z_dup rfl rfl ?_
                  refine z_geti rfl rfl rfl rfl ?_
                  refine z_const rfl ?_
                  refine z_iadd rfl ?_
                  refine z_puti rfl rfl rfl rfl ?_
                  refine z_aload rfl rfl rfl ?_
                  refine z_iload rfl rfl ?_
                  refine z_const rfl ?_
                  have hJ90 : zW l E d zm_Mo_nextToken 200 [zJk, zJk, zJk] [.inl (if r23 = 60 then 4 else 5 : Int), .inr (.inr 85)] (zst (zst (zst (zst h17 85 8 (h17 85 7)) 85 7 (w32 ((zst h17 85 8 (h17 85 7) 85 7) + 1))) 85 9 (if (if r23 = 60 then 1 else (if r23 = 62 then 1 else (if r23 = 61 then 1 else (if r23 = 35 then 1 else (if r23 = 43 then 1 else (if r23 = 45 then 1 else (if r23 = 42 then 1 else (if r23 = 47 then 1 else (if r23 = 40 then 1 else (if r23 = 41 then 1 else (if r23 = 59 then 1 else 0 : Int) : Int) : Int) : Int) : Int) : Int) : Int) : Int) : Int) : Int) : Int) = 0 then 3 else r23 : Int)) 85 7 (w32 ((zst (zst (zst h17 85 8 (h17 85 7)) 85 7 (w32 ((zst h17 85 8 (h17 85 7) 85 7) + 1))) 85 9 (if (if r23 = 60 then 1 else (if r23 = 62 then 1 else (if r23 = 61 then 1 else (if r23 = 35 then 1 else (if r23 = 43 then 1 else (if r23 = 45 then 1 else (if r23 = 42 then 1 else (if r23 = 47 then 1 else (if r23 = 40 then 1 else (if r23 = 41 then 1 else (if r23 = 59 then 1 else 0 : Int) : Int) : Int) : Int) : Int) : Int) : Int) : Int) : Int) : Int) : Int) = 0 then 3 else r23 : Int) 85 7) + 1))) Q := by
                    refine z_puti rfl rfl rfl rfl ?_
                    obtain rfl := Option.some.inj hF
                    exact z_ret rfl rfl rfl K
                  refine z_cne rfl (fun c89 => ?_) (fun c89 => ?_)
                  · refine z_const rfl ?_
                    refine zsubL (L' := [zJk, zJk, zJk]) ⟨Or.inr rfl, Or.inr rfl, Or.inl rfl, trivial⟩ ?_
                    exact zcast (by first | rfl | (simp only [if_neg c89] <;> rfl)) (by first | rfl | (simp only [if_neg c89] <;> rfl)) hJ90
                  · refine z_const rfl ?_
                    refine z_goto rfl ?_
                    refine zsubL (L' := [zJk, zJk, zJk]) ⟨Or.inr rfl, Or.inr rfl, Or.inl rfl, trivial⟩ ?_
                    exact zcast (by first | rfl | (simp only [if_pos c89] <;> rfl)) (by first | rfl | (simp only [if_pos c89] <;> rfl)) hJ90
          refine z_zeq rfl (fun c65 => ?_) (fun c65 => ?_)
          · refine z_const rfl ?_
            refine zsubL (L' := [.inr (.inr 85), .inl r23, zJk]) ⟨Or.inl rfl, Or.inl rfl, Or.inr rfl, trivial⟩ ?_
            exact zcast (by first | rfl | (simp only [if_pos c65] <;> rfl)) (by first | rfl | (simp only [if_pos c65] <;> rfl)) hJ66
          · refine z_iload rfl rfl ?_
            refine z_goto rfl ?_
            refine zsubL (L' := [.inr (.inr 85), .inl r23, zJk]) ⟨Or.inl rfl, Or.inl rfl, Or.inr rfl, trivial⟩ ?_
            exact zcast (by first | rfl | (simp only [if_neg c65] <;> rfl)) (by first | rfl | (simp only [if_neg c65] <;> rfl)) hJ66
        refine z_ceq rfl (fun c53 => ?_) (fun c53 => ?_)
        · refine z_const rfl ?_
          refine z_goto rfl ?_
          exact zcast (by first | rfl | (simp only [if_pos c53] <;> rfl)) (by first | rfl | (simp only [if_pos c53] <;> rfl)) hJ64
        · refine z_iload rfl rfl ?_
          refine z_const rfl ?_
          refine z_ceq rfl (fun c54 => ?_) (fun c54 => ?_)
          · refine z_const rfl ?_
            refine z_goto rfl ?_
            exact zcast (by first | rfl | (simp only [if_neg c53, if_pos c54] <;> rfl)) (by first | rfl | (simp only [if_neg c53, if_pos c54] <;> rfl)) hJ64
          · refine z_iload rfl rfl ?_
            refine z_const rfl ?_
            refine z_ceq rfl (fun c55 => ?_) (fun c55 => ?_)
            · refine z_const rfl ?_
              refine z_goto rfl ?_
              exact zcast (by first | rfl | (simp only [if_neg c53, if_neg c54, if_pos c55] <;> rfl)) (by first | rfl | (simp only [if_neg c53, if_neg c54, if_pos c55] <;> rfl)) hJ64
            · refine z_iload rfl rfl ?_
              refine z_const rfl ?_
              refine z_ceq rfl (fun c56 => ?_) (fun c56 => ?_)
              · refine z_const rfl ?_
                refine z_goto rfl ?_
                exact zcast (by first | rfl | (simp only [if_neg c53, if_neg c54, if_neg c55, if_pos c56] <;> rfl)) (by first | rfl | (simp only [if_neg c53, if_neg c54, if_neg c55, if_pos c56] <;> rfl)) hJ64
              · refine z_iload rfl rfl ?_
                refine z_const rfl ?_
                refine z_ceq rfl (fun c57 => ?_) (fun c57 => ?_)
                · refine z_const rfl ?_
                  refine z_goto rfl ?_
                  exact zcast (by first | rfl | (simp only [if_neg c53, if_neg c54, if_neg c55, if_neg c56, if_pos c57] <;> rfl)) (by first | rfl | (simp only [if_neg c53, if_neg c54, if_neg c55, if_neg c56, if_pos c57] <;> rfl)) hJ64
                · refine z_iload rfl rfl ?_
                  refine z_const rfl ?_
                  refine z_ceq rfl (fun c58 => ?_) (fun c58 => ?_)
                  · refine z_const rfl ?_
                    refine z_goto rfl ?_
                    exact zcast (by first | rfl | (simp only [if_neg c53, if_neg c54, if_neg c55, if_neg c56, if_neg c57, if_pos c58] <;> rfl)) (by first | rfl | (simp only [if_neg c53, if_neg c54, if_neg c55, if_neg c56, if_neg c57, if_pos c58] <;> rfl)) hJ64
                  · refine z_iload rfl rfl ?_
                    refine z_const rfl ?_
                    refine z_ceq rfl (fun c59 => ?_) (fun c59 => ?_)
                    · refine z_const rfl ?_
                      refine z_goto rfl ?_
                      exact zcast (by first | rfl | (simp only [if_neg c53, if_neg c54, if_neg c55, if_neg c56, if_neg c57, if_neg c58, if_pos c59] <;> rfl)) (by first | rfl | (simp only [if_neg c53, if_neg c54, if_neg c55, if_neg c56, if_neg c57, if_neg c58, if_pos c59] <;> rfl)) hJ64
                    · refine z_iload rfl rfl ?_
                      refine z_const rfl ?_
                      refine z_ceq rfl (fun c60 => ?_) (fun c60 => ?_)
                      · refine z_const rfl ?_
                        refine z_goto rfl ?_
                        exact zcast (by first | rfl | (simp only [if_neg c53, if_neg c54, if_neg c55, if_neg c56, if_neg c57, if_neg c58, if_neg c59, if_pos c60] <;> rfl)) (by first | rfl | (simp only [if_neg c53, if_neg c54, if_neg c55, if_neg c56, if_neg c57, if_neg c58, if_neg c59, if_pos c60] <;> rfl)) hJ64
                      · refine z_iload rfl rfl ?_
                        refine z_const rfl ?_
                        refine z_ceq rfl (fun c61 => ?_) (fun c61 => ?_)
                        · refine z_const rfl ?_
                          refine z_goto rfl ?_
                          exact zcast (by first | rfl | (simp only [if_neg c53, if_neg c54, if_neg c55, if_neg c56, if_neg c57, if_neg c58, if_neg c59, if_neg c60, if_pos c61] <;> rfl)) (by first | rfl | (simp only [if_neg c53, if_neg c54, if_neg c55, if_neg c56, if_neg c57, if_neg c58, if_neg c59, if_neg c60, if_pos c61] <;> rfl)) hJ64
                        · refine z_iload rfl rfl ?_
                          refine z_const rfl ?_
                          refine z_ceq rfl (fun c62 => ?_) (fun c62 => ?_)
                          · refine z_const rfl ?_
                            refine z_goto rfl ?_
                            exact zcast (by first | rfl | (simp only [if_neg c53, if_neg c54, if_neg c55, if_neg c56, if_neg c57, if_neg c58, if_neg c59, if_neg c60, if_neg c61, if_pos c62] <;> rfl)) (by first | rfl | (simp only [if_neg c53, if_neg c54, if_neg c55, if_neg c56, if_neg c57, if_neg c58, if_neg c59, if_neg c60, if_neg c61, if_pos c62] <;> rfl)) hJ64
                          · refine z_iload rfl rfl ?_
                            refine z_const rfl ?_
                            refine z_cne rfl (fun c63 => ?_) (fun c63 => ?_)
                            · refine z_const rfl ?_
                              exact zcast (by first | rfl | (simp only [if_neg c53, if_neg c54, if_neg c55, if_neg c56, if_neg c57, if_neg c58, if_neg c59, if_neg c60, if_neg c61, if_neg c62, if_neg c63] <;> rfl)) (by first | rfl | (simp only [if_neg c53, if_neg c54, if_neg c55, if_neg c56, if_neg c57, if_neg c58, if_neg c59, if_neg c60, if_neg c61, if_neg c62, if_neg c63] <;> rfl)) hJ64
                            · refine z_const rfl ?_
                              refine z_goto rfl ?_
                              exact zcast (by first | rfl | (simp only [if_neg c53, if_neg c54, if_neg c55, if_neg c56, if_neg c57, if_neg c58, if_neg c59, if_neg c60, if_neg c61, if_neg c62, if_pos c63] <;> rfl)) (by first | rfl | (simp only [if_neg c53, if_neg c54, if_neg c55, if_neg c56, if_neg c57, if_neg c58, if_neg c59, if_neg c60, if_neg c61, if_neg c62, if_pos c63] <;> rfl)) hJ64
      · rw [if_neg c52] at hF
        refine z_aload rfl rfl rfl ?_
        refine z_const rfl ?_
        refine z_puti rfl rfl rfl rfl ?_
        refine z_aload rfl rfl rfl ?_
        refine z_lconst rfl ?_
        refine z_putl rfl rfl rfl rfl ?_
        refine zsubL (L' := [.inr (.inr 85), zJk, zJk]) ⟨Or.inl rfl, Or.inr rfl, Or.inl rfl, trivial⟩ ?_
        obtain ⟨h111, hL110, hF⟩ := zbind1 hF
        refine zl_Mo_nextToken_L82 (by omega) N ?_ N _ hL110
        refine z_aload rfl rfl rfl ?_
        refine z_geti rfl rfl rfl rfl ?_
        refine z_aload rfl rfl rfl ?_
        refine z_geti rfl rfl rfl rfl ?_
        refine z_isub rfl ?_
        refine z_const rfl ?_
        refine z_cle rfl (fun c113 => ?_) (fun c113 => ?_)
        · rw [if_pos c113] at hF
          obtain rfl := Option.some.inj hF
          exact z_ret rfl rfl rfl K
        · rw [if_neg c113] at hF
          refine z_aload rfl rfl rfl ?_
          refine z_lconst rfl ?_
          refine z_putl rfl rfl rfl rfl ?_
          refine z_goto rfl ?_
          obtain rfl := Option.some.inj hF
          exact z_ret rfl rfl rfl K
    · rw [if_neg c46] at hF
      refine z_aload rfl rfl rfl ?_
      refine z_const rfl ?_
      refine z_puti rfl rfl rfl rfl ?_
      refine z_aload rfl rfl rfl ?_
      refine z_const rfl ?_
      refine z_puti rfl rfl rfl rfl ?_
      refine zsubL (L' := [.inr (.inr 85), zJk, zJk]) ⟨Or.inl rfl, Or.inr rfl, Or.inl rfl, trivial⟩ ?_
      obtain ⟨h134, hL133, hF⟩ := zbind1 hF
      refine zl_Mo_nextToken_L43 (by omega) N ?_ N _ hL133
      obtain rfl := Option.some.inj hF
      exact z_ret rfl rfl rfl K
  · rw [if_neg c35] at hF
    refine z_aload rfl rfl rfl ?_
    refine z_const rfl ?_
    refine z_puti rfl rfl rfl rfl ?_
    refine z_goto rfl ?_
    obtain rfl := Option.some.inj hF
    exact z_ret rfl rfl rfl K
set_option maxRecDepth 100000 in
theorem zf_Mo_nextToken {l : Launch} {E : zE} {d : Nat} (hd : 3 ≤ d) (N : Nat) {h : zHp} {h0 : zHp} (hF : sh_Mo_nextToken N h = some h0) : zC l E d zm_Mo_nextToken [.inr (.inr 85)] h (fun r1 h1 => 0 = r1 ∧ h0 = h1) :=
  zC_of zk_Mo_nextToken (by decide) rfl rfl (Nat.le_of_ble_eq_true rfl) (zw_Mo_nextToken hd N hF ⟨rfl, rfl⟩)
def sh_Mo_w3 (x0 x1 x2 : Int) : Int := zlor (zlshl (zlor (zlshl x0 8) x1) 8) x2
set_option maxRecDepth 100000 in
set_option maxHeartbeats 4000000 in
theorem zw_Mo_w3 {l : Launch} {E : zE} {d : Nat} (hd : 1 ≤ d) (x0 x1 x2 : Int) {h : zHp} {Q : Int → zHp → Prop} {r0 : Int} (hF : sh_Mo_w3 x0 x1 x2 = r0) (K : Q r0 h) : zW l E d zm_Mo_w3 0 [.inl x0, .inl x1, .inl x2] [] h Q := by
  rw [sh_Mo_w3] at hF
  refine z_iload rfl rfl ?_
  refine z_i2l rfl ?_
  refine z_const rfl ?_
  refine z_lshl rfl ?_
  refine z_iload rfl rfl ?_
  refine z_i2l rfl ?_
  refine z_lor rfl ?_
  refine z_const rfl ?_
  refine z_lshl rfl ?_
  refine z_iload rfl rfl ?_
  refine z_i2l rfl ?_
  refine z_lor rfl ?_
  subst hF
  exact z_lret rfl rfl K
set_option maxRecDepth 100000 in
theorem zf_Mo_w3 {l : Launch} {E : zE} {d : Nat} (hd : 1 ≤ d) (x0 x1 x2 : Int) {h : zHp} : zC l E d zm_Mo_w3 [.inl x0, .inl x1, .inl x2] h (fun r1 h1 => sh_Mo_w3 x0 x1 x2 = r1 ∧ h = h1) :=
  zC_of zk_Mo_w3 (by decide) rfl rfl (Nat.le_of_ble_eq_true rfl) (zw_Mo_w3 hd _ _ _ rfl ⟨rfl, rfl⟩)
def sh_Mo_w5 (x0 x1 x2 x3 x4 : Int) : Int := zlor (zlshl (zlor (zlshl (sh_Mo_w3 x0 x1 x2) 8) x3) 8) x4
set_option maxRecDepth 100000 in
set_option maxHeartbeats 4000000 in
theorem zw_Mo_w5 {l : Launch} {E : zE} {d : Nat} (hd : 2 ≤ d) (x0 x1 x2 x3 x4 : Int) {h : zHp} {Q : Int → zHp → Prop} {r0 : Int} (hF : sh_Mo_w5 x0 x1 x2 x3 x4 = r0) (K : Q r0 h) : zW l E d zm_Mo_w5 0 [.inl x0, .inl x1, .inl x2, .inl x3, .inl x4] [] h Q := by
  rw [sh_Mo_w5] at hF
  refine z_iload rfl rfl ?_
  refine z_iload rfl rfl ?_
  refine z_iload rfl rfl ?_
  refine z_ivs2 (d' := d - 1) (As := [.inl x0, .inl x1, .inl x2]) rfl rfl (zf_Mo_w3 (by omega) _ _ _) rfl (by omega) rfl (fun r1 h2 hR3 hQ4 => ?_)
  obtain ⟨rfl, rfl⟩ := hQ4
  refine z_const rfl ?_
  refine z_lshl rfl ?_
  refine z_iload rfl rfl ?_
  refine z_i2l rfl ?_
  refine z_lor rfl ?_
  refine z_const rfl ?_
  refine z_lshl rfl ?_
  refine z_iload rfl rfl ?_
  refine z_i2l rfl ?_
  refine z_lor rfl ?_
  subst hF
  exact z_lret rfl rfl K
set_option maxRecDepth 100000 in
theorem zf_Mo_w5 {l : Launch} {E : zE} {d : Nat} (hd : 2 ≤ d) (x0 x1 x2 x3 x4 : Int) {h : zHp} : zC l E d zm_Mo_w5 [.inl x0, .inl x1, .inl x2, .inl x3, .inl x4] h (fun r1 h1 => sh_Mo_w5 x0 x1 x2 x3 x4 = r1 ∧ h = h1) :=
  zC_of zk_Mo_w5 (by decide) rfl rfl (Nat.le_of_ble_eq_true rfl) (zw_Mo_w5 hd _ _ _ _ _ rfl ⟨rfl, rfl⟩)
def sh_Mo_isWord (x1 : Int) (h : zHp) : Int := (if h 85 9 = 2 then (if zcmp (h 85 11) x1 = 0 then 1 else 0 : Int) else 0 : Int)
set_option maxRecDepth 100000 in
set_option maxHeartbeats 4000000 in
theorem zw_Mo_isWord {l : Launch} {E : zE} {d : Nat} (hd : 1 ≤ d) (x1 : Int) {h : zHp} {Q : Int → zHp → Prop} {r0 : Int} (hF : sh_Mo_isWord x1 h = r0) (K : Q r0 h) : zW l E d zm_Mo_isWord 0 [.inr (.inr 85), .inr (.inl x1), zJk] [] h Q := by
  rw [sh_Mo_isWord] at hF
  refine z_aload rfl rfl rfl ?_
  refine z_geti rfl rfl rfl rfl ?_
  refine z_const rfl ?_
  have hJ3 : zW l E d zm_Mo_isWord 12 [zJk, zJk, zJk] [.inl (if h 85 9 = 2 then (if zcmp (h 85 11) x1 = 0 then 1 else 0 : Int) else 0 : Int)] h Q := by
    subst hF
    exact z_zret rfl rfl (zor_ite (zor_ite (Or.inr rfl) (Or.inl rfl)) (Or.inl rfl)) K
  refine z_cne rfl (fun c1 => ?_) (fun c1 => ?_)
  · refine z_const rfl ?_
    refine zsubL (L' := [zJk, zJk, zJk]) ⟨Or.inr rfl, Or.inr rfl, Or.inl rfl, trivial⟩ ?_
    exact zcast (by first | rfl | (simp only [if_neg c1] <;> rfl)) (by first | rfl | (simp only [if_neg c1] <;> rfl)) hJ3
  · refine z_aload rfl rfl rfl ?_
    refine z_getl rfl rfl rfl ?_
    refine z_lload rfl rfl ?_
    refine z_lcmp rfl ?_
    refine z_zne rfl (fun c2 => ?_) (fun c2 => ?_)
    · refine z_const rfl ?_
      refine zsubL (L' := [zJk, zJk, zJk]) ⟨Or.inr rfl, Or.inr rfl, Or.inl rfl, trivial⟩ ?_
      exact zcast (by first | rfl | (simp only [if_pos c1, if_neg c2] <;> rfl)) (by first | rfl | (simp only [if_pos c1, if_neg c2] <;> rfl)) hJ3
    · refine z_const rfl ?_
      refine z_goto rfl ?_
      refine zsubL (L' := [zJk, zJk, zJk]) ⟨Or.inr rfl, Or.inr rfl, Or.inl rfl, trivial⟩ ?_
      exact zcast (by first | rfl | (simp only [if_pos c1, if_pos c2] <;> rfl)) (by first | rfl | (simp only [if_pos c1, if_pos c2] <;> rfl)) hJ3
set_option maxRecDepth 100000 in
theorem zf_Mo_isWord {l : Launch} {E : zE} {d : Nat} (hd : 1 ≤ d) (x1 : Int) {h : zHp} : zC l E d zm_Mo_isWord [.inr (.inr 85), .inr (.inl x1)] h (fun r1 h1 => sh_Mo_isWord x1 h = r1 ∧ h = h1) :=
  zC_of zk_Mo_isWord (by decide) rfl rfl (Nat.le_of_ble_eq_true rfl) (zw_Mo_isWord hd _ rfl ⟨rfl, rfl⟩)
theorem zb_Mo_isWord (x1 : Int) (h : zHp) : sh_Mo_isWord x1 h = 0 ∨ sh_Mo_isWord x1 h = 1 := by
  unfold sh_Mo_isWord
  exact zor_ite (zor_ite (Or.inr rfl) (Or.inl rfl)) (Or.inl rfl)
def sh_Mo_w6 (x0 x1 x2 x3 x4 x5 : Int) : Int := zlor (zlshl (sh_Mo_w5 x0 x1 x2 x3 x4) 8) x5
set_option maxRecDepth 100000 in
set_option maxHeartbeats 4000000 in
theorem zw_Mo_w6 {l : Launch} {E : zE} {d : Nat} (hd : 3 ≤ d) (x0 x1 x2 x3 x4 x5 : Int) {h : zHp} {Q : Int → zHp → Prop} {r0 : Int} (hF : sh_Mo_w6 x0 x1 x2 x3 x4 x5 = r0) (K : Q r0 h) : zW l E d zm_Mo_w6 0 [.inl x0, .inl x1, .inl x2, .inl x3, .inl x4, .inl x5] [] h Q := by
  rw [sh_Mo_w6] at hF
  refine z_iload rfl rfl ?_
  refine z_iload rfl rfl ?_
  refine z_iload rfl rfl ?_
  refine z_iload rfl rfl ?_
  refine z_iload rfl rfl ?_
  refine z_ivs2 (d' := d - 1) (As := [.inl x0, .inl x1, .inl x2, .inl x3, .inl x4]) rfl rfl (zf_Mo_w5 (by omega) _ _ _ _ _) rfl (by omega) rfl (fun r1 h2 hR3 hQ4 => ?_)
  obtain ⟨rfl, rfl⟩ := hQ4
  refine z_const rfl ?_
  refine z_lshl rfl ?_
  refine z_iload rfl rfl ?_
  refine z_i2l rfl ?_
  refine z_lor rfl ?_
  subst hF
  exact z_lret rfl rfl K
set_option maxRecDepth 100000 in
theorem zf_Mo_w6 {l : Launch} {E : zE} {d : Nat} (hd : 3 ≤ d) (x0 x1 x2 x3 x4 x5 : Int) {h : zHp} : zC l E d zm_Mo_w6 [.inl x0, .inl x1, .inl x2, .inl x3, .inl x4, .inl x5] h (fun r1 h1 => sh_Mo_w6 x0 x1 x2 x3 x4 x5 = r1 ∧ h = h1) :=
  zC_of zk_Mo_w6 (by decide) rfl rfl (Nat.le_of_ble_eq_true rfl) (zw_Mo_w6 hd _ _ _ _ _ _ rfl ⟨rfl, rfl⟩)
def sh_Mo_w4 (x0 x1 x2 x3 : Int) : Int := zlor (zlshl (sh_Mo_w3 x0 x1 x2) 8) x3
set_option maxRecDepth 100000 in
set_option maxHeartbeats 4000000 in
theorem zw_Mo_w4 {l : Launch} {E : zE} {d : Nat} (hd : 2 ≤ d) (x0 x1 x2 x3 : Int) {h : zHp} {Q : Int → zHp → Prop} {r0 : Int} (hF : sh_Mo_w4 x0 x1 x2 x3 = r0) (K : Q r0 h) : zW l E d zm_Mo_w4 0 [.inl x0, .inl x1, .inl x2, .inl x3] [] h Q := by
  rw [sh_Mo_w4] at hF
  refine z_iload rfl rfl ?_
  refine z_iload rfl rfl ?_
  refine z_iload rfl rfl ?_
  refine z_ivs2 (d' := d - 1) (As := [.inl x0, .inl x1, .inl x2]) rfl rfl (zf_Mo_w3 (by omega) _ _ _) rfl (by omega) rfl (fun r1 h2 hR3 hQ4 => ?_)
  obtain ⟨rfl, rfl⟩ := hQ4
  refine z_const rfl ?_
  refine z_lshl rfl ?_
  refine z_iload rfl rfl ?_
  refine z_i2l rfl ?_
  refine z_lor rfl ?_
  subst hF
  exact z_lret rfl rfl K
set_option maxRecDepth 100000 in
theorem zf_Mo_w4 {l : Launch} {E : zE} {d : Nat} (hd : 2 ≤ d) (x0 x1 x2 x3 : Int) {h : zHp} : zC l E d zm_Mo_w4 [.inl x0, .inl x1, .inl x2, .inl x3] h (fun r1 h1 => sh_Mo_w4 x0 x1 x2 x3 = r1 ∧ h = h1) :=
  zC_of zk_Mo_w4 (by decide) rfl rfl (Nat.le_of_ble_eq_true rfl) (zw_Mo_w4 hd _ _ _ _ rfl ⟨rfl, rfl⟩)
def sh_Mo_sortOf (h : zHp) : Int := (if sh_Mo_isWord (sh_Mo_w5 104 101 101 100 115) h = 0 then (if sh_Mo_isWord (sh_Mo_w6 115 101 99 111 110 100) h = 0 then (if sh_Mo_isWord (sh_Mo_w4 115 108 105 112) h = 0 then (if sh_Mo_isWord (sh_Mo_w5 99 97 108 108 115) h = 0 then (if sh_Mo_isWord (sh_Mo_w4 119 111 114 107) h = 0 then (-1) else 4 : Int) else 3 : Int) else 2) else 1) else 0)
set_option maxRecDepth 100000 in
set_option maxHeartbeats 4000000 in
theorem zw_Mo_sortOf {l : Launch} {E : zE} {d : Nat} (hd : 4 ≤ d) {h : zHp} {Q : Int → zHp → Prop} {r0 : Int} (hF : sh_Mo_sortOf h = r0) (K : Q r0 h) : zW l E d zm_Mo_sortOf 0 [.inr (.inr 85)] [] h Q := by
  rw [sh_Mo_sortOf] at hF
  refine z_aload rfl rfl rfl ?_
  refine z_const rfl ?_
  refine z_const rfl ?_
  refine z_const rfl ?_
  refine z_const rfl ?_
  refine z_const rfl ?_
  refine z_ivs2 (d' := d - 1) (As := [.inl 104, .inl 101, .inl 101, .inl 100, .inl 115]) rfl rfl (zf_Mo_w5 (by omega) _ _ _ _ _) rfl (by omega) rfl (fun r1 h2 hR3 hQ4 => ?_)
  obtain ⟨rfl, rfl⟩ := hQ4
  refine z_inv1 (d' := d - 1) (As := [.inr (.inl (sh_Mo_w5 104 101 101 100 115))]) rfl rfl (zf_Mo_isWord (by omega) _) rfl rfl rfl (by omega) rfl (fun r5 h6 hR7 hQ8 => ?_)
  obtain ⟨rfl, rfl⟩ := hQ8
  refine z_zeq rfl (fun c9 => ?_) (fun c9 => ?_)
  · rw [if_pos c9] at hF
    refine z_aload rfl rfl rfl ?_
    refine z_const rfl ?_
    refine z_const rfl ?_
    refine z_const rfl ?_
    refine z_const rfl ?_
    refine z_const rfl ?_
    refine z_const rfl ?_
    refine z_ivs2 (d' := d - 1) (As := [.inl 115, .inl 101, .inl 99, .inl 111, .inl 110, .inl 100]) rfl rfl (zf_Mo_w6 (by omega) _ _ _ _ _ _) rfl (by omega) rfl (fun r10 h11 hR12 hQ13 => ?_)
    obtain ⟨rfl, rfl⟩ := hQ13
    refine z_inv1 (d' := d - 1) (As := [.inr (.inl (sh_Mo_w6 115 101 99 111 110 100))]) rfl rfl (zf_Mo_isWord (by omega) _) rfl rfl rfl (by omega) rfl (fun r14 h15 hR16 hQ17 => ?_)
    obtain ⟨rfl, rfl⟩ := hQ17
    refine z_zeq rfl (fun c18 => ?_) (fun c18 => ?_)
    · rw [if_pos c18] at hF
      refine z_aload rfl rfl rfl ?_
      refine z_const rfl ?_
      refine z_const rfl ?_
      refine z_const rfl ?_
      refine z_const rfl ?_
      refine z_ivs2 (d' := d - 1) (As := [.inl 115, .inl 108, .inl 105, .inl 112]) rfl rfl (zf_Mo_w4 (by omega) _ _ _ _) rfl (by omega) rfl (fun r19 h20 hR21 hQ22 => ?_)
      obtain ⟨rfl, rfl⟩ := hQ22
      refine z_inv1 (d' := d - 1) (As := [.inr (.inl (sh_Mo_w4 115 108 105 112))]) rfl rfl (zf_Mo_isWord (by omega) _) rfl rfl rfl (by omega) rfl (fun r23 h24 hR25 hQ26 => ?_)
      obtain ⟨rfl, rfl⟩ := hQ26
      refine z_zeq rfl (fun c27 => ?_) (fun c27 => ?_)
      · rw [if_pos c27] at hF
        refine z_aload rfl rfl rfl ?_
        refine z_const rfl ?_
        refine z_const rfl ?_
        refine z_const rfl ?_
        refine z_const rfl ?_
        refine z_const rfl ?_
        refine z_ivs2 (d' := d - 1) (As := [.inl 99, .inl 97, .inl 108, .inl 108, .inl 115]) rfl rfl (zf_Mo_w5 (by omega) _ _ _ _ _) rfl (by omega) rfl (fun r28 h29 hR30 hQ31 => ?_)
        obtain ⟨rfl, rfl⟩ := hQ31
        refine z_inv1 (d' := d - 1) (As := [.inr (.inl (sh_Mo_w5 99 97 108 108 115))]) rfl rfl (zf_Mo_isWord (by omega) _) rfl rfl rfl (by omega) rfl (fun r32 h33 hR34 hQ35 => ?_)
        obtain ⟨rfl, rfl⟩ := hQ35
        have hJ46 : zW l E d zm_Mo_sortOf 55 [zJk] [.inl (if sh_Mo_isWord (sh_Mo_w5 99 97 108 108 115) h = 0 then (if sh_Mo_isWord (sh_Mo_w4 119 111 114 107) h = 0 then (-1) else 4 : Int) else 3 : Int)] h Q := by
          subst hF
          exact z_iret rfl rfl K
        refine z_zeq rfl (fun c36 => ?_) (fun c36 => ?_)
        · refine z_aload rfl rfl rfl ?_
          refine z_const rfl ?_
          refine z_const rfl ?_
          refine z_const rfl ?_
          refine z_const rfl ?_
          refine z_ivs2 (d' := d - 1) (As := [.inl 119, .inl 111, .inl 114, .inl 107]) rfl rfl (zf_Mo_w4 (by omega) _ _ _ _) rfl (by omega) rfl (fun r37 h38 hR39 hQ40 => ?_)
          obtain ⟨rfl, rfl⟩ := hQ40
          refine z_inv1 (d' := d - 1) (As := [.inr (.inl (sh_Mo_w4 119 111 114 107))]) rfl rfl (zf_Mo_isWord (by omega) _) rfl rfl rfl (by omega) rfl (fun r41 h42 hR43 hQ44 => ?_)
          obtain ⟨rfl, rfl⟩ := hQ44
          refine z_zeq rfl (fun c45 => ?_) (fun c45 => ?_)
          · refine z_const rfl ?_
            refine zsubL (L' := [zJk]) ⟨Or.inr rfl, trivial⟩ ?_
            exact zcast (by first | rfl | (simp only [if_pos c36, if_pos c45] <;> rfl)) (by first | rfl | (simp only [if_pos c36, if_pos c45] <;> rfl)) hJ46
          · refine z_const rfl ?_
            refine z_goto rfl ?_
            refine zsubL (L' := [zJk]) ⟨Or.inr rfl, trivial⟩ ?_
            exact zcast (by first | rfl | (simp only [if_pos c36, if_neg c45] <;> rfl)) (by first | rfl | (simp only [if_pos c36, if_neg c45] <;> rfl)) hJ46
        · refine z_const rfl ?_
          refine z_goto rfl ?_
          refine zsubL (L' := [zJk]) ⟨Or.inr rfl, trivial⟩ ?_
          exact zcast (by first | rfl | (simp only [if_neg c36] <;> rfl)) (by first | rfl | (simp only [if_neg c36] <;> rfl)) hJ46
      · rw [if_neg c27] at hF
        refine z_const rfl ?_
        subst hF
        exact z_iret rfl rfl K
    · rw [if_neg c18] at hF
      refine z_const rfl ?_
      subst hF
      exact z_iret rfl rfl K
  · rw [if_neg c9] at hF
    refine z_const rfl ?_
    subst hF
    exact z_iret rfl rfl K
set_option maxRecDepth 100000 in
theorem zf_Mo_sortOf {l : Launch} {E : zE} {d : Nat} (hd : 4 ≤ d) {h : zHp} : zC l E d zm_Mo_sortOf [.inr (.inr 85)] h (fun r1 h1 => sh_Mo_sortOf h = r1 ∧ h = h1) :=
  zC_of zk_Mo_sortOf (by decide) rfl rfl (Nat.le_of_ble_eq_true rfl) (zw_Mo_sortOf hd rfl ⟨rfl, rfl⟩)
def sh_Mo_hasParen_L2 (N : Nat) (h : zHp) : Nat → Int → Option ((Nat) ⊕ (Nat))
  | 0, _ => none
  | n + 1, x1 => (if h 85 17 ≤ x1 then some (.inr 0) else if 0 ≤ x1 ∧ x1 < 160 then if h 90 x1.toNat = 40 then some (.inl 0) else sh_Mo_hasParen_L2 N h n (w32 (x1 + 1)) else none)
def sh_Mo_hasParen (N : Nat) (h : zHp) : Option Int := zb1 (sh_Mo_hasParen_L2 N h N 0) fun w5 => zsum2 w5 (zcu1 fun y6 => some 1) (zcu1 fun y7 => some 0)
set_option maxRecDepth 100000 in
set_option maxHeartbeats 4000000 in
theorem zl_Mo_hasParen_L2 {l : Launch} {E : zE} {d : Nat} (hd : 1 ≤ d) (N : Nat) {h : zHp} {Q : Int → zHp → Prop} {res : (Nat) ⊕ (Nat)} (K1 : ∀ (on : Nat), res = .inl on → zW l E d zm_Mo_hasParen 12 [zJk, zJk] [] h Q) (K2 : ∀ (on : Nat), res = .inr on → zW l E d zm_Mo_hasParen 16 [zJk, zJk] [] h Q) : ∀ (n : Nat) (x1 : Int) , sh_Mo_hasParen_L2 N h n x1 = some res → zW l E d zm_Mo_hasParen 2 [.inr (.inr 85), .inl x1] [] h Q := by
  intro n
  induction n with
  | zero =>
    intro x1 hF
    cases (show (none : Option ((Nat) ⊕ (Nat))) = some res from hF)
  | succ n ih =>
    intro x1 hF
    rw [sh_Mo_hasParen_L2] at hF
    refine z_iload rfl rfl ?_
    refine z_aload rfl rfl rfl ?_
    refine z_geti rfl rfl rfl rfl ?_
    refine z_cge rfl (fun c1 => ?_) (fun c1 => ?_)
    · rw [if_pos c1] at hF
      refine zsubL (L' := [zJk, zJk]) ⟨Or.inr rfl, Or.inr rfl, trivial⟩ ?_
      exact K2 _ (Option.some.inj hF).symm
    · rw [if_neg c1] at hF
      refine z_aload rfl rfl rfl ?_
      refine z_getr (r := 90) rfl rfl rfl rfl ?_
      refine z_iload rfl rfl ?_
      obtain ⟨g2, hF⟩ := zguard hF
      refine z_iald rfl rfl g2.1 g2.2 ?_
      refine z_const rfl ?_
      refine z_cne rfl (fun c3 => ?_) (fun c3 => ?_)
      · rw [if_neg c3] at hF
        refine z_iinc rfl rfl rfl ?_
        refine z_goto rfl ?_
        exact ih _ hF
      · rw [if_pos c3] at hF
        refine zsubL (L' := [zJk, zJk]) ⟨Or.inr rfl, Or.inr rfl, trivial⟩ ?_
        exact K1 _ (Option.some.inj hF).symm
set_option maxRecDepth 100000 in
set_option maxHeartbeats 4000000 in
theorem zw_Mo_hasParen {l : Launch} {E : zE} {d : Nat} (hd : 1 ≤ d) (N : Nat) {h : zHp} {Q : Int → zHp → Prop} {r0 : Int} (hF : sh_Mo_hasParen N h = some r0) (K : Q r0 h) : zW l E d zm_Mo_hasParen 0 [.inr (.inr 85), zJk] [] h Q := by
  rw [sh_Mo_hasParen] at hF
  refine z_const rfl ?_
  refine z_istore rfl rfl rfl ?_
  obtain ⟨w5, hL4, hF⟩ := zbind1 hF
  rcases w5 with y6 | y7
  · refine zl_Mo_hasParen_L2 (by omega) N (fun q8 e9 => ?_) (fun _ z => by cases z) N _ hL4
    obtain rfl := zinl2_0_1 e9
    replace hF := zs2_0_1 hF
    refine z_const rfl ?_
    obtain rfl := Option.some.inj hF
    exact z_zret rfl rfl (Or.inr rfl) K
  · refine zl_Mo_hasParen_L2 (by omega) N (fun _ z => by cases z) (fun q10 e11 => ?_) N _ hL4
    obtain rfl := zinl2_1_1 e11
    replace hF := zs2_1_1 hF
    refine z_const rfl ?_
    obtain rfl := Option.some.inj hF
    exact z_zret rfl rfl (Or.inl rfl) K
set_option maxRecDepth 100000 in
theorem zf_Mo_hasParen {l : Launch} {E : zE} {d : Nat} (hd : 1 ≤ d) (N : Nat) {h : zHp} {r0 : Int} (hF : sh_Mo_hasParen N h = some r0) : zC l E d zm_Mo_hasParen [.inr (.inr 85)] h (fun r1 h1 => r0 = r1 ∧ h = h1) :=
  zC_of zk_Mo_hasParen (by decide) rfl rfl (Nat.le_of_ble_eq_true rfl) (zw_Mo_hasParen hd N hF ⟨rfl, rfl⟩)
def sh_Mo_goesOn (N : Nat) (h : zHp) : Option Int := (if h 85 9 = 43 then some 1 else (if h 85 9 = 45 then some 1 else (if h 85 9 = 42 then some 1 else (if h 85 9 = 47 then some 1 else (if h 85 9 = 41 then zb1 (sh_Mo_hasParen N h) fun r26 => some (if r26 = 0 then 0 else 1 : Int) else some 0)))))
set_option maxRecDepth 100000 in
set_option maxHeartbeats 4000000 in
theorem zw_Mo_goesOn {l : Launch} {E : zE} {d : Nat} (hd : 2 ≤ d) (N : Nat) {h : zHp} {Q : Int → zHp → Prop} {r0 : Int} (hF : sh_Mo_goesOn N h = some r0) (K : Q r0 h) : zW l E d zm_Mo_goesOn 0 [.inr (.inr 85)] [] h Q := by
  rw [sh_Mo_goesOn] at hF
  refine z_aload rfl rfl rfl ?_
  refine z_geti rfl rfl rfl rfl ?_
  refine z_const rfl ?_
  refine z_ceq rfl (fun c6 => ?_) (fun c6 => ?_)
  · rw [if_pos c6] at hF
    refine z_const rfl ?_
    refine z_goto rfl ?_
    obtain rfl := Option.some.inj hF
    exact z_zret rfl rfl (Or.inr rfl) K
  · rw [if_neg c6] at hF
    refine z_aload rfl rfl rfl ?_
    refine z_geti rfl rfl rfl rfl ?_
    refine z_const rfl ?_
    refine z_ceq rfl (fun c11 => ?_) (fun c11 => ?_)
    · rw [if_pos c11] at hF
      refine z_const rfl ?_
      refine z_goto rfl ?_
      obtain rfl := Option.some.inj hF
      exact z_zret rfl rfl (Or.inr rfl) K
    · rw [if_neg c11] at hF
      refine z_aload rfl rfl rfl ?_
      refine z_geti rfl rfl rfl rfl ?_
      refine z_const rfl ?_
      refine z_ceq rfl (fun c15 => ?_) (fun c15 => ?_)
      · rw [if_pos c15] at hF
        refine z_const rfl ?_
        refine z_goto rfl ?_
        obtain rfl := Option.some.inj hF
        exact z_zret rfl rfl (Or.inr rfl) K
      · rw [if_neg c15] at hF
        refine z_aload rfl rfl rfl ?_
        refine z_geti rfl rfl rfl rfl ?_
        refine z_const rfl ?_
        refine z_ceq rfl (fun c18 => ?_) (fun c18 => ?_)
        · rw [if_pos c18] at hF
          refine z_const rfl ?_
          refine z_goto rfl ?_
          obtain rfl := Option.some.inj hF
          exact z_zret rfl rfl (Or.inr rfl) K
        · rw [if_neg c18] at hF
          refine z_aload rfl rfl rfl ?_
          refine z_geti rfl rfl rfl rfl ?_
          refine z_const rfl ?_
          refine z_cne rfl (fun c20 => ?_) (fun c20 => ?_)
          · rw [if_neg c20] at hF
            refine z_const rfl ?_
            obtain rfl := Option.some.inj hF
            exact z_zret rfl rfl (Or.inl rfl) K
          · rw [if_pos c20] at hF
            refine z_aload rfl rfl rfl ?_
            obtain ⟨r26, hc25, hF⟩ := zbind1 hF
            refine z_inv1 (d' := d - 1) (As := []) rfl rfl (zf_Mo_hasParen (by omega) N hc25) rfl rfl rfl (by omega) rfl (fun r21 h22 hR23 hQ24 => ?_)
            obtain ⟨rfl, rfl⟩ := hQ24
            have hJ28 : zW l E d zm_Mo_goesOn 26 [zJk] [.inl (if r26 = 0 then 0 else 1 : Int)] h Q := by
              obtain rfl := Option.some.inj hF
              exact z_zret rfl rfl (zor_ite (Or.inl rfl) (Or.inr rfl)) K
            refine z_zeq rfl (fun c27 => ?_) (fun c27 => ?_)
            · refine z_const rfl ?_
              refine zsubL (L' := [zJk]) ⟨Or.inr rfl, trivial⟩ ?_
              exact zcast (by first | rfl | (simp only [if_pos c27] <;> rfl)) (by first | rfl | (simp only [if_pos c27] <;> rfl)) hJ28
            · refine z_const rfl ?_
              refine z_goto rfl ?_
              refine zsubL (L' := [zJk]) ⟨Or.inr rfl, trivial⟩ ?_
              exact zcast (by first | rfl | (simp only [if_neg c27] <;> rfl)) (by first | rfl | (simp only [if_neg c27] <;> rfl)) hJ28
set_option maxRecDepth 100000 in
theorem zf_Mo_goesOn {l : Launch} {E : zE} {d : Nat} (hd : 2 ≤ d) (N : Nat) {h : zHp} {r0 : Int} (hF : sh_Mo_goesOn N h = some r0) : zC l E d zm_Mo_goesOn [.inr (.inr 85)] h (fun r1 h1 => r0 = r1 ∧ h = h1) :=
  zC_of zk_Mo_goesOn (by decide) rfl rfl (Nat.le_of_ble_eq_true rfl) (zw_Mo_goesOn hd N hF ⟨rfl, rfl⟩)
def sh_Mo_emit (N : Nat) (x1 x2 : Int) (h : zHp) : Option zHp := if 0 ≤ w32 ((w32 ((h 85 12) + 20)) + (w32 (2 * (h 85 14)))) ∧ w32 ((w32 ((h 85 12) + 20)) + (w32 (2 * (h 85 14)))) < 2500 then if 0 ≤ w32 ((w32 ((w32 ((zst h 88 (w32 ((w32 ((h 85 12) + 20)) + (w32 (2 * (h 85 14))))).toNat x1 85 12) + 20)) + (w32 (2 * (zst h 88 (w32 ((w32 ((h 85 12) + 20)) + (w32 (2 * (h 85 14))))).toNat x1 85 14))))) + 1) ∧ w32 ((w32 ((w32 ((zst h 88 (w32 ((w32 ((h 85 12) + 20)) + (w32 (2 * (h 85 14))))).toNat x1 85 12) + 20)) + (w32 (2 * (zst h 88 (w32 ((w32 ((h 85 12) + 20)) + (w32 (2 * (h 85 14))))).toNat x1 85 14))))) + 1) < 2500 then some (zst (zst (zst h 88 (w32 ((w32 ((h 85 12) + 20)) + (w32 (2 * (h 85 14))))).toNat x1) 88 (w32 ((w32 ((w32 ((zst h 88 (w32 ((w32 ((h 85 12) + 20)) + (w32 (2 * (h 85 14))))).toNat x1 85 12) + 20)) + (w32 (2 * (zst h 88 (w32 ((w32 ((h 85 12) + 20)) + (w32 (2 * (h 85 14))))).toNat x1 85 14))))) + 1)).toNat x2) 85 14 (w32 ((zst (zst h 88 (w32 ((w32 ((h 85 12) + 20)) + (w32 (2 * (h 85 14))))).toNat x1) 88 (w32 ((w32 ((w32 ((zst h 88 (w32 ((w32 ((h 85 12) + 20)) + (w32 (2 * (h 85 14))))).toNat x1 85 12) + 20)) + (w32 (2 * (zst h 88 (w32 ((w32 ((h 85 12) + 20)) + (w32 (2 * (h 85 14))))).toNat x1 85 14))))) + 1)).toNat x2 85 14) + 1))) else none else none
set_option maxRecDepth 100000 in
set_option maxHeartbeats 4000000 in
theorem zw_Mo_emit {l : Launch} {E : zE} {d : Nat} (hd : 1 ≤ d) (N : Nat) (x1 x2 : Int) {h : zHp} {Q : Int → zHp → Prop} {h0 : zHp} (hF : sh_Mo_emit N x1 x2 h = some h0) (K : Q 0 h0) : zW l E d zm_Mo_emit 0 [.inr (.inr 85), .inl x1, .inl x2] [] h Q := by
  rw [sh_Mo_emit] at hF
  refine z_aload rfl rfl rfl ?_
  refine z_getr (r := 88) rfl rfl rfl rfl ?_
  refine z_aload rfl rfl rfl ?_
  refine z_geti rfl rfl rfl rfl ?_
  refine z_const rfl ?_
  refine z_iadd rfl ?_
  refine z_const rfl ?_
  refine z_aload rfl rfl rfl ?_
  refine z_geti rfl rfl rfl rfl ?_
  refine z_imul rfl ?_
  refine z_iadd rfl ?_
  refine z_iload rfl rfl ?_
  obtain ⟨g1, hF⟩ := zguard hF
  refine z_iast rfl rfl g1.1 g1.2 ?_
  refine z_aload rfl rfl rfl ?_
  refine z_getr (r := 88) rfl rfl rfl rfl ?_
  refine z_aload rfl rfl rfl ?_
  refine z_geti rfl rfl rfl rfl ?_
  refine z_const rfl ?_
  refine z_iadd rfl ?_
  refine z_const rfl ?_
  refine z_aload rfl rfl rfl ?_
  refine z_geti rfl rfl rfl rfl ?_
  refine z_imul rfl ?_
  refine z_iadd rfl ?_
  refine z_const rfl ?_
  refine z_iadd rfl ?_
  refine z_iload rfl rfl ?_
  obtain ⟨g2, hF⟩ := zguard hF
  refine z_iast rfl rfl g2.1 g2.2 ?_
  refine z_aload rfl rfl rfl ?_
  refine z_dup rfl rfl ?_
  refine z_geti rfl rfl rfl rfl ?_
  refine z_const rfl ?_
  refine z_iadd rfl ?_
  refine z_puti rfl rfl rfl rfl ?_
  obtain rfl := Option.some.inj hF
  exact z_ret rfl rfl rfl K
set_option maxRecDepth 100000 in
theorem zf_Mo_emit {l : Launch} {E : zE} {d : Nat} (hd : 1 ≤ d) (N : Nat) (x1 x2 : Int) {h : zHp} {h0 : zHp} (hF : sh_Mo_emit N x1 x2 h = some h0) : zC l E d zm_Mo_emit [.inr (.inr 85), .inl x1, .inl x2] h (fun r1 h1 => 0 = r1 ∧ h0 = h1) :=
  zC_of zk_Mo_emit (by decide) rfl rfl (Nat.le_of_ble_eq_true rfl) (zw_Mo_emit hd N _ _ hF ⟨rfl, rfl⟩)
def sh_Mo_settle_L0 (N : Nat) : Nat → Int → zHp → Option (zHp)
  | 0, _, _ => none
  | n + 1, x1, h => (if h 85 17 ≤ 0 then some h else if 0 ≤ w32 ((h 85 17) - 1) ∧ w32 ((h 85 17) - 1) < 160 then if 40 ≤ h 90 (w32 ((h 85 17) - 1)).toNat then some h else if 0 ≤ w32 ((h 85 17) - 1) ∧ w32 ((h 85 17) - 1) < 160 then if h 90 (w32 ((h 85 17) - 1)).toNat < x1 then some h else if 0 ≤ zst h 85 17 (w32 ((h 85 17) - 1)) 85 17 ∧ zst h 85 17 (w32 ((h 85 17) - 1)) 85 17 < 160 then zb1 (sh_Mo_emit N ((zst h 85 17 (w32 ((h 85 17) - 1))) 90 (zst h 85 17 (w32 ((h 85 17) - 1)) 85 17).toNat) 0 (zst h 85 17 (w32 ((h 85 17) - 1)))) fun h12 => sh_Mo_settle_L0 N n x1 h12 else none else none else none)
def sh_Mo_settle (N : Nat) (x1 : Int) (h : zHp) : Option zHp := zb1 (sh_Mo_settle_L0 N N x1 h) fun h14 => some h14
set_option maxRecDepth 100000 in
set_option maxHeartbeats 4000000 in
theorem zl_Mo_settle_L0 {l : Launch} {E : zE} {d : Nat} (hd : 2 ≤ d) (N : Nat) {Q : Int → zHp → Prop} {oh : zHp} (K1 : zW l E d zm_Mo_settle 36 [zJk, zJk] [] oh Q) : ∀ (n : Nat) (x1 : Int) (h : zHp), sh_Mo_settle_L0 N n x1 h = some oh → zW l E d zm_Mo_settle 0 [.inr (.inr 85), .inl x1] [] h Q := by
  intro n
  induction n with
  | zero =>
    intro x1 h hF
    cases (show (none : Option (zHp)) = some oh from hF)
  | succ n ih =>
    intro x1 h hF
    rw [sh_Mo_settle_L0] at hF
    refine z_aload rfl rfl rfl ?_
    refine z_geti rfl rfl rfl rfl ?_
    refine z_zle rfl (fun c1 => ?_) (fun c1 => ?_)
    · rw [if_pos c1] at hF
      refine zsubL (L' := [zJk, zJk]) ⟨Or.inr rfl, Or.inr rfl, trivial⟩ ?_
      obtain rfl := Option.some.inj hF
      exact K1
    · rw [if_neg c1] at hF
      refine z_aload rfl rfl rfl ?_
      refine z_getr (r := 90) rfl rfl rfl rfl ?_
      refine z_aload rfl rfl rfl ?_
      refine z_geti rfl rfl rfl rfl ?_
      refine z_const rfl ?_
      refine z_isub rfl ?_
      obtain ⟨g2, hF⟩ := zguard hF
      refine z_iald rfl rfl g2.1 g2.2 ?_
      refine z_const rfl ?_
      refine z_cge rfl (fun c3 => ?_) (fun c3 => ?_)
      · rw [if_pos c3] at hF
        refine zsubL (L' := [zJk, zJk]) ⟨Or.inr rfl, Or.inr rfl, trivial⟩ ?_
        obtain rfl := Option.some.inj hF
        exact K1
      · rw [if_neg c3] at hF
        refine z_aload rfl rfl rfl ?_
        refine z_getr (r := 90) rfl rfl rfl rfl ?_
        refine z_aload rfl rfl rfl ?_
        refine z_geti rfl rfl rfl rfl ?_
        refine z_const rfl ?_
        refine z_isub rfl ?_
        obtain ⟨g4, hF⟩ := zguard hF
        refine z_iald rfl rfl g4.1 g4.2 ?_
        refine z_iload rfl rfl ?_
        refine z_clt rfl (fun c5 => ?_) (fun c5 => ?_)
        · rw [if_pos c5] at hF
          refine zsubL (L' := [zJk, zJk]) ⟨Or.inr rfl, Or.inr rfl, trivial⟩ ?_
          obtain rfl := Option.some.inj hF
          exact K1
        · rw [if_neg c5] at hF
          refine z_aload rfl rfl rfl ?_
          refine z_dup rfl rfl ?_
          refine z_geti rfl rfl rfl rfl ?_
          refine z_const rfl ?_
          refine z_isub rfl ?_
          refine z_puti rfl rfl rfl rfl ?_
          refine z_aload rfl rfl rfl ?_
          refine z_aload rfl rfl rfl ?_
          refine z_getr (r := 90) rfl rfl rfl rfl ?_
          refine z_aload rfl rfl rfl ?_
          refine z_geti rfl rfl rfl rfl ?_
          obtain ⟨g6, hF⟩ := zguard hF
          refine z_iald rfl rfl g6.1 g6.2 ?_
          refine z_const rfl ?_
          obtain ⟨h12, hc11, hF⟩ := zbind1 hF
          refine z_inv0 (d' := d - 1) (As := [.inl ((zst h 85 17 (w32 ((h 85 17) - 1))) 90 (zst h 85 17 (w32 ((h 85 17) - 1)) 85 17).toNat), .inl 0]) rfl rfl (zf_Mo_emit (by omega) N _ _ hc11) rfl rfl rfl (by omega) rfl (fun r7 h8 hR9 hQ10 => ?_)
          obtain ⟨rfl, rfl⟩ := hQ10
          refine z_goto rfl ?_
          exact ih _ _ hF
set_option maxRecDepth 100000 in
set_option maxHeartbeats 4000000 in
theorem zw_Mo_settle {l : Launch} {E : zE} {d : Nat} (hd : 2 ≤ d) (N : Nat) (x1 : Int) {h : zHp} {Q : Int → zHp → Prop} {h0 : zHp} (hF : sh_Mo_settle N x1 h = some h0) (K : Q 0 h0) : zW l E d zm_Mo_settle 0 [.inr (.inr 85), .inl x1] [] h Q := by
  rw [sh_Mo_settle] at hF
  obtain ⟨h14, hL13, hF⟩ := zbind1 hF
  refine zl_Mo_settle_L0 (by omega) N ?_ N _ _ hL13
  obtain rfl := Option.some.inj hF
  exact z_ret rfl rfl rfl K
set_option maxRecDepth 100000 in
theorem zf_Mo_settle {l : Launch} {E : zE} {d : Nat} (hd : 2 ≤ d) (N : Nat) (x1 : Int) {h : zHp} {h0 : zHp} (hF : sh_Mo_settle N x1 h = some h0) : zC l E d zm_Mo_settle [.inr (.inr 85), .inl x1] h (fun r1 h1 => 0 = r1 ∧ h0 = h1) :=
  zC_of zk_Mo_settle (by decide) rfl rfl (Nat.le_of_ble_eq_true rfl) (zw_Mo_settle hd N _ hF ⟨rfl, rfl⟩)
def sh_Mo_push (N : Nat) (x1 : Int) (h : zHp) : Option zHp := if 0 ≤ h 85 17 ∧ h 85 17 < 160 then some (zst (zst h 90 (h 85 17).toNat x1) 85 17 (w32 ((zst h 90 (h 85 17).toNat x1 85 17) + 1))) else none
set_option maxRecDepth 100000 in
set_option maxHeartbeats 4000000 in
theorem zw_Mo_push {l : Launch} {E : zE} {d : Nat} (hd : 1 ≤ d) (N : Nat) (x1 : Int) {h : zHp} {Q : Int → zHp → Prop} {h0 : zHp} (hF : sh_Mo_push N x1 h = some h0) (K : Q 0 h0) : zW l E d zm_Mo_push 0 [.inr (.inr 85), .inl x1] [] h Q := by
  rw [sh_Mo_push] at hF
  refine z_aload rfl rfl rfl ?_
  refine z_getr (r := 90) rfl rfl rfl rfl ?_
  refine z_aload rfl rfl rfl ?_
  refine z_geti rfl rfl rfl rfl ?_
  refine z_iload rfl rfl ?_
  obtain ⟨g1, hF⟩ := zguard hF
  refine z_iast rfl rfl g1.1 g1.2 ?_
  refine z_aload rfl rfl rfl ?_
  refine z_dup rfl rfl ?_
  refine z_geti rfl rfl rfl rfl ?_
  refine z_const rfl ?_
  refine z_iadd rfl ?_
  refine z_puti rfl rfl rfl rfl ?_
  obtain rfl := Option.some.inj hF
  exact z_ret rfl rfl rfl K
set_option maxRecDepth 100000 in
theorem zf_Mo_push {l : Launch} {E : zE} {d : Nat} (hd : 1 ≤ d) (N : Nat) (x1 : Int) {h : zHp} {h0 : zHp} (hF : sh_Mo_push N x1 h = some h0) : zC l E d zm_Mo_push [.inr (.inr 85), .inl x1] h (fun r1 h1 => 0 = r1 ∧ h0 = h1) :=
  zC_of zk_Mo_push (by decide) rfl rfl (Nat.le_of_ble_eq_true rfl) (zw_Mo_push hd N _ hF ⟨rfl, rfl⟩)
def sh_Mo_whole_L3 (N : Nat) : Nat → zHp → Option (zHp)
  | 0, _ => none
  | n + 1, h => (if h 85 17 ≤ 0 then some h else if 0 ≤ w32 ((h 85 17) - 1) ∧ w32 ((h 85 17) - 1) < 160 then if h 90 (w32 ((h 85 17) - 1)).toNat = 2 then zb1 (sh_Mo_emit N 2 0 (zst (zst h 85 17 (w32 ((h 85 17) - 1))) 85 18 (w32 ((zst h 85 17 (w32 ((h 85 17) - 1)) 85 18) - 1)))) fun h9 => sh_Mo_whole_L3 N n h9 else some h else none)
def sh_Mo_whole (N : Nat) (h : zHp) : Option zHp := zb1 (sh_Mo_whole_L3 N N (zst h 85 19 1)) fun h11 => some h11
set_option maxRecDepth 100000 in
set_option maxHeartbeats 4000000 in
theorem zl_Mo_whole_L3 {l : Launch} {E : zE} {d : Nat} (hd : 2 ≤ d) (N : Nat) {Q : Int → zHp → Prop} {oh : zHp} (K1 : zW l E d zm_Mo_whole 32 [zJk] [] oh Q) : ∀ (n : Nat) (h : zHp), sh_Mo_whole_L3 N n h = some oh → zW l E d zm_Mo_whole 3 [.inr (.inr 85)] [] h Q := by
  intro n
  induction n with
  | zero =>
    intro h hF
    cases (show (none : Option (zHp)) = some oh from hF)
  | succ n ih =>
    intro h hF
    rw [sh_Mo_whole_L3] at hF
    refine z_aload rfl rfl rfl ?_
    refine z_geti rfl rfl rfl rfl ?_
    refine z_zle rfl (fun c1 => ?_) (fun c1 => ?_)
    · rw [if_pos c1] at hF
      refine zsubL (L' := [zJk]) ⟨Or.inr rfl, trivial⟩ ?_
      obtain rfl := Option.some.inj hF
      exact K1
    · rw [if_neg c1] at hF
      refine z_aload rfl rfl rfl ?_
      refine z_getr (r := 90) rfl rfl rfl rfl ?_
      refine z_aload rfl rfl rfl ?_
      refine z_geti rfl rfl rfl rfl ?_
      refine z_const rfl ?_
      refine z_isub rfl ?_
      obtain ⟨g2, hF⟩ := zguard hF
      refine z_iald rfl rfl g2.1 g2.2 ?_
      refine z_const rfl ?_
      refine z_cne rfl (fun c3 => ?_) (fun c3 => ?_)
      · rw [if_neg c3] at hF
        refine zsubL (L' := [zJk]) ⟨Or.inr rfl, trivial⟩ ?_
        obtain rfl := Option.some.inj hF
        exact K1
      · rw [if_pos c3] at hF
        refine z_aload rfl rfl rfl ?_
        refine z_dup rfl rfl ?_
        refine z_geti rfl rfl rfl rfl ?_
        refine z_const rfl ?_
        refine z_isub rfl ?_
        refine z_puti rfl rfl rfl rfl ?_
        refine z_aload rfl rfl rfl ?_
        refine z_dup rfl rfl ?_
        refine z_geti rfl rfl rfl rfl ?_
        refine z_const rfl ?_
        refine z_isub rfl ?_
        refine z_puti rfl rfl rfl rfl ?_
        refine z_aload rfl rfl rfl ?_
        refine z_const rfl ?_
        refine z_const rfl ?_
        obtain ⟨h9, hc8, hF⟩ := zbind1 hF
        refine z_inv0 (d' := d - 1) (As := [.inl 2, .inl 0]) rfl rfl (zf_Mo_emit (by omega) N _ _ hc8) rfl rfl rfl (by omega) rfl (fun r4 h5 hR6 hQ7 => ?_)
        obtain ⟨rfl, rfl⟩ := hQ7
        refine z_goto rfl ?_
        exact ih _ hF
set_option maxRecDepth 100000 in
set_option maxHeartbeats 4000000 in
theorem zw_Mo_whole {l : Launch} {E : zE} {d : Nat} (hd : 2 ≤ d) (N : Nat) {h : zHp} {Q : Int → zHp → Prop} {h0 : zHp} (hF : sh_Mo_whole N h = some h0) (K : Q 0 h0) : zW l E d zm_Mo_whole 0 [.inr (.inr 85)] [] h Q := by
  rw [sh_Mo_whole] at hF
  refine z_aload rfl rfl rfl ?_
  refine z_const rfl ?_
  refine z_putz rfl rfl rfl rfl (Or.inr rfl) ?_
  obtain ⟨h11, hL10, hF⟩ := zbind1 hF
  refine zl_Mo_whole_L3 (by omega) N ?_ N _ hL10
  obtain rfl := Option.some.inj hF
  exact z_ret rfl rfl rfl K
set_option maxRecDepth 100000 in
theorem zf_Mo_whole {l : Launch} {E : zE} {d : Nat} (hd : 2 ≤ d) (N : Nat) {h : zHp} {h0 : zHp} (hF : sh_Mo_whole N h = some h0) : zC l E d zm_Mo_whole [.inr (.inr 85)] h (fun r1 h1 => 0 = r1 ∧ h0 = h1) :=
  zC_of zk_Mo_whole (by decide) rfl rfl (Nat.le_of_ble_eq_true rfl) (zw_Mo_whole hd N hF ⟨rfl, rfl⟩)
def sh_Mo_behindOne (N : Nat) (h : zHp) : Option (Int × zHp) := (if h 85 9 = 43 then zb1 (sh_Mo_settle N 3 h) fun h8 => zb1 (sh_Mo_push N (if h 85 9 = 43 then 3 else 4 : Int) h8) fun h16 => zb1 (sh_Mo_nextToken N (zst h16 85 19 0)) fun h22 => some (0, h22) else (if h 85 9 = 45 then zb1 (sh_Mo_settle N 3 h) fun h93 => zb1 (sh_Mo_push N (if h 85 9 = 43 then 3 else 4 : Int) h93) fun h101 => zb1 (sh_Mo_nextToken N (zst h101 85 19 0)) fun h107 => some (0, h107) else (if h 85 9 = 42 then zb1 (sh_Mo_settle N 5 h) fun h33 => zb1 (sh_Mo_push N (if h 85 9 = 42 then 5 else 6 : Int) h33) fun h41 => zb1 (sh_Mo_nextToken N (zst h41 85 19 0)) fun h47 => some (0, h47) else (if h 85 9 = 47 then zb1 (sh_Mo_settle N 5 h) fun h73 => zb1 (sh_Mo_push N (if h 85 9 = 42 then 5 else 6 : Int) h73) fun h81 => zb1 (sh_Mo_nextToken N (zst h81 85 19 0)) fun h87 => some (0, h87) else zb1 (sh_Mo_settle N 3 h) fun h55 => zb1 (sh_Mo_whole N (zst (zst h55 85 17 (w32 ((h55 85 17) - 1))) 85 18 (w32 ((zst h55 85 17 (w32 ((h55 85 17) - 1)) 85 18) - 1)))) fun h61 => zb1 (sh_Mo_nextToken N h61) fun h67 => some (0, h67)))))
set_option maxRecDepth 100000 in
set_option maxHeartbeats 4000000 in
theorem zw_Mo_behindOne {l : Launch} {E : zE} {d : Nat} (hd : 4 ≤ d) (N : Nat) {h : zHp} {Q : Int → zHp → Prop} {r0 : Int} {h0 : zHp} (hF : sh_Mo_behindOne N h = some (r0, h0)) (K : Q r0 h0) : zW l E d zm_Mo_behindOne 0 [.inr (.inr 85), zJk] [] h Q := by
  rw [sh_Mo_behindOne] at hF
  refine z_aload rfl rfl rfl ?_
  refine z_geti rfl rfl rfl rfl ?_
  refine z_istore rfl rfl rfl ?_
  refine z_iload rfl rfl ?_
  refine z_const rfl ?_
  refine z_ceq rfl (fun c2 => ?_) (fun c2 => ?_)
  · rw [if_pos c2] at hF
    refine z_aload rfl rfl rfl ?_
    refine z_const rfl ?_
    obtain ⟨h8, hc7, hF⟩ := zbind1 hF
    refine z_inv0 (d' := d - 1) (As := [.inl 3]) rfl rfl (zf_Mo_settle (by omega) N _ hc7) rfl rfl rfl (by omega) rfl (fun r3 h4 hR5 hQ6 => ?_)
    obtain ⟨rfl, rfl⟩ := hQ6
    refine z_aload rfl rfl rfl ?_
    refine z_iload rfl rfl ?_
    refine z_const rfl ?_
    have hJ10 : zW l E d zm_Mo_behindOne 19 [.inr (.inr 85), zJk] [.inl (if h 85 9 = 43 then 3 else 4 : Int), .inr (.inr 85)] h8 Q := by
      obtain ⟨h16, hc15, hF⟩ := zbind1 hF
      refine z_inv0 (d' := d - 1) (As := [.inl (if h 85 9 = 43 then 3 else 4 : Int)]) rfl rfl (zf_Mo_push (by omega) N _ hc15) rfl rfl rfl (by omega) rfl (fun r11 h12 hR13 hQ14 => ?_)
      obtain ⟨rfl, rfl⟩ := hQ14
      refine z_aload rfl rfl rfl ?_
      refine z_const rfl ?_
      refine z_putz rfl rfl rfl rfl (Or.inl rfl) ?_
      refine z_goto rfl ?_
      refine z_aload rfl rfl rfl ?_
      obtain ⟨h22, hc21, hF⟩ := zbind1 hF
      refine z_inv0 (d' := d - 1) (As := []) rfl rfl (zf_Mo_nextToken (by omega) N hc21) rfl rfl rfl (by omega) rfl (fun r17 h18 hR19 hQ20 => ?_)
      obtain ⟨rfl, rfl⟩ := hQ20
      refine z_const rfl ?_
      obtain ⟨rfl, rfl⟩ := zinj2 hF
      exact z_iret rfl rfl K
    refine z_cne rfl (fun c9 => ?_) (fun c9 => ?_)
    · refine z_const rfl ?_
      refine zsubL (L' := [.inr (.inr 85), zJk]) ⟨Or.inl rfl, Or.inr rfl, trivial⟩ ?_
      exact zcast (by first | rfl | (simp only [if_neg c9] <;> rfl)) (by first | rfl | (simp only [if_neg c9] <;> rfl)) hJ10
    · refine z_const rfl ?_
      refine z_goto rfl ?_
      refine zsubL (L' := [.inr (.inr 85), zJk]) ⟨Or.inl rfl, Or.inr rfl, trivial⟩ ?_
      exact zcast (by first | rfl | (simp only [if_pos c9] <;> rfl)) (by first | rfl | (simp only [if_pos c9] <;> rfl)) hJ10
  · rw [if_neg c2] at hF
    refine z_iload rfl rfl ?_
    refine z_const rfl ?_
    refine z_cne rfl (fun c25 => ?_) (fun c25 => ?_)
    · rw [if_neg c25] at hF
      refine z_iload rfl rfl ?_
      refine z_const rfl ?_
      refine z_ceq rfl (fun c27 => ?_) (fun c27 => ?_)
      · rw [if_pos c27] at hF
        refine z_aload rfl rfl rfl ?_
        refine z_const rfl ?_
        obtain ⟨h33, hc32, hF⟩ := zbind1 hF
        refine z_inv0 (d' := d - 1) (As := [.inl 5]) rfl rfl (zf_Mo_settle (by omega) N _ hc32) rfl rfl rfl (by omega) rfl (fun r28 h29 hR30 hQ31 => ?_)
        obtain ⟨rfl, rfl⟩ := hQ31
        refine z_aload rfl rfl rfl ?_
        refine z_iload rfl rfl ?_
        refine z_const rfl ?_
        have hJ35 : zW l E d zm_Mo_behindOne 40 [.inr (.inr 85), zJk] [.inl (if h 85 9 = 42 then 5 else 6 : Int), .inr (.inr 85)] h33 Q := by
          obtain ⟨h41, hc40, hF⟩ := zbind1 hF
          refine z_inv0 (d' := d - 1) (As := [.inl (if h 85 9 = 42 then 5 else 6 : Int)]) rfl rfl (zf_Mo_push (by omega) N _ hc40) rfl rfl rfl (by omega) rfl (fun r36 h37 hR38 hQ39 => ?_)
          obtain ⟨rfl, rfl⟩ := hQ39
          refine z_aload rfl rfl rfl ?_
          refine z_const rfl ?_
          refine z_putz rfl rfl rfl rfl (Or.inl rfl) ?_
          refine z_goto rfl ?_
          refine z_aload rfl rfl rfl ?_
          obtain ⟨h47, hc46, hF⟩ := zbind1 hF
          refine z_inv0 (d' := d - 1) (As := []) rfl rfl (zf_Mo_nextToken (by omega) N hc46) rfl rfl rfl (by omega) rfl (fun r42 h43 hR44 hQ45 => ?_)
          obtain ⟨rfl, rfl⟩ := hQ45
          refine z_const rfl ?_
          obtain ⟨rfl, rfl⟩ := zinj2 hF
          exact z_iret rfl rfl K
        refine z_cne rfl (fun c34 => ?_) (fun c34 => ?_)
        · refine z_const rfl ?_
          refine zsubL (L' := [.inr (.inr 85), zJk]) ⟨Or.inl rfl, Or.inr rfl, trivial⟩ ?_
          exact zcast (by first | rfl | (simp only [if_neg c34] <;> rfl)) (by first | rfl | (simp only [if_neg c34] <;> rfl)) hJ35
        · refine z_const rfl ?_
          refine z_goto rfl ?_
          refine zsubL (L' := [.inr (.inr 85), zJk]) ⟨Or.inl rfl, Or.inr rfl, trivial⟩ ?_
          exact zcast (by first | rfl | (simp only [if_pos c34] <;> rfl)) (by first | rfl | (simp only [if_pos c34] <;> rfl)) hJ35
      · rw [if_neg c27] at hF
        refine z_iload rfl rfl ?_
        refine z_const rfl ?_
        refine z_cne rfl (fun c49 => ?_) (fun c49 => ?_)
        · rw [if_neg c49] at hF
          refine z_aload rfl rfl rfl ?_
          refine z_const rfl ?_
          obtain ⟨h55, hc54, hF⟩ := zbind1 hF
          refine z_inv0 (d' := d - 1) (As := [.inl 3]) rfl rfl (zf_Mo_settle (by omega) N _ hc54) rfl rfl rfl (by omega) rfl (fun r50 h51 hR52 hQ53 => ?_)
          obtain ⟨rfl, rfl⟩ := hQ53
          refine z_aload rfl rfl rfl ?_
          refine z_dup rfl rfl ?_
          refine z_geti rfl rfl rfl rfl ?_
          refine z_const rfl ?_
          refine z_isub rfl ?_
          refine z_puti rfl rfl rfl rfl ?_
          refine z_aload rfl rfl rfl ?_
          refine z_dup rfl rfl ?_
          refine z_geti rfl rfl rfl rfl ?_
          refine z_const rfl ?_
          refine z_isub rfl ?_
          refine z_puti rfl rfl rfl rfl ?_
          refine z_aload rfl rfl rfl ?_
          obtain ⟨h61, hc60, hF⟩ := zbind1 hF
          refine z_inv0 (d' := d - 1) (As := []) rfl rfl (zf_Mo_whole (by omega) N hc60) rfl rfl rfl (by omega) rfl (fun r56 h57 hR58 hQ59 => ?_)
          obtain ⟨rfl, rfl⟩ := hQ59
          refine z_aload rfl rfl rfl ?_
          obtain ⟨h67, hc66, hF⟩ := zbind1 hF
          refine z_inv0 (d' := d - 1) (As := []) rfl rfl (zf_Mo_nextToken (by omega) N hc66) rfl rfl rfl (by omega) rfl (fun r62 h63 hR64 hQ65 => ?_)
          obtain ⟨rfl, rfl⟩ := hQ65
          refine z_const rfl ?_
          obtain ⟨rfl, rfl⟩ := zinj2 hF
          exact z_iret rfl rfl K
        · rw [if_pos c49] at hF
          refine z_aload rfl rfl rfl ?_
          refine z_const rfl ?_
          obtain ⟨h73, hc72, hF⟩ := zbind1 hF
          refine z_inv0 (d' := d - 1) (As := [.inl 5]) rfl rfl (zf_Mo_settle (by omega) N _ hc72) rfl rfl rfl (by omega) rfl (fun r68 h69 hR70 hQ71 => ?_)
          obtain ⟨rfl, rfl⟩ := hQ71
          refine z_aload rfl rfl rfl ?_
          refine z_iload rfl rfl ?_
          refine z_const rfl ?_
          have hJ75 : zW l E d zm_Mo_behindOne 40 [.inr (.inr 85), zJk] [.inl (if h 85 9 = 42 then 5 else 6 : Int), .inr (.inr 85)] h73 Q := by
            obtain ⟨h81, hc80, hF⟩ := zbind1 hF
            refine z_inv0 (d' := d - 1) (As := [.inl (if h 85 9 = 42 then 5 else 6 : Int)]) rfl rfl (zf_Mo_push (by omega) N _ hc80) rfl rfl rfl (by omega) rfl (fun r76 h77 hR78 hQ79 => ?_)
            obtain ⟨rfl, rfl⟩ := hQ79
            refine z_aload rfl rfl rfl ?_
            refine z_const rfl ?_
            refine z_putz rfl rfl rfl rfl (Or.inl rfl) ?_
            refine z_goto rfl ?_
            refine z_aload rfl rfl rfl ?_
            obtain ⟨h87, hc86, hF⟩ := zbind1 hF
            refine z_inv0 (d' := d - 1) (As := []) rfl rfl (zf_Mo_nextToken (by omega) N hc86) rfl rfl rfl (by omega) rfl (fun r82 h83 hR84 hQ85 => ?_)
            obtain ⟨rfl, rfl⟩ := hQ85
            refine z_const rfl ?_
            obtain ⟨rfl, rfl⟩ := zinj2 hF
            exact z_iret rfl rfl K
          refine z_cne rfl (fun c74 => ?_) (fun c74 => ?_)
          · refine z_const rfl ?_
            refine zsubL (L' := [.inr (.inr 85), zJk]) ⟨Or.inl rfl, Or.inr rfl, trivial⟩ ?_
            exact zcast (by first | rfl | (simp only [if_neg c74] <;> rfl)) (by first | rfl | (simp only [if_neg c74] <;> rfl)) hJ75
          · refine z_const rfl ?_
            refine z_goto rfl ?_
            refine zsubL (L' := [.inr (.inr 85), zJk]) ⟨Or.inl rfl, Or.inr rfl, trivial⟩ ?_
            exact zcast (by first | rfl | (simp only [if_pos c74] <;> rfl)) (by first | rfl | (simp only [if_pos c74] <;> rfl)) hJ75
    · rw [if_pos c25] at hF
      refine z_aload rfl rfl rfl ?_
      refine z_const rfl ?_
      obtain ⟨h93, hc92, hF⟩ := zbind1 hF
      refine z_inv0 (d' := d - 1) (As := [.inl 3]) rfl rfl (zf_Mo_settle (by omega) N _ hc92) rfl rfl rfl (by omega) rfl (fun r88 h89 hR90 hQ91 => ?_)
      obtain ⟨rfl, rfl⟩ := hQ91
      refine z_aload rfl rfl rfl ?_
      refine z_iload rfl rfl ?_
      refine z_const rfl ?_
      have hJ95 : zW l E d zm_Mo_behindOne 19 [.inr (.inr 85), zJk] [.inl (if h 85 9 = 43 then 3 else 4 : Int), .inr (.inr 85)] h93 Q := by
        obtain ⟨h101, hc100, hF⟩ := zbind1 hF
        refine z_inv0 (d' := d - 1) (As := [.inl (if h 85 9 = 43 then 3 else 4 : Int)]) rfl rfl (zf_Mo_push (by omega) N _ hc100) rfl rfl rfl (by omega) rfl (fun r96 h97 hR98 hQ99 => ?_)
        obtain ⟨rfl, rfl⟩ := hQ99
        refine z_aload rfl rfl rfl ?_
        refine z_const rfl ?_
        refine z_putz rfl rfl rfl rfl (Or.inl rfl) ?_
        refine z_goto rfl ?_
        refine z_aload rfl rfl rfl ?_
        obtain ⟨h107, hc106, hF⟩ := zbind1 hF
        refine z_inv0 (d' := d - 1) (As := []) rfl rfl (zf_Mo_nextToken (by omega) N hc106) rfl rfl rfl (by omega) rfl (fun r102 h103 hR104 hQ105 => ?_)
        obtain ⟨rfl, rfl⟩ := hQ105
        refine z_const rfl ?_
        obtain ⟨rfl, rfl⟩ := zinj2 hF
        exact z_iret rfl rfl K
      refine z_cne rfl (fun c94 => ?_) (fun c94 => ?_)
      · refine z_const rfl ?_
        refine zsubL (L' := [.inr (.inr 85), zJk]) ⟨Or.inl rfl, Or.inr rfl, trivial⟩ ?_
        exact zcast (by first | rfl | (simp only [if_neg c94] <;> rfl)) (by first | rfl | (simp only [if_neg c94] <;> rfl)) hJ95
      · refine z_const rfl ?_
        refine z_goto rfl ?_
        refine zsubL (L' := [.inr (.inr 85), zJk]) ⟨Or.inl rfl, Or.inr rfl, trivial⟩ ?_
        exact zcast (by first | rfl | (simp only [if_pos c94] <;> rfl)) (by first | rfl | (simp only [if_pos c94] <;> rfl)) hJ95
set_option maxRecDepth 100000 in
theorem zf_Mo_behindOne {l : Launch} {E : zE} {d : Nat} (hd : 4 ≤ d) (N : Nat) {h : zHp} {r0 : Int} {h0 : zHp} (hF : sh_Mo_behindOne N h = some (r0, h0)) : zC l E d zm_Mo_behindOne [.inr (.inr 85)] h (fun r1 h1 => r0 = r1 ∧ h0 = h1) :=
  zC_of zk_Mo_behindOne (by decide) rfl rfl (Nat.le_of_ble_eq_true rfl) (zw_Mo_behindOne hd N hF ⟨rfl, rfl⟩)
def sh_Mo_isStrength (N : Nat) (h : zHp) : Option Int := (if w32 ((h 85 7) - (h 85 8)) = 8 then zb1 (sh_Mo_byteAt N (h 85 8) h) fun r7 => if r7 = 115 then zb1 (sh_Mo_byteAt N (w32 ((h 85 8) + 1)) h) fun r14 => if r14 = 116 then zb1 (sh_Mo_byteAt N (w32 ((h 85 8) + 2)) h) fun r21 => if r21 = 114 then zb1 (sh_Mo_byteAt N (w32 ((h 85 8) + 3)) h) fun r28 => if r28 = 101 then zb1 (sh_Mo_byteAt N (w32 ((h 85 8) + 4)) h) fun r35 => if r35 = 110 then zb1 (sh_Mo_byteAt N (w32 ((h 85 8) + 5)) h) fun r43 => if r43 = 103 then zb1 (sh_Mo_byteAt N (w32 ((h 85 8) + 6)) h) fun r51 => if r51 = 116 then zb1 (sh_Mo_byteAt N (w32 ((h 85 8) + 7)) h) fun r59 => some (if r59 = 104 then 1 else 0 : Int) else some 0 else some 0 else some 0 else some 0 else some 0 else some 0 else some 0 else some 0)
set_option maxRecDepth 100000 in
set_option maxHeartbeats 4000000 in
theorem zw_Mo_isStrength {l : Launch} {E : zE} {d : Nat} (hd : 2 ≤ d) (N : Nat) {h : zHp} {Q : Int → zHp → Prop} {r0 : Int} (hF : sh_Mo_isStrength N h = some r0) (K : Q r0 h) : zW l E d zm_Mo_isStrength 0 [.inr (.inr 85)] [] h Q := by
  rw [sh_Mo_isStrength] at hF
  refine z_aload rfl rfl rfl ?_
  refine z_geti rfl rfl rfl rfl ?_
  refine z_aload rfl rfl rfl ?_
  refine z_geti rfl rfl rfl rfl ?_
  refine z_isub rfl ?_
  refine z_const rfl ?_
  refine z_cne rfl (fun c1 => ?_) (fun c1 => ?_)
  · rw [if_neg c1] at hF
    refine z_const rfl ?_
    obtain rfl := Option.some.inj hF
    exact z_zret rfl rfl (Or.inl rfl) K
  · rw [if_pos c1] at hF
    refine z_aload rfl rfl rfl ?_
    refine z_aload rfl rfl rfl ?_
    refine z_geti rfl rfl rfl rfl ?_
    obtain ⟨r7, hc6, hF⟩ := zbind1 hF
    refine z_inv1 (d' := d - 1) (As := [.inl (h 85 8)]) rfl rfl (zf_Mo_byteAt (by omega) N _ hc6) rfl rfl rfl (by omega) rfl (fun r2 h3 hR4 hQ5 => ?_)
    obtain ⟨rfl, rfl⟩ := hQ5
    refine z_const rfl ?_
    refine z_cne rfl (fun c8 => ?_) (fun c8 => ?_)
    · rw [if_neg c8] at hF
      refine z_const rfl ?_
      obtain rfl := Option.some.inj hF
      exact z_zret rfl rfl (Or.inl rfl) K
    · rw [if_pos c8] at hF
      refine z_aload rfl rfl rfl ?_
      refine z_aload rfl rfl rfl ?_
      refine z_geti rfl rfl rfl rfl ?_
      refine z_const rfl ?_
      refine z_iadd rfl ?_
      obtain ⟨r14, hc13, hF⟩ := zbind1 hF
      refine z_inv1 (d' := d - 1) (As := [.inl (w32 ((h 85 8) + 1))]) rfl rfl (zf_Mo_byteAt (by omega) N _ hc13) rfl rfl rfl (by omega) rfl (fun r9 h10 hR11 hQ12 => ?_)
      obtain ⟨rfl, rfl⟩ := hQ12
      refine z_const rfl ?_
      refine z_cne rfl (fun c15 => ?_) (fun c15 => ?_)
      · rw [if_neg c15] at hF
        refine z_const rfl ?_
        obtain rfl := Option.some.inj hF
        exact z_zret rfl rfl (Or.inl rfl) K
      · rw [if_pos c15] at hF
        refine z_aload rfl rfl rfl ?_
        refine z_aload rfl rfl rfl ?_
        refine z_geti rfl rfl rfl rfl ?_
        refine z_const rfl ?_
        refine z_iadd rfl ?_
        obtain ⟨r21, hc20, hF⟩ := zbind1 hF
        refine z_inv1 (d' := d - 1) (As := [.inl (w32 ((h 85 8) + 2))]) rfl rfl (zf_Mo_byteAt (by omega) N _ hc20) rfl rfl rfl (by omega) rfl (fun r16 h17 hR18 hQ19 => ?_)
        obtain ⟨rfl, rfl⟩ := hQ19
        refine z_const rfl ?_
        refine z_cne rfl (fun c22 => ?_) (fun c22 => ?_)
        · rw [if_neg c22] at hF
          refine z_const rfl ?_
          obtain rfl := Option.some.inj hF
          exact z_zret rfl rfl (Or.inl rfl) K
        · rw [if_pos c22] at hF
          refine z_aload rfl rfl rfl ?_
          refine z_aload rfl rfl rfl ?_
          refine z_geti rfl rfl rfl rfl ?_
          refine z_const rfl ?_
          refine z_iadd rfl ?_
          obtain ⟨r28, hc27, hF⟩ := zbind1 hF
          refine z_inv1 (d' := d - 1) (As := [.inl (w32 ((h 85 8) + 3))]) rfl rfl (zf_Mo_byteAt (by omega) N _ hc27) rfl rfl rfl (by omega) rfl (fun r23 h24 hR25 hQ26 => ?_)
          obtain ⟨rfl, rfl⟩ := hQ26
          refine z_const rfl ?_
          refine z_ceq rfl (fun c29 => ?_) (fun c29 => ?_)
          · rw [if_pos c29] at hF
            refine z_aload rfl rfl rfl ?_
            refine z_aload rfl rfl rfl ?_
            refine z_geti rfl rfl rfl rfl ?_
            refine z_const rfl ?_
            refine z_iadd rfl ?_
            obtain ⟨r35, hc34, hF⟩ := zbind1 hF
            refine z_inv1 (d' := d - 1) (As := [.inl (w32 ((h 85 8) + 4))]) rfl rfl (zf_Mo_byteAt (by omega) N _ hc34) rfl rfl rfl (by omega) rfl (fun r30 h31 hR32 hQ33 => ?_)
            obtain ⟨rfl, rfl⟩ := hQ33
            refine z_const rfl ?_
            refine z_cne rfl (fun c37 => ?_) (fun c37 => ?_)
            · rw [if_neg c37] at hF
              refine z_const rfl ?_
              obtain rfl := Option.some.inj hF
              exact z_zret rfl rfl (Or.inl rfl) K
            · rw [if_pos c37] at hF
              refine z_aload rfl rfl rfl ?_
              refine z_aload rfl rfl rfl ?_
              refine z_geti rfl rfl rfl rfl ?_
              refine z_const rfl ?_
              refine z_iadd rfl ?_
              obtain ⟨r43, hc42, hF⟩ := zbind1 hF
              refine z_inv1 (d' := d - 1) (As := [.inl (w32 ((h 85 8) + 5))]) rfl rfl (zf_Mo_byteAt (by omega) N _ hc42) rfl rfl rfl (by omega) rfl (fun r38 h39 hR40 hQ41 => ?_)
              obtain ⟨rfl, rfl⟩ := hQ41
              refine z_const rfl ?_
              refine z_cne rfl (fun c45 => ?_) (fun c45 => ?_)
              · rw [if_neg c45] at hF
                refine z_const rfl ?_
                obtain rfl := Option.some.inj hF
                exact z_zret rfl rfl (Or.inl rfl) K
              · rw [if_pos c45] at hF
                refine z_aload rfl rfl rfl ?_
                refine z_aload rfl rfl rfl ?_
                refine z_geti rfl rfl rfl rfl ?_
                refine z_const rfl ?_
                refine z_iadd rfl ?_
                obtain ⟨r51, hc50, hF⟩ := zbind1 hF
                refine z_inv1 (d' := d - 1) (As := [.inl (w32 ((h 85 8) + 6))]) rfl rfl (zf_Mo_byteAt (by omega) N _ hc50) rfl rfl rfl (by omega) rfl (fun r46 h47 hR48 hQ49 => ?_)
                obtain ⟨rfl, rfl⟩ := hQ49
                refine z_const rfl ?_
                refine z_cne rfl (fun c53 => ?_) (fun c53 => ?_)
                · rw [if_neg c53] at hF
                  refine z_const rfl ?_
                  obtain rfl := Option.some.inj hF
                  exact z_zret rfl rfl (Or.inl rfl) K
                · rw [if_pos c53] at hF
                  refine z_aload rfl rfl rfl ?_
                  refine z_aload rfl rfl rfl ?_
                  refine z_geti rfl rfl rfl rfl ?_
                  refine z_const rfl ?_
                  refine z_iadd rfl ?_
                  obtain ⟨r59, hc58, hF⟩ := zbind1 hF
                  refine z_inv1 (d' := d - 1) (As := [.inl (w32 ((h 85 8) + 7))]) rfl rfl (zf_Mo_byteAt (by omega) N _ hc58) rfl rfl rfl (by omega) rfl (fun r54 h55 hR56 hQ57 => ?_)
                  obtain ⟨rfl, rfl⟩ := hQ57
                  refine z_const rfl ?_
                  have hJ61 : zW l E d zm_Mo_isStrength 74 [zJk] [.inl (if r59 = 104 then 1 else 0 : Int)] h Q := by
                    obtain rfl := Option.some.inj hF
                    exact z_zret rfl rfl (zor_ite (Or.inr rfl) (Or.inl rfl)) K
                  refine z_cne rfl (fun c60 => ?_) (fun c60 => ?_)
                  · refine z_const rfl ?_
                    refine zsubL (L' := [zJk]) ⟨Or.inr rfl, trivial⟩ ?_
                    exact zcast (by first | rfl | (simp only [if_neg c60] <;> rfl)) (by first | rfl | (simp only [if_neg c60] <;> rfl)) hJ61
                  · refine z_const rfl ?_
                    refine z_goto rfl ?_
                    refine zsubL (L' := [zJk]) ⟨Or.inr rfl, trivial⟩ ?_
                    exact zcast (by first | rfl | (simp only [if_pos c60] <;> rfl)) (by first | rfl | (simp only [if_pos c60] <;> rfl)) hJ61
          · rw [if_neg c29] at hF
            refine z_const rfl ?_
            obtain rfl := Option.some.inj hF
            exact z_zret rfl rfl (Or.inl rfl) K
set_option maxRecDepth 100000 in
theorem zf_Mo_isStrength {l : Launch} {E : zE} {d : Nat} (hd : 2 ≤ d) (N : Nat) {h : zHp} {r0 : Int} (hF : sh_Mo_isStrength N h = some r0) : zC l E d zm_Mo_isStrength [.inr (.inr 85)] h (fun r1 h1 => r0 = r1 ∧ h = h1) :=
  zC_of zk_Mo_isStrength (by decide) rfl rfl (Nat.le_of_ble_eq_true rfl) (zw_Mo_isStrength hd N hF ⟨rfl, rfl⟩)
def sh_Mo_nameOf (N : Nat) (h : zHp) : Option Int := (if h 85 9 = 2 then (if zcmp (h 85 11) (sh_Mo_w4 104 111 117 114) = 0 then some 0 else (if zcmp (h 85 11) (sh_Mo_w5 112 105 116 99 104) = 0 then some 1 else (if zcmp (h 85 11) (sh_Mo_w4 102 97 114 109) = 0 then some 2 else (if zcmp (h 85 11) (sh_Mo_w3 101 97 114) = 0 then some 3 else (if zcmp (h 85 11) (sh_Mo_w3 111 119 110) = 0 then some 4 else (if zcmp (h 85 11) (sh_Mo_w3 102 97 114) = 0 then some 5 else (if zcmp (h 85 11) (sh_Mo_w5 121 111 107 101 100) = 0 then some 6 else (if zcmp (h 85 11) 28536 = 0 then some 7 else zb1 (sh_Mo_isStrength N h) fun r43 => if r43 = 0 then some (if zcmp (h 85 11) (sh_Mo_w6 119 101 97 107 101 114) = 0 then 9 else (if zcmp (h 85 11) (sh_Mo_w4 115 111 105 108) = 0 then 10 else (-1) : Int) : Int) else some 8)))))))) else some (-1))
set_option maxRecDepth 100000 in
set_option maxHeartbeats 4000000 in
theorem zw_Mo_nameOf {l : Launch} {E : zE} {d : Nat} (hd : 4 ≤ d) (N : Nat) {h : zHp} {Q : Int → zHp → Prop} {r0 : Int} (hF : sh_Mo_nameOf N h = some r0) (K : Q r0 h) : zW l E d zm_Mo_nameOf 0 [.inr (.inr 85)] [] h Q := by
  rw [sh_Mo_nameOf] at hF
  refine z_aload rfl rfl rfl ?_
  refine z_geti rfl rfl rfl rfl ?_
  refine z_const rfl ?_
  refine z_ceq rfl (fun c1 => ?_) (fun c1 => ?_)
  · rw [if_pos c1] at hF
    refine z_aload rfl rfl rfl ?_
    refine z_getl rfl rfl rfl ?_
    refine z_const rfl ?_
    refine z_const rfl ?_
    refine z_const rfl ?_
    refine z_const rfl ?_
    refine z_ivs2 (d' := d - 1) (As := [.inl 104, .inl 111, .inl 117, .inl 114]) rfl rfl (zf_Mo_w4 (by omega) _ _ _ _) rfl (by omega) rfl (fun r2 h3 hR4 hQ5 => ?_)
    obtain ⟨rfl, rfl⟩ := hQ5
    refine z_lcmp rfl ?_
    refine z_zne rfl (fun c6 => ?_) (fun c6 => ?_)
    · rw [if_neg c6] at hF
      refine z_aload rfl rfl rfl ?_
      refine z_getl rfl rfl rfl ?_
      refine z_const rfl ?_
      refine z_const rfl ?_
      refine z_const rfl ?_
      refine z_const rfl ?_
      refine z_const rfl ?_
      refine z_ivs2 (d' := d - 1) (As := [.inl 112, .inl 105, .inl 116, .inl 99, .inl 104]) rfl rfl (zf_Mo_w5 (by omega) _ _ _ _ _) rfl (by omega) rfl (fun r7 h8 hR9 hQ10 => ?_)
      obtain ⟨rfl, rfl⟩ := hQ10
      refine z_lcmp rfl ?_
      refine z_zne rfl (fun c11 => ?_) (fun c11 => ?_)
      · rw [if_neg c11] at hF
        refine z_aload rfl rfl rfl ?_
        refine z_getl rfl rfl rfl ?_
        refine z_const rfl ?_
        refine z_const rfl ?_
        refine z_const rfl ?_
        refine z_const rfl ?_
        refine z_ivs2 (d' := d - 1) (As := [.inl 102, .inl 97, .inl 114, .inl 109]) rfl rfl (zf_Mo_w4 (by omega) _ _ _ _) rfl (by omega) rfl (fun r12 h13 hR14 hQ15 => ?_)
        obtain ⟨rfl, rfl⟩ := hQ15
        refine z_lcmp rfl ?_
        refine z_zne rfl (fun c16 => ?_) (fun c16 => ?_)
        · rw [if_neg c16] at hF
          refine z_aload rfl rfl rfl ?_
          refine z_getl rfl rfl rfl ?_
          refine z_const rfl ?_
          refine z_const rfl ?_
          refine z_const rfl ?_
          refine z_ivs2 (d' := d - 1) (As := [.inl 101, .inl 97, .inl 114]) rfl rfl (zf_Mo_w3 (by omega) _ _ _) rfl (by omega) rfl (fun r17 h18 hR19 hQ20 => ?_)
          obtain ⟨rfl, rfl⟩ := hQ20
          refine z_lcmp rfl ?_
          refine z_zne rfl (fun c21 => ?_) (fun c21 => ?_)
          · rw [if_neg c21] at hF
            refine z_aload rfl rfl rfl ?_
            refine z_getl rfl rfl rfl ?_
            refine z_const rfl ?_
            refine z_const rfl ?_
            refine z_const rfl ?_
            refine z_ivs2 (d' := d - 1) (As := [.inl 111, .inl 119, .inl 110]) rfl rfl (zf_Mo_w3 (by omega) _ _ _) rfl (by omega) rfl (fun r22 h23 hR24 hQ25 => ?_)
            obtain ⟨rfl, rfl⟩ := hQ25
            refine z_lcmp rfl ?_
            refine z_zne rfl (fun c26 => ?_) (fun c26 => ?_)
            · rw [if_neg c26] at hF
              refine z_aload rfl rfl rfl ?_
              refine z_getl rfl rfl rfl ?_
              refine z_const rfl ?_
              refine z_const rfl ?_
              refine z_const rfl ?_
              refine z_ivs2 (d' := d - 1) (As := [.inl 102, .inl 97, .inl 114]) rfl rfl (zf_Mo_w3 (by omega) _ _ _) rfl (by omega) rfl (fun r27 h28 hR29 hQ30 => ?_)
              obtain ⟨rfl, rfl⟩ := hQ30
              refine z_lcmp rfl ?_
              refine z_zne rfl (fun c31 => ?_) (fun c31 => ?_)
              · rw [if_neg c31] at hF
                refine z_aload rfl rfl rfl ?_
                refine z_getl rfl rfl rfl ?_
                refine z_const rfl ?_
                refine z_const rfl ?_
                refine z_const rfl ?_
                refine z_const rfl ?_
                refine z_const rfl ?_
                refine z_ivs2 (d' := d - 1) (As := [.inl 121, .inl 111, .inl 107, .inl 101, .inl 100]) rfl rfl (zf_Mo_w5 (by omega) _ _ _ _ _) rfl (by omega) rfl (fun r32 h33 hR34 hQ35 => ?_)
                obtain ⟨rfl, rfl⟩ := hQ35
                refine z_lcmp rfl ?_
                refine z_zne rfl (fun c36 => ?_) (fun c36 => ?_)
                · rw [if_neg c36] at hF
                  refine z_aload rfl rfl rfl ?_
                  refine z_getl rfl rfl rfl ?_
                  refine z_lconst rfl ?_
                  refine z_lcmp rfl ?_
                  refine z_zne rfl (fun c37 => ?_) (fun c37 => ?_)
                  · rw [if_neg c37] at hF
                    refine z_aload rfl rfl rfl ?_
                    obtain ⟨r43, hc42, hF⟩ := zbind1 hF
                    refine z_inv1 (d' := d - 1) (As := []) rfl rfl (zf_Mo_isStrength (by omega) N hc42) rfl rfl rfl (by omega) rfl (fun r38 h39 hR40 hQ41 => ?_)
                    obtain ⟨rfl, rfl⟩ := hQ41
                    refine z_zeq rfl (fun c44 => ?_) (fun c44 => ?_)
                    · rw [if_pos c44] at hF
                      refine z_aload rfl rfl rfl ?_
                      refine z_getl rfl rfl rfl ?_
                      refine z_const rfl ?_
                      refine z_const rfl ?_
                      refine z_const rfl ?_
                      refine z_const rfl ?_
                      refine z_const rfl ?_
                      refine z_const rfl ?_
                      refine z_ivs2 (d' := d - 1) (As := [.inl 119, .inl 101, .inl 97, .inl 107, .inl 101, .inl 114]) rfl rfl (zf_Mo_w6 (by omega) _ _ _ _ _ _) rfl (by omega) rfl (fun r45 h46 hR47 hQ48 => ?_)
                      obtain ⟨rfl, rfl⟩ := hQ48
                      refine z_lcmp rfl ?_
                      have hJ55 : zW l E d zm_Mo_nameOf 119 [zJk] [.inl (if zcmp (h 85 11) (sh_Mo_w6 119 101 97 107 101 114) = 0 then 9 else (if zcmp (h 85 11) (sh_Mo_w4 115 111 105 108) = 0 then 10 else (-1) : Int) : Int)] h Q := by
                        obtain rfl := Option.some.inj hF
                        exact z_iret rfl rfl K
                      refine z_zne rfl (fun c49 => ?_) (fun c49 => ?_)
                      · refine z_aload rfl rfl rfl ?_
                        refine z_getl rfl rfl rfl ?_
                        refine z_const rfl ?_
                        refine z_const rfl ?_
                        refine z_const rfl ?_
                        refine z_const rfl ?_
                        refine z_ivs2 (d' := d - 1) (As := [.inl 115, .inl 111, .inl 105, .inl 108]) rfl rfl (zf_Mo_w4 (by omega) _ _ _ _) rfl (by omega) rfl (fun r50 h51 hR52 hQ53 => ?_)
                        obtain ⟨rfl, rfl⟩ := hQ53
                        refine z_lcmp rfl ?_
                        refine z_zne rfl (fun c54 => ?_) (fun c54 => ?_)
                        · refine z_const rfl ?_
                          refine zsubL (L' := [zJk]) ⟨Or.inr rfl, trivial⟩ ?_
                          exact zcast (by first | rfl | (simp only [if_neg c49, if_neg c54] <;> rfl)) (by first | rfl | (simp only [if_neg c49, if_neg c54] <;> rfl)) hJ55
                        · refine z_const rfl ?_
                          refine z_goto rfl ?_
                          refine zsubL (L' := [zJk]) ⟨Or.inr rfl, trivial⟩ ?_
                          exact zcast (by first | rfl | (simp only [if_neg c49, if_pos c54] <;> rfl)) (by first | rfl | (simp only [if_neg c49, if_pos c54] <;> rfl)) hJ55
                      · refine z_const rfl ?_
                        refine z_goto rfl ?_
                        refine zsubL (L' := [zJk]) ⟨Or.inr rfl, trivial⟩ ?_
                        exact zcast (by first | rfl | (simp only [if_pos c49] <;> rfl)) (by first | rfl | (simp only [if_pos c49] <;> rfl)) hJ55
                    · rw [if_neg c44] at hF
                      refine z_const rfl ?_
                      obtain rfl := Option.some.inj hF
                      exact z_iret rfl rfl K
                  · rw [if_pos c37] at hF
                    refine z_const rfl ?_
                    obtain rfl := Option.some.inj hF
                    exact z_iret rfl rfl K
                · rw [if_pos c36] at hF
                  refine z_const rfl ?_
                  obtain rfl := Option.some.inj hF
                  exact z_iret rfl rfl K
              · rw [if_pos c31] at hF
                refine z_const rfl ?_
                obtain rfl := Option.some.inj hF
                exact z_iret rfl rfl K
            · rw [if_pos c26] at hF
              refine z_const rfl ?_
              obtain rfl := Option.some.inj hF
              exact z_iret rfl rfl K
          · rw [if_pos c21] at hF
            refine z_const rfl ?_
            obtain rfl := Option.some.inj hF
            exact z_iret rfl rfl K
        · rw [if_pos c16] at hF
          refine z_const rfl ?_
          obtain rfl := Option.some.inj hF
          exact z_iret rfl rfl K
      · rw [if_pos c11] at hF
        refine z_const rfl ?_
        obtain rfl := Option.some.inj hF
        exact z_iret rfl rfl K
    · rw [if_pos c6] at hF
      refine z_const rfl ?_
      obtain rfl := Option.some.inj hF
      exact z_iret rfl rfl K
  · rw [if_neg c1] at hF
    refine z_const rfl ?_
    obtain rfl := Option.some.inj hF
    exact z_iret rfl rfl K
set_option maxRecDepth 100000 in
theorem zf_Mo_nameOf {l : Launch} {E : zE} {d : Nat} (hd : 4 ≤ d) (N : Nat) {h : zHp} {r0 : Int} (hF : sh_Mo_nameOf N h = some r0) : zC l E d zm_Mo_nameOf [.inr (.inr 85)] h (fun r1 h1 => r0 = r1 ∧ h = h1) :=
  zC_of zk_Mo_nameOf (by decide) rfl rfl (Nat.le_of_ble_eq_true rfl) (zw_Mo_nameOf hd N hF ⟨rfl, rfl⟩)
def sh_Mo_isBarred (x1 : Int) (h : zHp) : Int := (if h 85 20 = 3 then (if x1 ≤ 2 then 0 else 1 : Int) else (if h 85 20 = 4 then sh_Mo_isIn x1 1 7 else (if x1 ≤ 8 then 0 else 1 : Int) : Int) : Int)
set_option maxRecDepth 100000 in
set_option maxHeartbeats 4000000 in
theorem zw_Mo_isBarred {l : Launch} {E : zE} {d : Nat} (hd : 2 ≤ d) (x1 : Int) {h : zHp} {Q : Int → zHp → Prop} {r0 : Int} (hF : sh_Mo_isBarred x1 h = r0) (K : Q r0 h) : zW l E d zm_Mo_isBarred 0 [.inr (.inr 85), .inl x1] [] h Q := by
  rw [sh_Mo_isBarred] at hF
  refine z_aload rfl rfl rfl ?_
  refine z_geti rfl rfl rfl rfl ?_
  refine z_const rfl ?_
  have hJ9 : zW l E d zm_Mo_isBarred 26 [zJk, zJk] [.inl (if h 85 20 = 3 then (if x1 ≤ 2 then 0 else 1 : Int) else (if h 85 20 = 4 then sh_Mo_isIn x1 1 7 else (if x1 ≤ 8 then 0 else 1 : Int) : Int) : Int)] h Q := by
    subst hF
    exact z_zret rfl rfl (zor_ite (zor_ite (Or.inl rfl) (Or.inr rfl)) (zor_ite (zb_Mo_isIn _ _ _) (zor_ite (Or.inl rfl) (Or.inr rfl)))) K
  refine z_cne rfl (fun c1 => ?_) (fun c1 => ?_)
  · refine z_aload rfl rfl rfl ?_
    refine z_geti rfl rfl rfl rfl ?_
    refine z_const rfl ?_
    refine z_cne rfl (fun c2 => ?_) (fun c2 => ?_)
    · refine z_iload rfl rfl ?_
      refine z_const rfl ?_
      refine z_cle rfl (fun c3 => ?_) (fun c3 => ?_)
      · refine z_const rfl ?_
        refine zsubL (L' := [zJk, zJk]) ⟨Or.inr rfl, Or.inr rfl, trivial⟩ ?_
        exact zcast (by first | rfl | (simp only [if_neg c1, if_neg c2, if_pos c3] <;> rfl)) (by first | rfl | (simp only [if_neg c1, if_neg c2, if_pos c3] <;> rfl)) hJ9
      · refine z_const rfl ?_
        refine z_goto rfl ?_
        refine zsubL (L' := [zJk, zJk]) ⟨Or.inr rfl, Or.inr rfl, trivial⟩ ?_
        exact zcast (by first | rfl | (simp only [if_neg c1, if_neg c2, if_neg c3] <;> rfl)) (by first | rfl | (simp only [if_neg c1, if_neg c2, if_neg c3] <;> rfl)) hJ9
    · refine z_iload rfl rfl ?_
      refine z_const rfl ?_
      refine z_const rfl ?_
      refine z_ivs1 (d' := d - 1) (As := [.inl x1, .inl 1, .inl 7]) rfl rfl (zf_Mo_isIn (by omega) _ _ _) rfl (by omega) rfl (fun r4 h5 hR6 hQ7 => ?_)
      obtain ⟨rfl, rfl⟩ := hQ7
      refine z_goto rfl ?_
      refine zsubL (L' := [zJk, zJk]) ⟨Or.inr rfl, Or.inr rfl, trivial⟩ ?_
      exact zcast (by first | rfl | (simp only [if_neg c1, if_pos c2] <;> rfl)) (by first | rfl | (simp only [if_neg c1, if_pos c2] <;> rfl)) hJ9
  · refine z_iload rfl rfl ?_
    refine z_const rfl ?_
    refine z_cle rfl (fun c8 => ?_) (fun c8 => ?_)
    · refine z_const rfl ?_
      refine z_goto rfl ?_
      refine zsubL (L' := [zJk, zJk]) ⟨Or.inr rfl, Or.inr rfl, trivial⟩ ?_
      exact zcast (by first | rfl | (simp only [if_pos c1, if_pos c8] <;> rfl)) (by first | rfl | (simp only [if_pos c1, if_pos c8] <;> rfl)) hJ9
    · refine z_const rfl ?_
      refine z_goto rfl ?_
      refine zsubL (L' := [zJk, zJk]) ⟨Or.inr rfl, Or.inr rfl, trivial⟩ ?_
      exact zcast (by first | rfl | (simp only [if_pos c1, if_neg c8] <;> rfl)) (by first | rfl | (simp only [if_pos c1, if_neg c8] <;> rfl)) hJ9
set_option maxRecDepth 100000 in
theorem zf_Mo_isBarred {l : Launch} {E : zE} {d : Nat} (hd : 2 ≤ d) (x1 : Int) {h : zHp} : zC l E d zm_Mo_isBarred [.inr (.inr 85), .inl x1] h (fun r1 h1 => sh_Mo_isBarred x1 h = r1 ∧ h = h1) :=
  zC_of zk_Mo_isBarred (by decide) rfl rfl (Nat.le_of_ble_eq_true rfl) (zw_Mo_isBarred hd _ rfl ⟨rfl, rfl⟩)
theorem zb_Mo_isBarred (x1 : Int) (h : zHp) : sh_Mo_isBarred x1 h = 0 ∨ sh_Mo_isBarred x1 h = 1 := by
  unfold sh_Mo_isBarred
  exact zor_ite (zor_ite (Or.inl rfl) (Or.inr rfl)) (zor_ite (zb_Mo_isIn _ _ _) (zor_ite (Or.inl rfl) (Or.inr rfl)))
def sh_Mo_beginOne (N : Nat) (h : zHp) : Option (Int × zHp) := (if h 85 9 = 1 then (if h 85 10 ≤ 9999 then zb1 (sh_Mo_emit N 0 (h 85 10) h) fun h67 => zb1 (sh_Mo_nextToken N h67) fun h73 => zb1 (sh_Mo_whole N h73) fun h79 => some (0, h79) else some (2, h)) else zb1 (sh_Mo_nameOf N h) fun r7 => if r7 < 0 then (if (if h 85 9 = 40 then 40 else (if h 85 9 = 45 then 2 else 0 : Int) : Int) = 0 then some (1, h) else (if h 85 18 = 8 then some (3, h) else zb1 (sh_Mo_push N (if h 85 9 = 40 then 40 else (if h 85 9 = 45 then 2 else 0 : Int) : Int) (zst h 85 18 (w32 ((h 85 18) + 1)))) fun h19 => zb1 (sh_Mo_nextToken N h19) fun h25 => some (0, h25))) else zb1 (sh_Mo_nameOf N h) fun r31 => if sh_Mo_isBarred r31 h = 0 then zb1 (sh_Mo_nameOf N h) fun r42 => zb1 (sh_Mo_emit N 1 r42 h) fun h48 => zb1 (sh_Mo_nextToken N h48) fun h54 => zb1 (sh_Mo_whole N h54) fun h60 => some (0, h60) else some (5, h))
set_option maxRecDepth 100000 in
set_option maxHeartbeats 4000000 in
theorem zw_Mo_beginOne {l : Launch} {E : zE} {d : Nat} (hd : 5 ≤ d) (N : Nat) {h : zHp} {Q : Int → zHp → Prop} {r0 : Int} {h0 : zHp} (hF : sh_Mo_beginOne N h = some (r0, h0)) (K : Q r0 h0) : zW l E d zm_Mo_beginOne 0 [.inr (.inr 85), zJk] [] h Q := by
  rw [sh_Mo_beginOne] at hF
  refine z_aload rfl rfl rfl ?_
  refine z_geti rfl rfl rfl rfl ?_
  refine z_const rfl ?_
  refine z_cne rfl (fun c1 => ?_) (fun c1 => ?_)
  · rw [if_neg c1] at hF
    refine z_aload rfl rfl rfl ?_
    obtain ⟨r7, hc6, hF⟩ := zbind1 hF
    refine z_inv1 (d' := d - 1) (As := []) rfl rfl (zf_Mo_nameOf (by omega) N hc6) rfl rfl rfl (by omega) rfl (fun r2 h3 hR4 hQ5 => ?_)
    obtain ⟨rfl, rfl⟩ := hQ5
    refine z_zlt rfl (fun c8 => ?_) (fun c8 => ?_)
    · rw [if_pos c8] at hF
      refine z_aload rfl rfl rfl ?_
      refine z_geti rfl rfl rfl rfl ?_
      refine z_const rfl ?_
      have hJ11 : zW l E d zm_Mo_beginOne 55 [.inr (.inr 85), zJk] [.inl (if h 85 9 = 40 then 40 else (if h 85 9 = 45 then 2 else 0 : Int) : Int)] h Q := by
        refine z_istore rfl rfl rfl ?_
        refine z_iload rfl rfl ?_
        refine z_zne rfl (fun c12 => ?_) (fun c12 => ?_)
        · rw [if_neg c12] at hF
          refine z_aload rfl rfl rfl ?_
          refine z_geti rfl rfl rfl rfl ?_
          refine z_const rfl ?_
          refine z_cne rfl (fun c13 => ?_) (fun c13 => ?_)
          · rw [if_neg c13] at hF
            refine z_aload rfl rfl rfl ?_
            refine z_dup rfl rfl ?_
            refine z_geti rfl rfl rfl rfl ?_
            refine z_const rfl ?_
            refine z_iadd rfl ?_
            refine z_puti rfl rfl rfl rfl ?_
            refine z_aload rfl rfl rfl ?_
            refine z_iload rfl rfl ?_
            obtain ⟨h19, hc18, hF⟩ := zbind1 hF
            refine z_inv0 (d' := d - 1) (As := [.inl (if h 85 9 = 40 then 40 else (if h 85 9 = 45 then 2 else 0 : Int) : Int)]) rfl rfl (zf_Mo_push (by omega) N _ hc18) rfl rfl rfl (by omega) rfl (fun r14 h15 hR16 hQ17 => ?_)
            obtain ⟨rfl, rfl⟩ := hQ17
            refine z_aload rfl rfl rfl ?_
            obtain ⟨h25, hc24, hF⟩ := zbind1 hF
            refine z_inv0 (d' := d - 1) (As := []) rfl rfl (zf_Mo_nextToken (by omega) N hc24) rfl rfl rfl (by omega) rfl (fun r20 h21 hR22 hQ23 => ?_)
            obtain ⟨rfl, rfl⟩ := hQ23
            refine z_const rfl ?_
            obtain ⟨rfl, rfl⟩ := zinj2 hF
            exact z_iret rfl rfl K
          · rw [if_pos c13] at hF
            refine z_const rfl ?_
            obtain ⟨rfl, rfl⟩ := zinj2 hF
            exact z_iret rfl rfl K
        · rw [if_pos c12] at hF
          refine z_const rfl ?_
          obtain ⟨rfl, rfl⟩ := zinj2 hF
          exact z_iret rfl rfl K
      refine z_cne rfl (fun c9 => ?_) (fun c9 => ?_)
      · refine z_aload rfl rfl rfl ?_
        refine z_geti rfl rfl rfl rfl ?_
        refine z_const rfl ?_
        refine z_cne rfl (fun c10 => ?_) (fun c10 => ?_)
        · refine z_const rfl ?_
          exact zcast (by first | rfl | (simp only [if_neg c9, if_neg c10] <;> rfl)) (by first | rfl | (simp only [if_neg c9, if_neg c10] <;> rfl)) hJ11
        · refine z_const rfl ?_
          refine z_goto rfl ?_
          exact zcast (by first | rfl | (simp only [if_neg c9, if_pos c10] <;> rfl)) (by first | rfl | (simp only [if_neg c9, if_pos c10] <;> rfl)) hJ11
      · refine z_const rfl ?_
        refine z_goto rfl ?_
        exact zcast (by first | rfl | (simp only [if_pos c9] <;> rfl)) (by first | rfl | (simp only [if_pos c9] <;> rfl)) hJ11
    · rw [if_neg c8] at hF
      refine z_aload rfl rfl rfl ?_
      refine z_aload rfl rfl rfl ?_
      obtain ⟨r31, hc30, hF⟩ := zbind1 hF
      refine z_inv1 (d' := d - 1) (As := []) rfl rfl (zf_Mo_nameOf (by omega) N hc30) rfl rfl rfl (by omega) rfl (fun r26 h27 hR28 hQ29 => ?_)
      obtain ⟨rfl, rfl⟩ := hQ29
      refine z_inv1 (d' := d - 1) (As := [.inl r31]) rfl rfl (zf_Mo_isBarred (by omega) _) rfl rfl rfl (by omega) rfl (fun r32 h33 hR34 hQ35 => ?_)
      obtain ⟨rfl, rfl⟩ := hQ35
      refine z_zeq rfl (fun c36 => ?_) (fun c36 => ?_)
      · rw [if_pos c36] at hF
        refine z_aload rfl rfl rfl ?_
        refine z_const rfl ?_
        refine z_aload rfl rfl rfl ?_
        obtain ⟨r42, hc41, hF⟩ := zbind1 hF
        refine z_inv1 (d' := d - 1) (As := []) rfl rfl (zf_Mo_nameOf (by omega) N hc41) rfl rfl rfl (by omega) rfl (fun r37 h38 hR39 hQ40 => ?_)
        obtain ⟨rfl, rfl⟩ := hQ40
        obtain ⟨h48, hc47, hF⟩ := zbind1 hF
        refine z_inv0 (d' := d - 1) (As := [.inl 1, .inl r42]) rfl rfl (zf_Mo_emit (by omega) N _ _ hc47) rfl rfl rfl (by omega) rfl (fun r43 h44 hR45 hQ46 => ?_)
        obtain ⟨rfl, rfl⟩ := hQ46
        refine z_aload rfl rfl rfl ?_
        obtain ⟨h54, hc53, hF⟩ := zbind1 hF
        refine z_inv0 (d' := d - 1) (As := []) rfl rfl (zf_Mo_nextToken (by omega) N hc53) rfl rfl rfl (by omega) rfl (fun r49 h50 hR51 hQ52 => ?_)
        obtain ⟨rfl, rfl⟩ := hQ52
        refine z_aload rfl rfl rfl ?_
        obtain ⟨h60, hc59, hF⟩ := zbind1 hF
        refine z_inv0 (d' := d - 1) (As := []) rfl rfl (zf_Mo_whole (by omega) N hc59) rfl rfl rfl (by omega) rfl (fun r55 h56 hR57 hQ58 => ?_)
        obtain ⟨rfl, rfl⟩ := hQ58
        refine z_const rfl ?_
        obtain ⟨rfl, rfl⟩ := zinj2 hF
        exact z_iret rfl rfl K
      · rw [if_neg c36] at hF
        refine z_const rfl ?_
        obtain ⟨rfl, rfl⟩ := zinj2 hF
        exact z_iret rfl rfl K
  · rw [if_pos c1] at hF
    refine z_aload rfl rfl rfl ?_
    refine z_geti rfl rfl rfl rfl ?_
    refine z_const rfl ?_
    refine z_cle rfl (fun c61 => ?_) (fun c61 => ?_)
    · rw [if_pos c61] at hF
      refine z_aload rfl rfl rfl ?_
      refine z_const rfl ?_
      refine z_aload rfl rfl rfl ?_
      refine z_geti rfl rfl rfl rfl ?_
      obtain ⟨h67, hc66, hF⟩ := zbind1 hF
      refine z_inv0 (d' := d - 1) (As := [.inl 0, .inl (h 85 10)]) rfl rfl (zf_Mo_emit (by omega) N _ _ hc66) rfl rfl rfl (by omega) rfl (fun r62 h63 hR64 hQ65 => ?_)
      obtain ⟨rfl, rfl⟩ := hQ65
      refine z_aload rfl rfl rfl ?_
      obtain ⟨h73, hc72, hF⟩ := zbind1 hF
      refine z_inv0 (d' := d - 1) (As := []) rfl rfl (zf_Mo_nextToken (by omega) N hc72) rfl rfl rfl (by omega) rfl (fun r68 h69 hR70 hQ71 => ?_)
      obtain ⟨rfl, rfl⟩ := hQ71
      refine z_aload rfl rfl rfl ?_
      obtain ⟨h79, hc78, hF⟩ := zbind1 hF
      refine z_inv0 (d' := d - 1) (As := []) rfl rfl (zf_Mo_whole (by omega) N hc78) rfl rfl rfl (by omega) rfl (fun r74 h75 hR76 hQ77 => ?_)
      obtain ⟨rfl, rfl⟩ := hQ77
      refine z_const rfl ?_
      obtain ⟨rfl, rfl⟩ := zinj2 hF
      exact z_iret rfl rfl K
    · rw [if_neg c61] at hF
      refine z_const rfl ?_
      obtain ⟨rfl, rfl⟩ := zinj2 hF
      exact z_iret rfl rfl K
set_option maxRecDepth 100000 in
theorem zf_Mo_beginOne {l : Launch} {E : zE} {d : Nat} (hd : 5 ≤ d) (N : Nat) {h : zHp} {r0 : Int} {h0 : zHp} (hF : sh_Mo_beginOne N h = some (r0, h0)) : zC l E d zm_Mo_beginOne [.inr (.inr 85)] h (fun r1 h1 => r0 = r1 ∧ h0 = h1) :=
  zC_of zk_Mo_beginOne (by decide) rfl rfl (Nat.le_of_ble_eq_true rfl) (zw_Mo_beginOne hd N hF ⟨rfl, rfl⟩)
def sh_Mo_summed_L6 (N : Nat) : Nat → zHp → Option ((Int × zHp) ⊕ (zHp))
  | 0, _ => none
  | n + 1, h => (if h 85 19 = 0 then (if h 85 19 = 0 then zb2 (sh_Mo_beginOne N h) fun r9 h10 => if r9 = 0 then sh_Mo_summed_L6 N n h10 else some (.inl (r9, h10)) else zb2 (sh_Mo_behindOne N h) fun r17 h18 => if r17 = 0 then sh_Mo_summed_L6 N n h18 else some (.inl (r17, h18))) else zb1 (sh_Mo_goesOn N h) fun r25 => if r25 = 0 then some (.inr h) else (if h 85 19 = 0 then zb2 (sh_Mo_beginOne N h) fun r34 h35 => if r34 = 0 then sh_Mo_summed_L6 N n h35 else some (.inl (r34, h35)) else zb2 (sh_Mo_behindOne N h) fun r42 h43 => if r42 = 0 then sh_Mo_summed_L6 N n h43 else some (.inl (r42, h43))))
def sh_Mo_summed (N : Nat) (h : zHp) : Option (Int × zHp) := zb1 (sh_Mo_summed_L6 N N (zst (zst h 85 17 0) 85 19 0)) fun w46 => zsum2 w46 (zcu2 fun y47 h48 => some (y47, h48)) (zcu1 fun h49 => zb1 (sh_Mo_settle N 3 h49) fun h55 => some ((if h55 85 17 ≤ 0 then 0 else 1 : Int), h55))
set_option maxRecDepth 100000 in
set_option maxHeartbeats 4000000 in
theorem zl_Mo_summed_L6 {l : Launch} {E : zE} {d : Nat} (hd : 6 ≤ d) (N : Nat) {Q : Int → zHp → Prop} {res : (Int × zHp) ⊕ (zHp)} (K1 : ∀ (o1 : Int) (oh : zHp), res = .inl (o1, oh) → zW l E d zm_Mo_summed 23 [zJk, .inl o1] [] oh Q) (K2 : ∀ (oh : zHp), res = .inr oh → zW l E d zm_Mo_summed 26 [.inr (.inr 85), zJk] [] oh Q) : ∀ (n : Nat) (h : zHp), sh_Mo_summed_L6 N n h = some res → zW l E d zm_Mo_summed 6 [.inr (.inr 85), zJk] [] h Q := by
  intro n
  induction n with
  | zero =>
    intro h hF
    cases (show (none : Option ((Int × zHp) ⊕ (zHp))) = some res from hF)
  | succ n ih =>
    intro h hF
    rw [sh_Mo_summed_L6] at hF
    refine z_aload rfl rfl rfl ?_
    refine z_geti rfl rfl rfl rfl ?_
    refine z_zeq rfl (fun c1 => ?_) (fun c1 => ?_)
    · rw [if_pos c1] at hF
      refine z_aload rfl rfl rfl ?_
      refine z_geti rfl rfl rfl rfl ?_
      refine z_zeq rfl (fun c3 => ?_) (fun c3 => ?_)
      · rw [if_pos c3] at hF
        refine z_aload rfl rfl rfl ?_
        obtain ⟨r9, h10, hc8, hF⟩ := zbind2 hF
        refine z_inv1 (d' := d - 1) (As := []) rfl rfl (zf_Mo_beginOne (by omega) N hc8) rfl rfl rfl (by omega) rfl (fun r4 h5 hR6 hQ7 => ?_)
        obtain ⟨rfl, rfl⟩ := hQ7
        refine z_istore rfl rfl rfl ?_
        refine z_iload rfl rfl ?_
        refine z_zeq rfl (fun c11 => ?_) (fun c11 => ?_)
        · rw [if_pos c11] at hF
          refine z_goto rfl ?_
          refine zsubL (L' := [.inr (.inr 85), zJk]) ⟨Or.inl rfl, Or.inr rfl, trivial⟩ ?_
          exact ih _ hF
        · rw [if_neg c11] at hF
          refine zsubL (L' := [zJk, .inl r9]) ⟨Or.inr rfl, Or.inl rfl, trivial⟩ ?_
          exact K1 _ _ (Option.some.inj hF).symm
      · rw [if_neg c3] at hF
        refine z_aload rfl rfl rfl ?_
        obtain ⟨r17, h18, hc16, hF⟩ := zbind2 hF
        refine z_inv1 (d' := d - 1) (As := []) rfl rfl (zf_Mo_behindOne (by omega) N hc16) rfl rfl rfl (by omega) rfl (fun r12 h13 hR14 hQ15 => ?_)
        obtain ⟨rfl, rfl⟩ := hQ15
        refine z_goto rfl ?_
        refine z_istore rfl rfl rfl ?_
        refine z_iload rfl rfl ?_
        refine z_zeq rfl (fun c19 => ?_) (fun c19 => ?_)
        · rw [if_pos c19] at hF
          refine z_goto rfl ?_
          refine zsubL (L' := [.inr (.inr 85), zJk]) ⟨Or.inl rfl, Or.inr rfl, trivial⟩ ?_
          exact ih _ hF
        · rw [if_neg c19] at hF
          refine zsubL (L' := [zJk, .inl r17]) ⟨Or.inr rfl, Or.inl rfl, trivial⟩ ?_
          exact K1 _ _ (Option.some.inj hF).symm
    · rw [if_neg c1] at hF
      refine z_aload rfl rfl rfl ?_
      obtain ⟨r25, hc24, hF⟩ := zbind1 hF
      refine z_inv1 (d' := d - 1) (As := []) rfl rfl (zf_Mo_goesOn (by omega) N hc24) rfl rfl rfl (by omega) rfl (fun r20 h21 hR22 hQ23 => ?_)
      obtain ⟨rfl, rfl⟩ := hQ23
      refine z_zeq rfl (fun c26 => ?_) (fun c26 => ?_)
      · rw [if_pos c26] at hF
        exact K2 _ (Option.some.inj hF).symm
      · rw [if_neg c26] at hF
        refine z_aload rfl rfl rfl ?_
        refine z_geti rfl rfl rfl rfl ?_
        refine z_zeq rfl (fun c28 => ?_) (fun c28 => ?_)
        · rw [if_pos c28] at hF
          refine z_aload rfl rfl rfl ?_
          obtain ⟨r34, h35, hc33, hF⟩ := zbind2 hF
          refine z_inv1 (d' := d - 1) (As := []) rfl rfl (zf_Mo_beginOne (by omega) N hc33) rfl rfl rfl (by omega) rfl (fun r29 h30 hR31 hQ32 => ?_)
          obtain ⟨rfl, rfl⟩ := hQ32
          refine z_istore rfl rfl rfl ?_
          refine z_iload rfl rfl ?_
          refine z_zeq rfl (fun c36 => ?_) (fun c36 => ?_)
          · rw [if_pos c36] at hF
            refine z_goto rfl ?_
            refine zsubL (L' := [.inr (.inr 85), zJk]) ⟨Or.inl rfl, Or.inr rfl, trivial⟩ ?_
            exact ih _ hF
          · rw [if_neg c36] at hF
            refine zsubL (L' := [zJk, .inl r34]) ⟨Or.inr rfl, Or.inl rfl, trivial⟩ ?_
            exact K1 _ _ (Option.some.inj hF).symm
        · rw [if_neg c28] at hF
          refine z_aload rfl rfl rfl ?_
          obtain ⟨r42, h43, hc41, hF⟩ := zbind2 hF
          refine z_inv1 (d' := d - 1) (As := []) rfl rfl (zf_Mo_behindOne (by omega) N hc41) rfl rfl rfl (by omega) rfl (fun r37 h38 hR39 hQ40 => ?_)
          obtain ⟨rfl, rfl⟩ := hQ40
          refine z_goto rfl ?_
          refine z_istore rfl rfl rfl ?_
          refine z_iload rfl rfl ?_
          refine z_zeq rfl (fun c44 => ?_) (fun c44 => ?_)
          · rw [if_pos c44] at hF
            refine z_goto rfl ?_
            refine zsubL (L' := [.inr (.inr 85), zJk]) ⟨Or.inl rfl, Or.inr rfl, trivial⟩ ?_
            exact ih _ hF
          · rw [if_neg c44] at hF
            refine zsubL (L' := [zJk, .inl r42]) ⟨Or.inr rfl, Or.inl rfl, trivial⟩ ?_
            exact K1 _ _ (Option.some.inj hF).symm
set_option maxRecDepth 100000 in
set_option maxHeartbeats 4000000 in
theorem zw_Mo_summed {l : Launch} {E : zE} {d : Nat} (hd : 6 ≤ d) (N : Nat) {h : zHp} {Q : Int → zHp → Prop} {r0 : Int} {h0 : zHp} (hF : sh_Mo_summed N h = some (r0, h0)) (K : Q r0 h0) : zW l E d zm_Mo_summed 0 [.inr (.inr 85), zJk] [] h Q := by
  rw [sh_Mo_summed] at hF
  refine z_aload rfl rfl rfl ?_
  refine z_const rfl ?_
  refine z_puti rfl rfl rfl rfl ?_
  refine z_aload rfl rfl rfl ?_
  refine z_const rfl ?_
  refine z_putz rfl rfl rfl rfl (Or.inl rfl) ?_
  obtain ⟨w46, hL45, hF⟩ := zbind1 hF
  rcases w46 with ⟨y47, h48⟩ | h49
  · refine zl_Mo_summed_L6 (by omega) N (fun q58 q59 e60 => ?_) (fun _ z => by cases z) N _ hL45
    obtain ⟨rfl, rfl⟩ := zinl2_0_2 e60
    replace hF := zs2_0_2 hF
    refine z_iload rfl rfl ?_
    obtain ⟨rfl, rfl⟩ := zinj2 hF
    exact z_iret rfl rfl K
  · refine zl_Mo_summed_L6 (by omega) N (fun _ _ z => by cases z) (fun q61 e62 => ?_) N _ hL45
    obtain rfl := zinl2_1_1 e62
    replace hF := zs2_1_1 hF
    refine z_aload rfl rfl rfl ?_
    refine z_const rfl ?_
    obtain ⟨h55, hc54, hF⟩ := zbind1 hF
    refine z_inv0 (d' := d - 1) (As := [.inl 3]) rfl rfl (zf_Mo_settle (by omega) N _ hc54) rfl rfl rfl (by omega) rfl (fun r50 h51 hR52 hQ53 => ?_)
    obtain ⟨rfl, rfl⟩ := hQ53
    refine z_aload rfl rfl rfl ?_
    refine z_geti rfl rfl rfl rfl ?_
    have hJ57 : zW l E d zm_Mo_summed 35 [zJk, zJk] [.inl (if h55 85 17 ≤ 0 then 0 else 1 : Int)] h55 Q := by
      obtain ⟨rfl, rfl⟩ := zinj2 hF
      exact z_iret rfl rfl K
    refine z_zle rfl (fun c56 => ?_) (fun c56 => ?_)
    · refine z_const rfl ?_
      refine zsubL (L' := [zJk, zJk]) ⟨Or.inr rfl, Or.inl rfl, trivial⟩ ?_
      exact zcast (by first | rfl | (simp only [if_pos c56] <;> rfl)) (by first | rfl | (simp only [if_pos c56] <;> rfl)) hJ57
    · refine z_const rfl ?_
      refine z_goto rfl ?_
      refine zsubL (L' := [zJk, zJk]) ⟨Or.inr rfl, Or.inl rfl, trivial⟩ ?_
      exact zcast (by first | rfl | (simp only [if_neg c56] <;> rfl)) (by first | rfl | (simp only [if_neg c56] <;> rfl)) hJ57
set_option maxRecDepth 100000 in
theorem zf_Mo_summed {l : Launch} {E : zE} {d : Nat} (hd : 6 ≤ d) (N : Nat) {h : zHp} {r0 : Int} {h0 : zHp} (hF : sh_Mo_summed N h = some (r0, h0)) : zC l E d zm_Mo_summed [.inr (.inr 85)] h (fun r1 h1 => r0 = r1 ∧ h0 = h1) :=
  zC_of zk_Mo_summed (by decide) rfl rfl (Nat.le_of_ble_eq_true rfl) (zw_Mo_summed hd N hF ⟨rfl, rfl⟩)
def sh_Mo_compareOf (h : zHp) : Int := (if h 85 9 = 60 then 10 else (if h 85 9 = 4 then 11 else (if h 85 9 = 62 then 12 else (if h 85 9 = 5 then 13 else (if h 85 9 = 61 then 14 else (if h 85 9 = 35 then 15 else (-1) : Int) : Int) : Int) : Int) : Int) : Int)
set_option maxRecDepth 100000 in
set_option maxHeartbeats 4000000 in
theorem zw_Mo_compareOf {l : Launch} {E : zE} {d : Nat} (hd : 1 ≤ d) {h : zHp} {Q : Int → zHp → Prop} {r0 : Int} (hF : sh_Mo_compareOf h = r0) (K : Q r0 h) : zW l E d zm_Mo_compareOf 0 [.inr (.inr 85)] [] h Q := by
  rw [sh_Mo_compareOf] at hF
  refine z_aload rfl rfl rfl ?_
  refine z_geti rfl rfl rfl rfl ?_
  refine z_const rfl ?_
  have hJ7 : zW l E d zm_Mo_compareOf 37 [zJk] [.inl (if h 85 9 = 60 then 10 else (if h 85 9 = 4 then 11 else (if h 85 9 = 62 then 12 else (if h 85 9 = 5 then 13 else (if h 85 9 = 61 then 14 else (if h 85 9 = 35 then 15 else (-1) : Int) : Int) : Int) : Int) : Int) : Int)] h Q := by
    subst hF
    exact z_iret rfl rfl K
  refine z_cne rfl (fun c1 => ?_) (fun c1 => ?_)
  · refine z_aload rfl rfl rfl ?_
    refine z_geti rfl rfl rfl rfl ?_
    refine z_const rfl ?_
    refine z_cne rfl (fun c2 => ?_) (fun c2 => ?_)
    · refine z_aload rfl rfl rfl ?_
      refine z_geti rfl rfl rfl rfl ?_
      refine z_const rfl ?_
      refine z_cne rfl (fun c3 => ?_) (fun c3 => ?_)
      · refine z_aload rfl rfl rfl ?_
        refine z_geti rfl rfl rfl rfl ?_
        refine z_const rfl ?_
        refine z_cne rfl (fun c4 => ?_) (fun c4 => ?_)
        · refine z_aload rfl rfl rfl ?_
          refine z_geti rfl rfl rfl rfl ?_
          refine z_const rfl ?_
          refine z_cne rfl (fun c5 => ?_) (fun c5 => ?_)
          · refine z_aload rfl rfl rfl ?_
            refine z_geti rfl rfl rfl rfl ?_
            refine z_const rfl ?_
            refine z_cne rfl (fun c6 => ?_) (fun c6 => ?_)
            · refine z_const rfl ?_
              refine zsubL (L' := [zJk]) ⟨Or.inr rfl, trivial⟩ ?_
              exact zcast (by first | rfl | (simp only [if_neg c1, if_neg c2, if_neg c3, if_neg c4, if_neg c5, if_neg c6] <;> rfl)) (by first | rfl | (simp only [if_neg c1, if_neg c2, if_neg c3, if_neg c4, if_neg c5, if_neg c6] <;> rfl)) hJ7
            · refine z_const rfl ?_
              refine z_goto rfl ?_
              refine zsubL (L' := [zJk]) ⟨Or.inr rfl, trivial⟩ ?_
              exact zcast (by first | rfl | (simp only [if_neg c1, if_neg c2, if_neg c3, if_neg c4, if_neg c5, if_pos c6] <;> rfl)) (by first | rfl | (simp only [if_neg c1, if_neg c2, if_neg c3, if_neg c4, if_neg c5, if_pos c6] <;> rfl)) hJ7
          · refine z_const rfl ?_
            refine z_goto rfl ?_
            refine zsubL (L' := [zJk]) ⟨Or.inr rfl, trivial⟩ ?_
            exact zcast (by first | rfl | (simp only [if_neg c1, if_neg c2, if_neg c3, if_neg c4, if_pos c5] <;> rfl)) (by first | rfl | (simp only [if_neg c1, if_neg c2, if_neg c3, if_neg c4, if_pos c5] <;> rfl)) hJ7
        · refine z_const rfl ?_
          refine z_goto rfl ?_
          refine zsubL (L' := [zJk]) ⟨Or.inr rfl, trivial⟩ ?_
          exact zcast (by first | rfl | (simp only [if_neg c1, if_neg c2, if_neg c3, if_pos c4] <;> rfl)) (by first | rfl | (simp only [if_neg c1, if_neg c2, if_neg c3, if_pos c4] <;> rfl)) hJ7
      · refine z_const rfl ?_
        refine z_goto rfl ?_
        refine zsubL (L' := [zJk]) ⟨Or.inr rfl, trivial⟩ ?_
        exact zcast (by first | rfl | (simp only [if_neg c1, if_neg c2, if_pos c3] <;> rfl)) (by first | rfl | (simp only [if_neg c1, if_neg c2, if_pos c3] <;> rfl)) hJ7
    · refine z_const rfl ?_
      refine z_goto rfl ?_
      refine zsubL (L' := [zJk]) ⟨Or.inr rfl, trivial⟩ ?_
      exact zcast (by first | rfl | (simp only [if_neg c1, if_pos c2] <;> rfl)) (by first | rfl | (simp only [if_neg c1, if_pos c2] <;> rfl)) hJ7
  · refine z_const rfl ?_
    refine z_goto rfl ?_
    refine zsubL (L' := [zJk]) ⟨Or.inr rfl, trivial⟩ ?_
    exact zcast (by first | rfl | (simp only [if_pos c1] <;> rfl)) (by first | rfl | (simp only [if_pos c1] <;> rfl)) hJ7
set_option maxRecDepth 100000 in
theorem zf_Mo_compareOf {l : Launch} {E : zE} {d : Nat} (hd : 1 ≤ d) {h : zHp} : zC l E d zm_Mo_compareOf [.inr (.inr 85)] h (fun r1 h1 => sh_Mo_compareOf h = r1 ∧ h = h1) :=
  zC_of zk_Mo_compareOf (by decide) rfl rfl (Nat.le_of_ble_eq_true rfl) (zw_Mo_compareOf hd rfl ⟨rfl, rfl⟩)
