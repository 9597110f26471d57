/-! the law, case by case: by program (wip/whole/law.py) -/
def zsx (E : zE) (a : Int) : Int := (zsc E).2.getD a.toNat 0
section ZL
variable {l : Launch} {E : zE} {d : Nat} {M : zMeth} {k : Nat} {L S : List zV} {h : zHp} {Q : Int → zHp → Prop}
theorem z_sld {a : Int} (hz : ∀ a, zI32 (zsx E a)) (ho : zop M k = (42, 0, [])) (h0 : 0 ≤ a) (h1 : a < ((zsc E).1 : Nat)) (kk : zI32 (zsx E a) → zW l E d M (k + 1) L (.inl (zsx E a) :: S) h Q) : zW l E d M k L (.inl a :: .inr (.inr 1000) :: S) h Q := by
  intro p e R s m args below meth c H locs ls cells slots QQ hX hE hS hL hv
  obtain ⟨hdg, hn⟩ := zsim_x hX ho (by decide) rfl
  have ha : zI32 a := (zrv_c hv).1
  obtain ⟨b1, b2, b3, -⟩ := hX.2.2.2.2.2.2.2.2.2.2.1
  have k1 := kk (hz a) p e R s m args below meth c H locs ls cells slots QQ hX hE hS hL (zrv_k (v := .inl (zsx E a)) (hz a) (zrv_c (zrv_c hv).2).2)
  rw [hn] at k1
  rw [List.map_cons, List.map_cons, zrf_r (by omega : 1000 < 1005)]
  refine va_sld hX.1 hX.2.1 b3 b1 b2 hS.2.2 (zvp ha h0 h1) hdg ?_
  rw [zcl_nat ha]
  exact k1
theorem z_sln (ho : zop M k = (48, 0, [])) (hz : (zsc E).1 < 100000) (kk : zW l E d M (k + 1) L (.inl (((zsc E).1 : Nat) : Int) :: S) h Q) : zW l E d M k L (.inr (.inr 1000) :: S) h Q := by
  intro p e R s m args below meth c H locs ls cells slots QQ hX hE hS hL hv
  obtain ⟨hdg, hn⟩ := zsim_x hX ho (by decide) rfl
  obtain ⟨b1, b2, b3, -⟩ := hX.2.2.2.2.2.2.2.2.2.2.1
  have k1 := kk p e R s m args below meth c H locs ls cells slots QQ hX hE hS hL (zrv_k (v := .inl (((zsc E).1 : Nat) : Int)) (by show zI32 _; unfold zI32; omega) (zrv_c hv).2)
  rw [hn] at k1
  rw [List.map_cons, zrf_r (by omega : 1000 < 1005)]
  refine va_slen hX.1 hX.2.1 b3 b1 b2 hS.2.2 hdg ?_
  have e1 : Int32.ofNat (zsc E).1 = Int32.ofInt (((zsc E).1 : Nat) : Int) := Int32.ofInt_eq_ofNat.symm
  rw [e1]
  exact k1
end ZL
def sh_La_c0 (N : Nat) (E : zE) (x3 : Int) (h : zHp) : Option (Int × zHp) := zb2 (sh_Ox_farm (zsx E (w32 (x3 + 1))) (zsx E (w32 (x3 + 2))) (zsx E (w32 (x3 + 3))) h) fun r6 h7 => zb2 (sh_Mo_farm N (zsx E (w32 (x3 + 1))) (zsx E (w32 (x3 + 2))) (zsx E (w32 (x3 + 3))) h7) fun r13 h14 => if r6 = r13 then some (1, h14) else some (0, h14)
set_option maxRecDepth 100000 in
set_option maxHeartbeats 4000000 in
theorem zw_La_c0 {l : Launch} {E : zE} {d : Nat} (hd : 4 ≤ d) (N : Nat) (x3 : Int) (hx0 : 0 ≤ x3) (hx1 : x3 + 7 ≤ ((zsc E).1 : Nat)) (hx2 : (zsc E).1 < 100000) (hz : ∀ a, zI32 (zsx E a)) {h : zHp} {Q : Int → zHp → Prop} {h0 : zHp} (hF : sh_La_c0 N E x3 h = some (1, h0)) (K : zW l E d zm_La_law 822 [.inr (.inr 1000), .inr (.inr 0), .inr (.inr 85), .inl x3] [] h0 Q) : zW l E d zm_La_law 22 [.inr (.inr 1000), .inr (.inr 0), .inr (.inr 85), .inl x3] [] h Q := by
  rw [sh_La_c0] at hF
  refine z_aload rfl rfl rfl ?_
  refine z_aload rfl rfl rfl ?_
  refine z_iload rfl rfl ?_
  refine z_const rfl ?_
  refine z_iadd rfl ?_
  refine z_sld hz rfl (by rw [w32_i ⟨by omega, by omega⟩]; omega) (by rw [w32_i ⟨by omega, by omega⟩]; omega) (fun _ => ?_)
  refine z_aload rfl rfl rfl ?_
  refine z_iload rfl rfl ?_
  refine z_const rfl ?_
  refine z_iadd rfl ?_
  refine z_sld hz rfl (by rw [w32_i ⟨by omega, by omega⟩]; omega) (by rw [w32_i ⟨by omega, by omega⟩]; omega) (fun _ => ?_)
  refine z_aload rfl rfl rfl ?_
  refine z_iload rfl rfl ?_
  refine z_const rfl ?_
  refine z_iadd rfl ?_
  refine z_sld hz rfl (by rw [w32_i ⟨by omega, by omega⟩]; omega) (by rw [w32_i ⟨by omega, by omega⟩]; omega) (fun _ => ?_)
  obtain ⟨r6, h7, hc5, hF⟩ := zbind2 hF
  refine z_inv1 (d' := d - 1) (As := [.inl (zsx E (w32 (x3 + 1))), .inl (zsx E (w32 (x3 + 2))), .inl (zsx E (w32 (x3 + 3)))]) rfl rfl (zf_Ox_farm (by omega) _ _ _ hc5) rfl rfl rfl (by omega) rfl (fun r1 h2 hR3 hQ4 => ?_)
  obtain ⟨rfl, rfl⟩ := hQ4
  refine z_aload rfl rfl rfl ?_
  refine z_aload rfl rfl rfl ?_
  refine z_iload rfl rfl ?_
  refine z_const rfl ?_
  refine z_iadd rfl ?_
  refine z_sld hz rfl (by rw [w32_i ⟨by omega, by omega⟩]; omega) (by rw [w32_i ⟨by omega, by omega⟩]; omega) (fun _ => ?_)
  refine z_aload rfl rfl rfl ?_
  refine z_iload rfl rfl ?_
  refine z_const rfl ?_
  refine z_iadd rfl ?_
  refine z_sld hz rfl (by rw [w32_i ⟨by omega, by omega⟩]; omega) (by rw [w32_i ⟨by omega, by omega⟩]; omega) (fun _ => ?_)
  refine z_aload rfl rfl rfl ?_
  refine z_iload rfl rfl ?_
  refine z_const rfl ?_
  refine z_iadd rfl ?_
  refine z_sld hz rfl (by rw [w32_i ⟨by omega, by omega⟩]; omega) (by rw [w32_i ⟨by omega, by omega⟩]; omega) (fun _ => ?_)
  obtain ⟨r13, h14, hc12, hF⟩ := zbind2 hF
  refine z_inv1 (d' := d - 1) (As := [.inl (zsx E (w32 (x3 + 1))), .inl (zsx E (w32 (x3 + 2))), .inl (zsx E (w32 (x3 + 3)))]) rfl rfl (zf_Mo_farm (by omega) N _ _ _ hc12) rfl rfl rfl (by omega) rfl (fun r8 h9 hR10 hQ11 => ?_)
  obtain ⟨rfl, rfl⟩ := hQ11
  refine z_ceq rfl (fun c15 => ?_) (fun c15 => ?_)
  · rw [if_pos c15] at hF
    obtain ⟨-, rfl⟩ := zinj2 hF
    exact K
  · rw [if_neg c15] at hF
    refine z_const rfl ?_
    exact absurd (zinj2 hF).1 (by decide)
def sh_La_c1 (N : Nat) (E : zE) (x3 : Int) (h : zHp) : Option (Int × zHp) := zb2 (sh_Ox_field (zsx E (w32 (x3 + 1))) (zsx E (w32 (x3 + 2))) (zsx E (w32 (x3 + 3))) (zsx E (w32 (x3 + 4))) h) fun r6 h7 => zb2 (sh_Mo_field N (zsx E (w32 (x3 + 1))) (zsx E (w32 (x3 + 2))) (zsx E (w32 (x3 + 3))) (zsx E (w32 (x3 + 4))) h7) fun r13 h14 => if r6 = r13 then some (1, h14) else some (0, h14)
set_option maxRecDepth 100000 in
set_option maxHeartbeats 4000000 in
theorem zw_La_c1 {l : Launch} {E : zE} {d : Nat} (hd : 5 ≤ d) (N : Nat) (x3 : Int) (hx0 : 0 ≤ x3) (hx1 : x3 + 7 ≤ ((zsc E).1 : Nat)) (hx2 : (zsc E).1 < 100000) (hz : ∀ a, zI32 (zsx E a)) {h : zHp} {Q : Int → zHp → Prop} {h0 : zHp} (hF : sh_La_c1 N E x3 h = some (1, h0)) (K : zW l E d zm_La_law 822 [.inr (.inr 1000), .inr (.inr 0), .inr (.inr 85), .inl x3] [] h0 Q) : zW l E d zm_La_law 59 [.inr (.inr 1000), .inr (.inr 0), .inr (.inr 85), .inl x3] [] h Q := by
  rw [sh_La_c1] at hF
  refine z_aload rfl rfl rfl ?_
  refine z_aload rfl rfl rfl ?_
  refine z_iload rfl rfl ?_
  refine z_const rfl ?_
  refine z_iadd rfl ?_
  refine z_sld hz rfl (by rw [w32_i ⟨by omega, by omega⟩]; omega) (by rw [w32_i ⟨by omega, by omega⟩]; omega) (fun _ => ?_)
  refine z_aload rfl rfl rfl ?_
  refine z_iload rfl rfl ?_
  refine z_const rfl ?_
  refine z_iadd rfl ?_
  refine z_sld hz rfl (by rw [w32_i ⟨by omega, by omega⟩]; omega) (by rw [w32_i ⟨by omega, by omega⟩]; omega) (fun _ => ?_)
  refine z_aload rfl rfl rfl ?_
  refine z_iload rfl rfl ?_
  refine z_const rfl ?_
  refine z_iadd rfl ?_
  refine z_sld hz rfl (by rw [w32_i ⟨by omega, by omega⟩]; omega) (by rw [w32_i ⟨by omega, by omega⟩]; omega) (fun _ => ?_)
  refine z_aload rfl rfl rfl ?_
  refine z_iload rfl rfl ?_
  refine z_const rfl ?_
  refine z_iadd rfl ?_
  refine z_sld hz rfl (by rw [w32_i ⟨by omega, by omega⟩]; omega) (by rw [w32_i ⟨by omega, by omega⟩]; omega) (fun _ => ?_)
  obtain ⟨r6, h7, hc5, hF⟩ := zbind2 hF
  refine z_inv1 (d' := d - 1) (As := [.inl (zsx E (w32 (x3 + 1))), .inl (zsx E (w32 (x3 + 2))), .inl (zsx E (w32 (x3 + 3))), .inl (zsx E (w32 (x3 + 4)))]) rfl rfl (zf_Ox_field (by omega) _ _ _ _ hc5) rfl rfl rfl (by omega) rfl (fun r1 h2 hR3 hQ4 => ?_)
  obtain ⟨rfl, rfl⟩ := hQ4
  refine z_aload rfl rfl rfl ?_
  refine z_aload rfl rfl rfl ?_
  refine z_iload rfl rfl ?_
  refine z_const rfl ?_
  refine z_iadd rfl ?_
  refine z_sld hz rfl (by rw [w32_i ⟨by omega, by omega⟩]; omega) (by rw [w32_i ⟨by omega, by omega⟩]; omega) (fun _ => ?_)
  refine z_aload rfl rfl rfl ?_
  refine z_iload rfl rfl ?_
  refine z_const rfl ?_
  refine z_iadd rfl ?_
  refine z_sld hz rfl (by rw [w32_i ⟨by omega, by omega⟩]; omega) (by rw [w32_i ⟨by omega, by omega⟩]; omega) (fun _ => ?_)
  refine z_aload rfl rfl rfl ?_
  refine z_iload rfl rfl ?_
  refine z_const rfl ?_
  refine z_iadd rfl ?_
  refine z_sld hz rfl (by rw [w32_i ⟨by omega, by omega⟩]; omega) (by rw [w32_i ⟨by omega, by omega⟩]; omega) (fun _ => ?_)
  refine z_aload rfl rfl rfl ?_
  refine z_iload rfl rfl ?_
  refine z_const rfl ?_
  refine z_iadd rfl ?_
  refine z_sld hz rfl (by rw [w32_i ⟨by omega, by omega⟩]; omega) (by rw [w32_i ⟨by omega, by omega⟩]; omega) (fun _ => ?_)
  obtain ⟨r13, h14, hc12, hF⟩ := zbind2 hF
  refine z_inv1 (d' := d - 1) (As := [.inl (zsx E (w32 (x3 + 1))), .inl (zsx E (w32 (x3 + 2))), .inl (zsx E (w32 (x3 + 3))), .inl (zsx E (w32 (x3 + 4)))]) rfl rfl (zf_Mo_field (by omega) N _ _ _ _ hc12) rfl rfl rfl (by omega) rfl (fun r8 h9 hR10 hQ11 => ?_)
  obtain ⟨rfl, rfl⟩ := hQ11
  refine z_ceq rfl (fun c15 => ?_) (fun c15 => ?_)
  · rw [if_pos c15] at hF
    obtain ⟨-, rfl⟩ := zinj2 hF
    exact K
  · rw [if_neg c15] at hF
    refine z_const rfl ?_
    exact absurd (zinj2 hF).1 (by decide)
def sh_La_c2 (N : Nat) (E : zE) (x3 : Int) (h : zHp) : Option (Int × zHp) := zb2 (sh_Ox_ox (zsx E (w32 (x3 + 1))) (zsx E (w32 (x3 + 2))) (zsx E (w32 (x3 + 3))) (zsx E (w32 (x3 + 4))) h) fun r6 h7 => zb2 (sh_Mo_ox N (zsx E (w32 (x3 + 1))) (zsx E (w32 (x3 + 2))) (zsx E (w32 (x3 + 3))) (zsx E (w32 (x3 + 4))) h7) fun r13 h14 => if r6 = r13 then some (1, h14) else some (0, h14)
set_option maxRecDepth 100000 in
set_option maxHeartbeats 4000000 in
theorem zw_La_c2 {l : Launch} {E : zE} {d : Nat} (hd : 5 ≤ d) (N : Nat) (x3 : Int) (hx0 : 0 ≤ x3) (hx1 : x3 + 7 ≤ ((zsc E).1 : Nat)) (hx2 : (zsc E).1 < 100000) (hz : ∀ a, zI32 (zsx E a)) {h : zHp} {Q : Int → zHp → Prop} {h0 : zHp} (hF : sh_La_c2 N E x3 h = some (1, h0)) (K : zW l E d zm_La_law 822 [.inr (.inr 1000), .inr (.inr 0), .inr (.inr 85), .inl x3] [] h0 Q) : zW l E d zm_La_law 106 [.inr (.inr 1000), .inr (.inr 0), .inr (.inr 85), .inl x3] [] h Q := by
  rw [sh_La_c2] at hF
  refine z_aload rfl rfl rfl ?_
  refine z_aload rfl rfl rfl ?_
  refine z_iload rfl rfl ?_
  refine z_const rfl ?_
  refine z_iadd rfl ?_
  refine z_sld hz rfl (by rw [w32_i ⟨by omega, by omega⟩]; omega) (by rw [w32_i ⟨by omega, by omega⟩]; omega) (fun _ => ?_)
  refine z_aload rfl rfl rfl ?_
  refine z_iload rfl rfl ?_
  refine z_const rfl ?_
  refine z_iadd rfl ?_
  refine z_sld hz rfl (by rw [w32_i ⟨by omega, by omega⟩]; omega) (by rw [w32_i ⟨by omega, by omega⟩]; omega) (fun _ => ?_)
  refine z_aload rfl rfl rfl ?_
  refine z_iload rfl rfl ?_
  refine z_const rfl ?_
  refine z_iadd rfl ?_
  refine z_sld hz rfl (by rw [w32_i ⟨by omega, by omega⟩]; omega) (by rw [w32_i ⟨by omega, by omega⟩]; omega) (fun _ => ?_)
  refine z_aload rfl rfl rfl ?_
  refine z_iload rfl rfl ?_
  refine z_const rfl ?_
  refine z_iadd rfl ?_
  refine z_sld hz rfl (by rw [w32_i ⟨by omega, by omega⟩]; omega) (by rw [w32_i ⟨by omega, by omega⟩]; omega) (fun _ => ?_)
  obtain ⟨r6, h7, hc5, hF⟩ := zbind2 hF
  refine z_inv1 (d' := d - 1) (As := [.inl (zsx E (w32 (x3 + 1))), .inl (zsx E (w32 (x3 + 2))), .inl (zsx E (w32 (x3 + 3))), .inl (zsx E (w32 (x3 + 4)))]) rfl rfl (zf_Ox_ox (by omega) _ _ _ _ hc5) rfl rfl rfl (by omega) rfl (fun r1 h2 hR3 hQ4 => ?_)
  obtain ⟨rfl, rfl⟩ := hQ4
  refine z_aload rfl rfl rfl ?_
  refine z_aload rfl rfl rfl ?_
  refine z_iload rfl rfl ?_
  refine z_const rfl ?_
  refine z_iadd rfl ?_
  refine z_sld hz rfl (by rw [w32_i ⟨by omega, by omega⟩]; omega) (by rw [w32_i ⟨by omega, by omega⟩]; omega) (fun _ => ?_)
  refine z_aload rfl rfl rfl ?_
  refine z_iload rfl rfl ?_
  refine z_const rfl ?_
  refine z_iadd rfl ?_
  refine z_sld hz rfl (by rw [w32_i ⟨by omega, by omega⟩]; omega) (by rw [w32_i ⟨by omega, by omega⟩]; omega) (fun _ => ?_)
  refine z_aload rfl rfl rfl ?_
  refine z_iload rfl rfl ?_
  refine z_const rfl ?_
  refine z_iadd rfl ?_
  refine z_sld hz rfl (by rw [w32_i ⟨by omega, by omega⟩]; omega) (by rw [w32_i ⟨by omega, by omega⟩]; omega) (fun _ => ?_)
  refine z_aload rfl rfl rfl ?_
  refine z_iload rfl rfl ?_
  refine z_const rfl ?_
  refine z_iadd rfl ?_
  refine z_sld hz rfl (by rw [w32_i ⟨by omega, by omega⟩]; omega) (by rw [w32_i ⟨by omega, by omega⟩]; omega) (fun _ => ?_)
  obtain ⟨r13, h14, hc12, hF⟩ := zbind2 hF
  refine z_inv1 (d' := d - 1) (As := [.inl (zsx E (w32 (x3 + 1))), .inl (zsx E (w32 (x3 + 2))), .inl (zsx E (w32 (x3 + 3))), .inl (zsx E (w32 (x3 + 4)))]) rfl rfl (zf_Mo_ox (by omega) N _ _ _ _ hc12) rfl rfl rfl (by omega) rfl (fun r8 h9 hR10 hQ11 => ?_)
  obtain ⟨rfl, rfl⟩ := hQ11
  refine z_ceq rfl (fun c15 => ?_) (fun c15 => ?_)
  · rw [if_pos c15] at hF
    obtain ⟨-, rfl⟩ := zinj2 hF
    exact K
  · rw [if_neg c15] at hF
    refine z_const rfl ?_
    exact absurd (zinj2 hF).1 (by decide)
def sh_La_c3 (N : Nat) (E : zE) (x3 : Int) (h : zHp) : Option (Int × zHp) := zb2 (sh_Ox_feed N (zsx E (w32 (x3 + 1))) (zsx E (w32 (x3 + 2))) (zsx E (w32 (x3 + 3))) (zsx E (w32 (x3 + 4))) (zsx E (w32 (x3 + 5))) h) fun r6 h7 => zb2 (sh_Mo_feed N (zsx E (w32 (x3 + 1))) (zsx E (w32 (x3 + 2))) (zsx E (w32 (x3 + 3))) (zsx E (w32 (x3 + 4))) (zsx E (w32 (x3 + 5))) h7) fun r13 h14 => if r6 = r13 then some (1, h14) else some (0, h14)
set_option maxRecDepth 100000 in
set_option maxHeartbeats 4000000 in
theorem zw_La_c3 {l : Launch} {E : zE} {d : Nat} (hd : 4 ≤ d) (N : Nat) (x3 : Int) (hx0 : 0 ≤ x3) (hx1 : x3 + 7 ≤ ((zsc E).1 : Nat)) (hx2 : (zsc E).1 < 100000) (hz : ∀ a, zI32 (zsx E a)) {h : zHp} {Q : Int → zHp → Prop} {h0 : zHp} (hF : sh_La_c3 N E x3 h = some (1, h0)) (K : zW l E d zm_La_law 822 [.inr (.inr 1000), .inr (.inr 0), .inr (.inr 85), .inl x3] [] h0 Q) : zW l E d zm_La_law 153 [.inr (.inr 1000), .inr (.inr 0), .inr (.inr 85), .inl x3] [] h Q := by
  rw [sh_La_c3] at hF
  refine z_aload rfl rfl rfl ?_
  refine z_aload rfl rfl rfl ?_
  refine z_iload rfl rfl ?_
  refine z_const rfl ?_
  refine z_iadd rfl ?_
  refine z_sld hz rfl (by rw [w32_i ⟨by omega, by omega⟩]; omega) (by rw [w32_i ⟨by omega, by omega⟩]; omega) (fun _ => ?_)
  refine z_aload rfl rfl rfl ?_
  refine z_iload rfl rfl ?_
  refine z_const rfl ?_
  refine z_iadd rfl ?_
  refine z_sld hz rfl (by rw [w32_i ⟨by omega, by omega⟩]; omega) (by rw [w32_i ⟨by omega, by omega⟩]; omega) (fun _ => ?_)
  refine z_aload rfl rfl rfl ?_
  refine z_iload rfl rfl ?_
  refine z_const rfl ?_
  refine z_iadd rfl ?_
  refine z_sld hz rfl (by rw [w32_i ⟨by omega, by omega⟩]; omega) (by rw [w32_i ⟨by omega, by omega⟩]; omega) (fun _ => ?_)
  refine z_aload rfl rfl rfl ?_
  refine z_iload rfl rfl ?_
  refine z_const rfl ?_
  refine z_iadd rfl ?_
  refine z_sld hz rfl (by rw [w32_i ⟨by omega, by omega⟩]; omega) (by rw [w32_i ⟨by omega, by omega⟩]; omega) (fun _ => ?_)
  refine z_aload rfl rfl rfl ?_
  refine z_iload rfl rfl ?_
  refine z_const rfl ?_
  refine z_iadd rfl ?_
  refine z_sld hz rfl (by rw [w32_i ⟨by omega, by omega⟩]; omega) (by rw [w32_i ⟨by omega, by omega⟩]; omega) (fun _ => ?_)
  obtain ⟨r6, h7, hc5, hF⟩ := zbind2 hF
  refine z_inv1 (d' := d - 1) (As := [.inl (zsx E (w32 (x3 + 1))), .inl (zsx E (w32 (x3 + 2))), .inl (zsx E (w32 (x3 + 3))), .inl (zsx E (w32 (x3 + 4))), .inl (zsx E (w32 (x3 + 5)))]) rfl rfl (zf_Ox_feed (by omega) N _ _ _ _ _ hc5) rfl rfl rfl (by omega) rfl (fun r1 h2 hR3 hQ4 => ?_)
  obtain ⟨rfl, rfl⟩ := hQ4
  refine z_aload rfl rfl rfl ?_
  refine z_aload rfl rfl rfl ?_
  refine z_iload rfl rfl ?_
  refine z_const rfl ?_
  refine z_iadd rfl ?_
  refine z_sld hz rfl (by rw [w32_i ⟨by omega, by omega⟩]; omega) (by rw [w32_i ⟨by omega, by omega⟩]; omega) (fun _ => ?_)
  refine z_aload rfl rfl rfl ?_
  refine z_iload rfl rfl ?_
  refine z_const rfl ?_
  refine z_iadd rfl ?_
  refine z_sld hz rfl (by rw [w32_i ⟨by omega, by omega⟩]; omega) (by rw [w32_i ⟨by omega, by omega⟩]; omega) (fun _ => ?_)
  refine z_aload rfl rfl rfl ?_
  refine z_iload rfl rfl ?_
  refine z_const rfl ?_
  refine z_iadd rfl ?_
  refine z_sld hz rfl (by rw [w32_i ⟨by omega, by omega⟩]; omega) (by rw [w32_i ⟨by omega, by omega⟩]; omega) (fun _ => ?_)
  refine z_aload rfl rfl rfl ?_
  refine z_iload rfl rfl ?_
  refine z_const rfl ?_
  refine z_iadd rfl ?_
  refine z_sld hz rfl (by rw [w32_i ⟨by omega, by omega⟩]; omega) (by rw [w32_i ⟨by omega, by omega⟩]; omega) (fun _ => ?_)
  refine z_aload rfl rfl rfl ?_
  refine z_iload rfl rfl ?_
  refine z_const rfl ?_
  refine z_iadd rfl ?_
  refine z_sld hz rfl (by rw [w32_i ⟨by omega, by omega⟩]; omega) (by rw [w32_i ⟨by omega, by omega⟩]; omega) (fun _ => ?_)
  obtain ⟨r13, h14, hc12, hF⟩ := zbind2 hF
  refine z_inv1 (d' := d - 1) (As := [.inl (zsx E (w32 (x3 + 1))), .inl (zsx E (w32 (x3 + 2))), .inl (zsx E (w32 (x3 + 3))), .inl (zsx E (w32 (x3 + 4))), .inl (zsx E (w32 (x3 + 5)))]) rfl rfl (zf_Mo_feed (by omega) N _ _ _ _ _ hc12) rfl rfl rfl (by omega) rfl (fun r8 h9 hR10 hQ11 => ?_)
  obtain ⟨rfl, rfl⟩ := hQ11
  refine z_ceq rfl (fun c15 => ?_) (fun c15 => ?_)
  · rw [if_pos c15] at hF
    obtain ⟨-, rfl⟩ := zinj2 hF
    exact K
  · rw [if_neg c15] at hF
    refine z_const rfl ?_
    exact absurd (zinj2 hF).1 (by decide)
def sh_La_c4 (N : Nat) (E : zE) (x3 : Int) (h : zHp) : Option (Int × zHp) := zb2 (sh_Ox_end (zsx E (w32 (x3 + 1))) h) fun r6 h7 => zb2 (sh_Mo_end (zsx E (w32 (x3 + 1))) h7) fun r13 h14 => if r6 = r13 then some (1, h14) else some (0, h14)
set_option maxRecDepth 100000 in
set_option maxHeartbeats 4000000 in
theorem zw_La_c4 {l : Launch} {E : zE} {d : Nat} (hd : 3 ≤ d) (N : Nat) (x3 : Int) (hx0 : 0 ≤ x3) (hx1 : x3 + 7 ≤ ((zsc E).1 : Nat)) (hx2 : (zsc E).1 < 100000) (hz : ∀ a, zI32 (zsx E a)) {h : zHp} {Q : Int → zHp → Prop} {h0 : zHp} (hF : sh_La_c4 N E x3 h = some (1, h0)) (K : zW l E d zm_La_law 822 [.inr (.inr 1000), .inr (.inr 0), .inr (.inr 85), .inl x3] [] h0 Q) : zW l E d zm_La_law 210 [.inr (.inr 1000), .inr (.inr 0), .inr (.inr 85), .inl x3] [] h Q := by
  rw [sh_La_c4] at hF
  refine z_aload rfl rfl rfl ?_
  refine z_aload rfl rfl rfl ?_
  refine z_iload rfl rfl ?_
  refine z_const rfl ?_
  refine z_iadd rfl ?_
  refine z_sld hz rfl (by rw [w32_i ⟨by omega, by omega⟩]; omega) (by rw [w32_i ⟨by omega, by omega⟩]; omega) (fun _ => ?_)
  obtain ⟨r6, h7, hc5, hF⟩ := zbind2 hF
  refine z_inv1 (d' := d - 1) (As := [.inl (zsx E (w32 (x3 + 1)))]) rfl rfl (zf_Ox_end (by omega) _ hc5) rfl rfl rfl (by omega) rfl (fun r1 h2 hR3 hQ4 => ?_)
  obtain ⟨rfl, rfl⟩ := hQ4
  refine z_aload rfl rfl rfl ?_
  refine z_aload rfl rfl rfl ?_
  refine z_iload rfl rfl ?_
  refine z_const rfl ?_
  refine z_iadd rfl ?_
  refine z_sld hz rfl (by rw [w32_i ⟨by omega, by omega⟩]; omega) (by rw [w32_i ⟨by omega, by omega⟩]; omega) (fun _ => ?_)
  obtain ⟨r13, h14, hc12, hF⟩ := zbind2 hF
  refine z_inv1 (d' := d - 1) (As := [.inl (zsx E (w32 (x3 + 1)))]) rfl rfl (zf_Mo_end (by omega) _ hc12) rfl rfl rfl (by omega) rfl (fun r8 h9 hR10 hQ11 => ?_)
  obtain ⟨rfl, rfl⟩ := hQ11
  refine z_ceq rfl (fun c15 => ?_) (fun c15 => ?_)
  · rw [if_pos c15] at hF
    obtain ⟨-, rfl⟩ := zinj2 hF
    exact K
  · rw [if_neg c15] at hF
    refine z_const rfl ?_
    exact absurd (zinj2 hF).1 (by decide)
def sh_La_c5 (N : Nat) (E : zE) (x3 : Int) (h : zHp) : Option (Int × zHp) := zb2 (sh_Ox_text N h) fun r6 h7 => zb2 (sh_Mo_text N h7) fun r13 h14 => if r6 = r13 then some (1, h14) else some (0, h14)
set_option maxRecDepth 100000 in
set_option maxHeartbeats 4000000 in
theorem zw_La_c5 {l : Launch} {E : zE} {d : Nat} (hd : 116 ≤ d) (N : Nat) (x3 : Int) (hx0 : 0 ≤ x3) (hx1 : x3 + 7 ≤ ((zsc E).1 : Nat)) (hx2 : (zsc E).1 < 100000) (hz : ∀ a, zI32 (zsx E a)) {h : zHp} {Q : Int → zHp → Prop} {h0 : zHp} (hF : sh_La_c5 N E x3 h = some (1, h0)) (K : zW l E d zm_La_law 822 [.inr (.inr 1000), .inr (.inr 0), .inr (.inr 85), .inl x3] [] h0 Q) : zW l E d zm_La_law 227 [.inr (.inr 1000), .inr (.inr 0), .inr (.inr 85), .inl x3] [] h Q := by
  rw [sh_La_c5] at hF
  refine z_aload rfl rfl rfl ?_
  obtain ⟨r6, h7, hc5, hF⟩ := zbind2 hF
  refine z_inv1 (d' := d - 1) (As := []) rfl rfl (zf_Ox_text (by omega) N hc5) rfl rfl rfl (by omega) rfl (fun r1 h2 hR3 hQ4 => ?_)
  obtain ⟨rfl, rfl⟩ := hQ4
  refine z_aload rfl rfl rfl ?_
  obtain ⟨r13, h14, hc12, hF⟩ := zbind2 hF
  refine z_inv1 (d' := d - 1) (As := []) rfl rfl (zf_Mo_text (by omega) N hc12) rfl rfl rfl (by omega) rfl (fun r8 h9 hR10 hQ11 => ?_)
  obtain ⟨rfl, rfl⟩ := hQ11
  refine z_ceq rfl (fun c15 => ?_) (fun c15 => ?_)
  · rw [if_pos c15] at hF
    obtain ⟨-, rfl⟩ := zinj2 hF
    exact K
  · rw [if_neg c15] at hF
    refine z_const rfl ?_
    exact absurd (zinj2 hF).1 (by decide)
def sh_La_c6 (N : Nat) (E : zE) (x3 : Int) (h : zHp) : Option (Int × zHp) := (if sh_Ox_fault (zsx E (w32 (x3 + 1))) h = sh_Mo_fault (zsx E (w32 (x3 + 1))) h then some (1, h) else some (0, h))
set_option maxRecDepth 100000 in
set_option maxHeartbeats 4000000 in
theorem zw_La_c6 {l : Launch} {E : zE} {d : Nat} (hd : 2 ≤ d) (N : Nat) (x3 : Int) (hx0 : 0 ≤ x3) (hx1 : x3 + 7 ≤ ((zsc E).1 : Nat)) (hx2 : (zsc E).1 < 100000) (hz : ∀ a, zI32 (zsx E a)) {h : zHp} {Q : Int → zHp → Prop} {h0 : zHp} (hF : sh_La_c6 N E x3 h = some (1, h0)) (K : zW l E d zm_La_law 822 [.inr (.inr 1000), .inr (.inr 0), .inr (.inr 85), .inl x3] [] h0 Q) : zW l E d zm_La_law 234 [.inr (.inr 1000), .inr (.inr 0), .inr (.inr 85), .inl x3] [] h Q := by
  rw [sh_La_c6] at hF
  refine z_aload rfl rfl rfl ?_
  refine z_aload rfl rfl rfl ?_
  refine z_iload rfl rfl ?_
  refine z_const rfl ?_
  refine z_iadd rfl ?_
  refine z_sld hz rfl (by rw [w32_i ⟨by omega, by omega⟩]; omega) (by rw [w32_i ⟨by omega, by omega⟩]; omega) (fun _ => ?_)
  refine z_inv1 (d' := d - 1) (As := [.inl (zsx E (w32 (x3 + 1)))]) rfl rfl (zf_Ox_fault (by omega) _) rfl rfl rfl (by omega) rfl (fun r1 h2 hR3 hQ4 => ?_)
  obtain ⟨rfl, rfl⟩ := hQ4
  refine z_aload rfl rfl rfl ?_
  refine z_aload rfl rfl rfl ?_
  refine z_iload rfl rfl ?_
  refine z_const rfl ?_
  refine z_iadd rfl ?_
  refine z_sld hz rfl (by rw [w32_i ⟨by omega, by omega⟩]; omega) (by rw [w32_i ⟨by omega, by omega⟩]; omega) (fun _ => ?_)
  refine z_inv1 (d' := d - 1) (As := [.inl (zsx E (w32 (x3 + 1)))]) rfl rfl (zf_Mo_fault (by omega) _) rfl rfl rfl (by omega) rfl (fun r5 h6 hR7 hQ8 => ?_)
  obtain ⟨rfl, rfl⟩ := hQ8
  refine z_ceq rfl (fun c9 => ?_) (fun c9 => ?_)
  · rw [if_pos c9] at hF
    obtain ⟨-, rfl⟩ := zinj2 hF
    exact K
  · rw [if_neg c9] at hF
    refine z_const rfl ?_
    exact absurd (zinj2 hF).1 (by decide)
def sh_La_c7 (N : Nat) (E : zE) (x3 : Int) (h : zHp) : Option (Int × zHp) := zb2 (sh_Ox_by (zsx E (w32 (x3 + 1))) h) fun r6 h7 => zb2 (sh_Mo_by (zsx E (w32 (x3 + 1))) h7) fun r13 h14 => if r6 = r13 then some (1, h14) else some (0, h14)
set_option maxRecDepth 100000 in
set_option maxHeartbeats 4000000 in
theorem zw_La_c7 {l : Launch} {E : zE} {d : Nat} (hd : 3 ≤ d) (N : Nat) (x3 : Int) (hx0 : 0 ≤ x3) (hx1 : x3 + 7 ≤ ((zsc E).1 : Nat)) (hx2 : (zsc E).1 < 100000) (hz : ∀ a, zI32 (zsx E a)) {h : zHp} {Q : Int → zHp → Prop} {h0 : zHp} (hF : sh_La_c7 N E x3 h = some (1, h0)) (K : zW l E d zm_La_law 822 [.inr (.inr 1000), .inr (.inr 0), .inr (.inr 85), .inl x3] [] h0 Q) : zW l E d zm_La_law 251 [.inr (.inr 1000), .inr (.inr 0), .inr (.inr 85), .inl x3] [] h Q := by
  rw [sh_La_c7] at hF
  refine z_aload rfl rfl rfl ?_
  refine z_aload rfl rfl rfl ?_
  refine z_iload rfl rfl ?_
  refine z_const rfl ?_
  refine z_iadd rfl ?_
  refine z_sld hz rfl (by rw [w32_i ⟨by omega, by omega⟩]; omega) (by rw [w32_i ⟨by omega, by omega⟩]; omega) (fun _ => ?_)
  obtain ⟨r6, h7, hc5, hF⟩ := zbind2 hF
  refine z_inv1 (d' := d - 1) (As := [.inl (zsx E (w32 (x3 + 1)))]) rfl rfl (zf_Ox_by (by omega) _ hc5) rfl rfl rfl (by omega) rfl (fun r1 h2 hR3 hQ4 => ?_)
  obtain ⟨rfl, rfl⟩ := hQ4
  refine z_aload rfl rfl rfl ?_
  refine z_aload rfl rfl rfl ?_
  refine z_iload rfl rfl ?_
  refine z_const rfl ?_
  refine z_iadd rfl ?_
  refine z_sld hz rfl (by rw [w32_i ⟨by omega, by omega⟩]; omega) (by rw [w32_i ⟨by omega, by omega⟩]; omega) (fun _ => ?_)
  obtain ⟨r13, h14, hc12, hF⟩ := zbind2 hF
  refine z_inv1 (d' := d - 1) (As := [.inl (zsx E (w32 (x3 + 1)))]) rfl rfl (zf_Mo_by (by omega) _ hc12) rfl rfl rfl (by omega) rfl (fun r8 h9 hR10 hQ11 => ?_)
  obtain ⟨rfl, rfl⟩ := hQ11
  refine z_ceq rfl (fun c15 => ?_) (fun c15 => ?_)
  · rw [if_pos c15] at hF
    obtain ⟨-, rfl⟩ := zinj2 hF
    exact K
  · rw [if_neg c15] at hF
    refine z_const rfl ?_
    exact absurd (zinj2 hF).1 (by decide)
def sh_La_c8 (N : Nat) (E : zE) (x3 : Int) (h : zHp) : Option (Int × zHp) := zb2 (sh_Ox_yoke (zsx E (w32 (x3 + 1))) (zsx E (w32 (x3 + 2))) (zsx E (w32 (x3 + 3))) h) fun r6 h7 => zb2 (sh_Mo_yoke N (zsx E (w32 (x3 + 1))) (zsx E (w32 (x3 + 2))) (zsx E (w32 (x3 + 3))) h7) fun r13 h14 => if r6 = r13 then some (1, h14) else some (0, h14)
set_option maxRecDepth 100000 in
set_option maxHeartbeats 4000000 in
theorem zw_La_c8 {l : Launch} {E : zE} {d : Nat} (hd : 7 ≤ d) (N : Nat) (x3 : Int) (hx0 : 0 ≤ x3) (hx1 : x3 + 7 ≤ ((zsc E).1 : Nat)) (hx2 : (zsc E).1 < 100000) (hz : ∀ a, zI32 (zsx E a)) {h : zHp} {Q : Int → zHp → Prop} {h0 : zHp} (hF : sh_La_c8 N E x3 h = some (1, h0)) (K : zW l E d zm_La_law 822 [.inr (.inr 1000), .inr (.inr 0), .inr (.inr 85), .inl x3] [] h0 Q) : zW l E d zm_La_law 268 [.inr (.inr 1000), .inr (.inr 0), .inr (.inr 85), .inl x3] [] h Q := by
  rw [sh_La_c8] at hF
  refine z_aload rfl rfl rfl ?_
  refine z_aload rfl rfl rfl ?_
  refine z_iload rfl rfl ?_
  refine z_const rfl ?_
  refine z_iadd rfl ?_
  refine z_sld hz rfl (by rw [w32_i ⟨by omega, by omega⟩]; omega) (by rw [w32_i ⟨by omega, by omega⟩]; omega) (fun _ => ?_)
  refine z_aload rfl rfl rfl ?_
  refine z_iload rfl rfl ?_
  refine z_const rfl ?_
  refine z_iadd rfl ?_
  refine z_sld hz rfl (by rw [w32_i ⟨by omega, by omega⟩]; omega) (by rw [w32_i ⟨by omega, by omega⟩]; omega) (fun _ => ?_)
  refine z_aload rfl rfl rfl ?_
  refine z_iload rfl rfl ?_
  refine z_const rfl ?_
  refine z_iadd rfl ?_
  refine z_sld hz rfl (by rw [w32_i ⟨by omega, by omega⟩]; omega) (by rw [w32_i ⟨by omega, by omega⟩]; omega) (fun _ => ?_)
  obtain ⟨r6, h7, hc5, hF⟩ := zbind2 hF
  refine z_inv1 (d' := d - 1) (As := [.inl (zsx E (w32 (x3 + 1))), .inl (zsx E (w32 (x3 + 2))), .inl (zsx E (w32 (x3 + 3)))]) rfl rfl (zf_Ox_yoke (by omega) _ _ _ hc5) rfl rfl rfl (by omega) rfl (fun r1 h2 hR3 hQ4 => ?_)
  obtain ⟨rfl, rfl⟩ := hQ4
  refine z_aload rfl rfl rfl ?_
  refine z_aload rfl rfl rfl ?_
  refine z_iload rfl rfl ?_
  refine z_const rfl ?_
  refine z_iadd rfl ?_
  refine z_sld hz rfl (by rw [w32_i ⟨by omega, by omega⟩]; omega) (by rw [w32_i ⟨by omega, by omega⟩]; omega) (fun _ => ?_)
  refine z_aload rfl rfl rfl ?_
  refine z_iload rfl rfl ?_
  refine z_const rfl ?_
  refine z_iadd rfl ?_
  refine z_sld hz rfl (by rw [w32_i ⟨by omega, by omega⟩]; omega) (by rw [w32_i ⟨by omega, by omega⟩]; omega) (fun _ => ?_)
  refine z_aload rfl rfl rfl ?_
  refine z_iload rfl rfl ?_
  refine z_const rfl ?_
  refine z_iadd rfl ?_
  refine z_sld hz rfl (by rw [w32_i ⟨by omega, by omega⟩]; omega) (by rw [w32_i ⟨by omega, by omega⟩]; omega) (fun _ => ?_)
  obtain ⟨r13, h14, hc12, hF⟩ := zbind2 hF
  refine z_inv1 (d' := d - 1) (As := [.inl (zsx E (w32 (x3 + 1))), .inl (zsx E (w32 (x3 + 2))), .inl (zsx E (w32 (x3 + 3)))]) rfl rfl (zf_Mo_yoke (by omega) N _ _ _ hc12) rfl rfl rfl (by omega) rfl (fun r8 h9 hR10 hQ11 => ?_)
  obtain ⟨rfl, rfl⟩ := hQ11
  refine z_ceq rfl (fun c15 => ?_) (fun c15 => ?_)
  · rw [if_pos c15] at hF
    obtain ⟨-, rfl⟩ := zinj2 hF
    exact K
  · rw [if_neg c15] at hF
    refine z_const rfl ?_
    exact absurd (zinj2 hF).1 (by decide)
def sh_La_c9 (N : Nat) (E : zE) (x3 : Int) (h : zHp) : Option (Int × zHp) := zb2 (sh_Ox_loose (zsx E (w32 (x3 + 1))) h) fun r6 h7 => zb2 (sh_Mo_loose N (zsx E (w32 (x3 + 1))) h7) fun r13 h14 => if r6 = r13 then some (1, h14) else some (0, h14)
set_option maxRecDepth 100000 in
set_option maxHeartbeats 4000000 in
theorem zw_La_c9 {l : Launch} {E : zE} {d : Nat} (hd : 7 ≤ d) (N : Nat) (x3 : Int) (hx0 : 0 ≤ x3) (hx1 : x3 + 7 ≤ ((zsc E).1 : Nat)) (hx2 : (zsc E).1 < 100000) (hz : ∀ a, zI32 (zsx E a)) {h : zHp} {Q : Int → zHp → Prop} {h0 : zHp} (hF : sh_La_c9 N E x3 h = some (1, h0)) (K : zW l E d zm_La_law 822 [.inr (.inr 1000), .inr (.inr 0), .inr (.inr 85), .inl x3] [] h0 Q) : zW l E d zm_La_law 305 [.inr (.inr 1000), .inr (.inr 0), .inr (.inr 85), .inl x3] [] h Q := by
  rw [sh_La_c9] at hF
  refine z_aload rfl rfl rfl ?_
  refine z_aload rfl rfl rfl ?_
  refine z_iload rfl rfl ?_
  refine z_const rfl ?_
  refine z_iadd rfl ?_
  refine z_sld hz rfl (by rw [w32_i ⟨by omega, by omega⟩]; omega) (by rw [w32_i ⟨by omega, by omega⟩]; omega) (fun _ => ?_)
  obtain ⟨r6, h7, hc5, hF⟩ := zbind2 hF
  refine z_inv1 (d' := d - 1) (As := [.inl (zsx E (w32 (x3 + 1)))]) rfl rfl (zf_Ox_loose (by omega) _ hc5) rfl rfl rfl (by omega) rfl (fun r1 h2 hR3 hQ4 => ?_)
  obtain ⟨rfl, rfl⟩ := hQ4
  refine z_aload rfl rfl rfl ?_
  refine z_aload rfl rfl rfl ?_
  refine z_iload rfl rfl ?_
  refine z_const rfl ?_
  refine z_iadd rfl ?_
  refine z_sld hz rfl (by rw [w32_i ⟨by omega, by omega⟩]; omega) (by rw [w32_i ⟨by omega, by omega⟩]; omega) (fun _ => ?_)
  obtain ⟨r13, h14, hc12, hF⟩ := zbind2 hF
  refine z_inv1 (d' := d - 1) (As := [.inl (zsx E (w32 (x3 + 1)))]) rfl rfl (zf_Mo_loose (by omega) N _ hc12) rfl rfl rfl (by omega) rfl (fun r8 h9 hR10 hQ11 => ?_)
  obtain ⟨rfl, rfl⟩ := hQ11
  refine z_ceq rfl (fun c15 => ?_) (fun c15 => ?_)
  · rw [if_pos c15] at hF
    obtain ⟨-, rfl⟩ := zinj2 hF
    exact K
  · rw [if_neg c15] at hF
    refine z_const rfl ?_
    exact absurd (zinj2 hF).1 (by decide)
def sh_La_c10 (N : Nat) (E : zE) (x3 : Int) (h : zHp) : Option (Int × zHp) := zb2 (sh_Ox_drive (zsx E (w32 (x3 + 1))) (zsx E (w32 (x3 + 2))) h) fun r6 h7 => zb2 (sh_Mo_drive N (zsx E (w32 (x3 + 1))) (zsx E (w32 (x3 + 2))) h7) fun r13 h14 => if r6 = r13 then some (1, h14) else some (0, h14)
set_option maxRecDepth 100000 in
set_option maxHeartbeats 4000000 in
theorem zw_La_c10 {l : Launch} {E : zE} {d : Nat} (hd : 7 ≤ d) (N : Nat) (x3 : Int) (hx0 : 0 ≤ x3) (hx1 : x3 + 7 ≤ ((zsc E).1 : Nat)) (hx2 : (zsc E).1 < 100000) (hz : ∀ a, zI32 (zsx E a)) {h : zHp} {Q : Int → zHp → Prop} {h0 : zHp} (hF : sh_La_c10 N E x3 h = some (1, h0)) (K : zW l E d zm_La_law 822 [.inr (.inr 1000), .inr (.inr 0), .inr (.inr 85), .inl x3] [] h0 Q) : zW l E d zm_La_law 322 [.inr (.inr 1000), .inr (.inr 0), .inr (.inr 85), .inl x3] [] h Q := by
  rw [sh_La_c10] at hF
  refine z_aload rfl rfl rfl ?_
  refine z_aload rfl rfl rfl ?_
  refine z_iload rfl rfl ?_
  refine z_const rfl ?_
  refine z_iadd rfl ?_
  refine z_sld hz rfl (by rw [w32_i ⟨by omega, by omega⟩]; omega) (by rw [w32_i ⟨by omega, by omega⟩]; omega) (fun _ => ?_)
  refine z_aload rfl rfl rfl ?_
  refine z_iload rfl rfl ?_
  refine z_const rfl ?_
  refine z_iadd rfl ?_
  refine z_sld hz rfl (by rw [w32_i ⟨by omega, by omega⟩]; omega) (by rw [w32_i ⟨by omega, by omega⟩]; omega) (fun _ => ?_)
  obtain ⟨r6, h7, hc5, hF⟩ := zbind2 hF
  refine z_inv1 (d' := d - 1) (As := [.inl (zsx E (w32 (x3 + 1))), .inl (zsx E (w32 (x3 + 2)))]) rfl rfl (zf_Ox_drive (by omega) _ _ hc5) rfl rfl rfl (by omega) rfl (fun r1 h2 hR3 hQ4 => ?_)
  obtain ⟨rfl, rfl⟩ := hQ4
  refine z_aload rfl rfl rfl ?_
  refine z_aload rfl rfl rfl ?_
  refine z_iload rfl rfl ?_
  refine z_const rfl ?_
  refine z_iadd rfl ?_
  refine z_sld hz rfl (by rw [w32_i ⟨by omega, by omega⟩]; omega) (by rw [w32_i ⟨by omega, by omega⟩]; omega) (fun _ => ?_)
  refine z_aload rfl rfl rfl ?_
  refine z_iload rfl rfl ?_
  refine z_const rfl ?_
  refine z_iadd rfl ?_
  refine z_sld hz rfl (by rw [w32_i ⟨by omega, by omega⟩]; omega) (by rw [w32_i ⟨by omega, by omega⟩]; omega) (fun _ => ?_)
  obtain ⟨r13, h14, hc12, hF⟩ := zbind2 hF
  refine z_inv1 (d' := d - 1) (As := [.inl (zsx E (w32 (x3 + 1))), .inl (zsx E (w32 (x3 + 2)))]) rfl rfl (zf_Mo_drive (by omega) N _ _ hc12) rfl rfl rfl (by omega) rfl (fun r8 h9 hR10 hQ11 => ?_)
  obtain ⟨rfl, rfl⟩ := hQ11
  refine z_ceq rfl (fun c15 => ?_) (fun c15 => ?_)
  · rw [if_pos c15] at hF
    obtain ⟨-, rfl⟩ := zinj2 hF
    exact K
  · rw [if_neg c15] at hF
    refine z_const rfl ?_
    exact absurd (zinj2 hF).1 (by decide)
def sh_La_c11 (N : Nat) (E : zE) (x3 : Int) (h : zHp) : Option (Int × zHp) := zb2 (sh_Ox_sell (zsx E (w32 (x3 + 1))) (zsx E (w32 (x3 + 2))) h) fun r6 h7 => zb2 (sh_Mo_sell N (zsx E (w32 (x3 + 1))) (zsx E (w32 (x3 + 2))) h7) fun r13 h14 => if r6 = r13 then some (1, h14) else some (0, h14)
set_option maxRecDepth 100000 in
set_option maxHeartbeats 4000000 in
theorem zw_La_c11 {l : Launch} {E : zE} {d : Nat} (hd : 7 ≤ d) (N : Nat) (x3 : Int) (hx0 : 0 ≤ x3) (hx1 : x3 + 7 ≤ ((zsc E).1 : Nat)) (hx2 : (zsc E).1 < 100000) (hz : ∀ a, zI32 (zsx E a)) {h : zHp} {Q : Int → zHp → Prop} {h0 : zHp} (hF : sh_La_c11 N E x3 h = some (1, h0)) (K : zW l E d zm_La_law 822 [.inr (.inr 1000), .inr (.inr 0), .inr (.inr 85), .inl x3] [] h0 Q) : zW l E d zm_La_law 349 [.inr (.inr 1000), .inr (.inr 0), .inr (.inr 85), .inl x3] [] h Q := by
  rw [sh_La_c11] at hF
  refine z_aload rfl rfl rfl ?_
  refine z_aload rfl rfl rfl ?_
  refine z_iload rfl rfl ?_
  refine z_const rfl ?_
  refine z_iadd rfl ?_
  refine z_sld hz rfl (by rw [w32_i ⟨by omega, by omega⟩]; omega) (by rw [w32_i ⟨by omega, by omega⟩]; omega) (fun _ => ?_)
  refine z_aload rfl rfl rfl ?_
  refine z_iload rfl rfl ?_
  refine z_const rfl ?_
  refine z_iadd rfl ?_
  refine z_sld hz rfl (by rw [w32_i ⟨by omega, by omega⟩]; omega) (by rw [w32_i ⟨by omega, by omega⟩]; omega) (fun _ => ?_)
  obtain ⟨r6, h7, hc5, hF⟩ := zbind2 hF
  refine z_inv1 (d' := d - 1) (As := [.inl (zsx E (w32 (x3 + 1))), .inl (zsx E (w32 (x3 + 2)))]) rfl rfl (zf_Ox_sell (by omega) _ _ hc5) rfl rfl rfl (by omega) rfl (fun r1 h2 hR3 hQ4 => ?_)
  obtain ⟨rfl, rfl⟩ := hQ4
  refine z_aload rfl rfl rfl ?_
  refine z_aload rfl rfl rfl ?_
  refine z_iload rfl rfl ?_
  refine z_const rfl ?_
  refine z_iadd rfl ?_
  refine z_sld hz rfl (by rw [w32_i ⟨by omega, by omega⟩]; omega) (by rw [w32_i ⟨by omega, by omega⟩]; omega) (fun _ => ?_)
  refine z_aload rfl rfl rfl ?_
  refine z_iload rfl rfl ?_
  refine z_const rfl ?_
  refine z_iadd rfl ?_
  refine z_sld hz rfl (by rw [w32_i ⟨by omega, by omega⟩]; omega) (by rw [w32_i ⟨by omega, by omega⟩]; omega) (fun _ => ?_)
  obtain ⟨r13, h14, hc12, hF⟩ := zbind2 hF
  refine z_inv1 (d' := d - 1) (As := [.inl (zsx E (w32 (x3 + 1))), .inl (zsx E (w32 (x3 + 2)))]) rfl rfl (zf_Mo_sell (by omega) N _ _ hc12) rfl rfl rfl (by omega) rfl (fun r8 h9 hR10 hQ11 => ?_)
  obtain ⟨rfl, rfl⟩ := hQ11
  refine z_ceq rfl (fun c15 => ?_) (fun c15 => ?_)
  · rw [if_pos c15] at hF
    obtain ⟨-, rfl⟩ := zinj2 hF
    exact K
  · rw [if_neg c15] at hF
    refine z_const rfl ?_
    exact absurd (zinj2 hF).1 (by decide)
def sh_La_c12 (N : Nat) (E : zE) (x3 : Int) (h : zHp) : Option (Int × zHp) := zb2 (sh_Ox_whistle N (zsx E (w32 (x3 + 1))) h) fun r6 h7 => zb2 (sh_Mo_whistle N (zsx E (w32 (x3 + 1))) h7) fun r13 h14 => if r6 = r13 then some (1, h14) else some (0, h14)
set_option maxRecDepth 100000 in
set_option maxHeartbeats 4000000 in
theorem zw_La_c12 {l : Launch} {E : zE} {d : Nat} (hd : 7 ≤ d) (N : Nat) (x3 : Int) (hx0 : 0 ≤ x3) (hx1 : x3 + 7 ≤ ((zsc E).1 : Nat)) (hx2 : (zsc E).1 < 100000) (hz : ∀ a, zI32 (zsx E a)) {h : zHp} {Q : Int → zHp → Prop} {h0 : zHp} (hF : sh_La_c12 N E x3 h = some (1, h0)) (K : zW l E d zm_La_law 822 [.inr (.inr 1000), .inr (.inr 0), .inr (.inr 85), .inl x3] [] h0 Q) : zW l E d zm_La_law 376 [.inr (.inr 1000), .inr (.inr 0), .inr (.inr 85), .inl x3] [] h Q := by
  rw [sh_La_c12] at hF
  refine z_aload rfl rfl rfl ?_
  refine z_aload rfl rfl rfl ?_
  refine z_iload rfl rfl ?_
  refine z_const rfl ?_
  refine z_iadd rfl ?_
  refine z_sld hz rfl (by rw [w32_i ⟨by omega, by omega⟩]; omega) (by rw [w32_i ⟨by omega, by omega⟩]; omega) (fun _ => ?_)
  obtain ⟨r6, h7, hc5, hF⟩ := zbind2 hF
  refine z_inv1 (d' := d - 1) (As := [.inl (zsx E (w32 (x3 + 1)))]) rfl rfl (zf_Ox_whistle (by omega) N _ hc5) rfl rfl rfl (by omega) rfl (fun r1 h2 hR3 hQ4 => ?_)
  obtain ⟨rfl, rfl⟩ := hQ4
  refine z_aload rfl rfl rfl ?_
  refine z_aload rfl rfl rfl ?_
  refine z_iload rfl rfl ?_
  refine z_const rfl ?_
  refine z_iadd rfl ?_
  refine z_sld hz rfl (by rw [w32_i ⟨by omega, by omega⟩]; omega) (by rw [w32_i ⟨by omega, by omega⟩]; omega) (fun _ => ?_)
  obtain ⟨r13, h14, hc12, hF⟩ := zbind2 hF
  refine z_inv1 (d' := d - 1) (As := [.inl (zsx E (w32 (x3 + 1)))]) rfl rfl (zf_Mo_whistle (by omega) N _ hc12) rfl rfl rfl (by omega) rfl (fun r8 h9 hR10 hQ11 => ?_)
  obtain ⟨rfl, rfl⟩ := hQ11
  refine z_ceq rfl (fun c15 => ?_) (fun c15 => ?_)
  · rw [if_pos c15] at hF
    obtain ⟨-, rfl⟩ := zinj2 hF
    exact K
  · rw [if_neg c15] at hF
    refine z_const rfl ?_
    exact absurd (zinj2 hF).1 (by decide)
def sh_La_c13 (N : Nat) (E : zE) (x3 : Int) (h : zHp) : Option (Int × zHp) := zb2 (sh_Ox_plough N h) fun r6 h7 => zb2 (sh_Mo_plough N h7) fun r13 h14 => if r6 = r13 then some (1, h14) else some (0, h14)
set_option maxRecDepth 100000 in
set_option maxHeartbeats 4000000 in
theorem zw_La_c13 {l : Launch} {E : zE} {d : Nat} (hd : 7 ≤ d) (N : Nat) (x3 : Int) (hx0 : 0 ≤ x3) (hx1 : x3 + 7 ≤ ((zsc E).1 : Nat)) (hx2 : (zsc E).1 < 100000) (hz : ∀ a, zI32 (zsx E a)) {h : zHp} {Q : Int → zHp → Prop} {h0 : zHp} (hF : sh_La_c13 N E x3 h = some (1, h0)) (K : zW l E d zm_La_law 822 [.inr (.inr 1000), .inr (.inr 0), .inr (.inr 85), .inl x3] [] h0 Q) : zW l E d zm_La_law 393 [.inr (.inr 1000), .inr (.inr 0), .inr (.inr 85), .inl x3] [] h Q := by
  rw [sh_La_c13] at hF
  refine z_aload rfl rfl rfl ?_
  obtain ⟨r6, h7, hc5, hF⟩ := zbind2 hF
  refine z_inv1 (d' := d - 1) (As := []) rfl rfl (zf_Ox_plough (by omega) N hc5) rfl rfl rfl (by omega) rfl (fun r1 h2 hR3 hQ4 => ?_)
  obtain ⟨rfl, rfl⟩ := hQ4
  refine z_aload rfl rfl rfl ?_
  obtain ⟨r13, h14, hc12, hF⟩ := zbind2 hF
  refine z_inv1 (d' := d - 1) (As := []) rfl rfl (zf_Mo_plough (by omega) N hc12) rfl rfl rfl (by omega) rfl (fun r8 h9 hR10 hQ11 => ?_)
  obtain ⟨rfl, rfl⟩ := hQ11
  refine z_ceq rfl (fun c15 => ?_) (fun c15 => ?_)
  · rw [if_pos c15] at hF
    obtain ⟨-, rfl⟩ := zinj2 hF
    exact K
  · rw [if_neg c15] at hF
    refine z_const rfl ?_
    exact absurd (zinj2 hF).1 (by decide)
def sh_La_c14 (N : Nat) (E : zE) (x3 : Int) (h : zHp) : Option (Int × zHp) := zb2 (sh_Ox_night N h) fun r6 h7 => zb2 (sh_Mo_night N h7) fun r13 h14 => if r6 = r13 then some (1, h14) else some (0, h14)
set_option maxRecDepth 100000 in
set_option maxHeartbeats 4000000 in
theorem zw_La_c14 {l : Launch} {E : zE} {d : Nat} (hd : 7 ≤ d) (N : Nat) (x3 : Int) (hx0 : 0 ≤ x3) (hx1 : x3 + 7 ≤ ((zsc E).1 : Nat)) (hx2 : (zsc E).1 < 100000) (hz : ∀ a, zI32 (zsx E a)) {h : zHp} {Q : Int → zHp → Prop} {h0 : zHp} (hF : sh_La_c14 N E x3 h = some (1, h0)) (K : zW l E d zm_La_law 822 [.inr (.inr 1000), .inr (.inr 0), .inr (.inr 85), .inl x3] [] h0 Q) : zW l E d zm_La_law 400 [.inr (.inr 1000), .inr (.inr 0), .inr (.inr 85), .inl x3] [] h Q := by
  rw [sh_La_c14] at hF
  refine z_aload rfl rfl rfl ?_
  obtain ⟨r6, h7, hc5, hF⟩ := zbind2 hF
  refine z_inv1 (d' := d - 1) (As := []) rfl rfl (zf_Ox_night (by omega) N hc5) rfl rfl rfl (by omega) rfl (fun r1 h2 hR3 hQ4 => ?_)
  obtain ⟨rfl, rfl⟩ := hQ4
  refine z_aload rfl rfl rfl ?_
  obtain ⟨r13, h14, hc12, hF⟩ := zbind2 hF
  refine z_inv1 (d' := d - 1) (As := []) rfl rfl (zf_Mo_night (by omega) N hc12) rfl rfl rfl (by omega) rfl (fun r8 h9 hR10 hQ11 => ?_)
  obtain ⟨rfl, rfl⟩ := hQ11
  refine z_ceq rfl (fun c15 => ?_) (fun c15 => ?_)
  · rw [if_pos c15] at hF
    obtain ⟨-, rfl⟩ := zinj2 hF
    exact K
  · rw [if_neg c15] at hF
    refine z_const rfl ?_
    exact absurd (zinj2 hF).1 (by decide)
def sh_La_c15 (N : Nat) (E : zE) (x3 : Int) (h : zHp) : Option (Int × zHp) := zb2 (sh_Ox_undo h) fun r6 h7 => zb2 (sh_Mo_undo N h7) fun r13 h14 => if r6 = r13 then some (1, h14) else some (0, h14)
set_option maxRecDepth 100000 in
set_option maxHeartbeats 4000000 in
theorem zw_La_c15 {l : Launch} {E : zE} {d : Nat} (hd : 6 ≤ d) (N : Nat) (x3 : Int) (hx0 : 0 ≤ x3) (hx1 : x3 + 7 ≤ ((zsc E).1 : Nat)) (hx2 : (zsc E).1 < 100000) (hz : ∀ a, zI32 (zsx E a)) {h : zHp} {Q : Int → zHp → Prop} {h0 : zHp} (hF : sh_La_c15 N E x3 h = some (1, h0)) (K : zW l E d zm_La_law 822 [.inr (.inr 1000), .inr (.inr 0), .inr (.inr 85), .inl x3] [] h0 Q) : zW l E d zm_La_law 407 [.inr (.inr 1000), .inr (.inr 0), .inr (.inr 85), .inl x3] [] h Q := by
  rw [sh_La_c15] at hF
  refine z_aload rfl rfl rfl ?_
  obtain ⟨r6, h7, hc5, hF⟩ := zbind2 hF
  refine z_inv1 (d' := d - 1) (As := []) rfl rfl (zf_Ox_undo (by omega) hc5) rfl rfl rfl (by omega) rfl (fun r1 h2 hR3 hQ4 => ?_)
  obtain ⟨rfl, rfl⟩ := hQ4
  refine z_aload rfl rfl rfl ?_
  obtain ⟨r13, h14, hc12, hF⟩ := zbind2 hF
  refine z_inv1 (d' := d - 1) (As := []) rfl rfl (zf_Mo_undo (by omega) N hc12) rfl rfl rfl (by omega) rfl (fun r8 h9 hR10 hQ11 => ?_)
  obtain ⟨rfl, rfl⟩ := hQ11
  refine z_ceq rfl (fun c15 => ?_) (fun c15 => ?_)
  · rw [if_pos c15] at hF
    obtain ⟨-, rfl⟩ := zinj2 hF
    exact K
  · rw [if_neg c15] at hF
    refine z_const rfl ?_
    exact absurd (zinj2 hF).1 (by decide)
def sh_La_c16 (N : Nat) (E : zE) (x3 : Int) (h : zHp) : Option (Int × zHp) := zb1 (sh_Mo_of N (zsx E (w32 (x3 + 1))) (zsx E (w32 (x3 + 2))) h) fun r10 => if sh_Ox_of (zsx E (w32 (x3 + 1))) (zsx E (w32 (x3 + 2))) h = r10 then some (1, h) else some (0, h)
set_option maxRecDepth 100000 in
set_option maxHeartbeats 4000000 in
theorem zw_La_c16 {l : Launch} {E : zE} {d : Nat} (hd : 5 ≤ d) (N : Nat) (x3 : Int) (hx0 : 0 ≤ x3) (hx1 : x3 + 7 ≤ ((zsc E).1 : Nat)) (hx2 : (zsc E).1 < 100000) (hz : ∀ a, zI32 (zsx E a)) {h : zHp} {Q : Int → zHp → Prop} {h0 : zHp} (hF : sh_La_c16 N E x3 h = some (1, h0)) (K : zW l E d zm_La_law 822 [.inr (.inr 1000), .inr (.inr 0), .inr (.inr 85), .inl x3] [] h0 Q) : zW l E d zm_La_law 414 [.inr (.inr 1000), .inr (.inr 0), .inr (.inr 85), .inl x3] [] h Q := by
  rw [sh_La_c16] at hF
  refine z_aload rfl rfl rfl ?_
  refine z_aload rfl rfl rfl ?_
  refine z_iload rfl rfl ?_
  refine z_const rfl ?_
  refine z_iadd rfl ?_
  refine z_sld hz rfl (by rw [w32_i ⟨by omega, by omega⟩]; omega) (by rw [w32_i ⟨by omega, by omega⟩]; omega) (fun _ => ?_)
  refine z_aload rfl rfl rfl ?_
  refine z_iload rfl rfl ?_
  refine z_const rfl ?_
  refine z_iadd rfl ?_
  refine z_sld hz rfl (by rw [w32_i ⟨by omega, by omega⟩]; omega) (by rw [w32_i ⟨by omega, by omega⟩]; omega) (fun _ => ?_)
  refine z_inv1 (d' := d - 1) (As := [.inl (zsx E (w32 (x3 + 1))), .inl (zsx E (w32 (x3 + 2)))]) rfl rfl (zf_Ox_of (by omega) _ _) rfl rfl rfl (by omega) rfl (fun r1 h2 hR3 hQ4 => ?_)
  obtain ⟨rfl, rfl⟩ := hQ4
  refine z_aload rfl rfl rfl ?_
  refine z_aload rfl rfl rfl ?_
  refine z_iload rfl rfl ?_
  refine z_const rfl ?_
  refine z_iadd rfl ?_
  refine z_sld hz rfl (by rw [w32_i ⟨by omega, by omega⟩]; omega) (by rw [w32_i ⟨by omega, by omega⟩]; omega) (fun _ => ?_)
  refine z_aload rfl rfl rfl ?_
  refine z_iload rfl rfl ?_
  refine z_const rfl ?_
  refine z_iadd rfl ?_
  refine z_sld hz rfl (by rw [w32_i ⟨by omega, by omega⟩]; omega) (by rw [w32_i ⟨by omega, by omega⟩]; omega) (fun _ => ?_)
  obtain ⟨r10, hc9, hF⟩ := zbind1 hF
  refine z_inv1 (d' := d - 1) (As := [.inl (zsx E (w32 (x3 + 1))), .inl (zsx E (w32 (x3 + 2)))]) rfl rfl (zf_Mo_of (by omega) N _ _ hc9) rfl rfl rfl (by omega) rfl (fun r5 h6 hR7 hQ8 => ?_)
  obtain ⟨rfl, rfl⟩ := hQ8
  refine z_ceq rfl (fun c11 => ?_) (fun c11 => ?_)
  · rw [if_pos c11] at hF
    obtain ⟨-, rfl⟩ := zinj2 hF
    exact K
  · rw [if_neg c11] at hF
    refine z_const rfl ?_
    exact absurd (zinj2 hF).1 (by decide)
def sh_La_c17 (N : Nat) (E : zE) (x3 : Int) (h : zHp) : Option (Int × zHp) := zb2 (sh_Ox_heeds N (zsx E (w32 (x3 + 1))) (zsx E (w32 (x3 + 2))) (zsx E (w32 (x3 + 3))) (zsx E (w32 (x3 + 4))) (if zsx E (w32 (x3 + 5)) = 0 then 0 else 1 : Int) h) fun r8 h9 => zb2 (sh_Mo_heeds N (zsx E (w32 (x3 + 1))) (zsx E (w32 (x3 + 2))) (zsx E (w32 (x3 + 3))) (zsx E (w32 (x3 + 4))) (if zsx E (w32 (x3 + 5)) = 0 then 0 else 1 : Int) h9) fun r17 h18 => if r8 = r17 then some (1, h18) else some (0, h18)
set_option maxRecDepth 100000 in
set_option maxHeartbeats 4000000 in
theorem zw_La_c17 {l : Launch} {E : zE} {d : Nat} (hd : 6 ≤ d) (N : Nat) (x3 : Int) (hx0 : 0 ≤ x3) (hx1 : x3 + 7 ≤ ((zsc E).1 : Nat)) (hx2 : (zsc E).1 < 100000) (hz : ∀ a, zI32 (zsx E a)) {h : zHp} {Q : Int → zHp → Prop} {h0 : zHp} (hF : sh_La_c17 N E x3 h = some (1, h0)) (K : zW l E d zm_La_law 822 [.inr (.inr 1000), .inr (.inr 0), .inr (.inr 85), .inl x3] [] h0 Q) : zW l E d zm_La_law 441 [.inr (.inr 1000), .inr (.inr 0), .inr (.inr 85), .inl x3] [] h Q := by
  rw [sh_La_c17] at hF
  refine z_aload rfl rfl rfl ?_
  refine z_aload rfl rfl rfl ?_
  refine z_iload rfl rfl ?_
  refine z_const rfl ?_
  refine z_iadd rfl ?_
  refine z_sld hz rfl (by rw [w32_i ⟨by omega, by omega⟩]; omega) (by rw [w32_i ⟨by omega, by omega⟩]; omega) (fun _ => ?_)
  refine z_aload rfl rfl rfl ?_
  refine z_iload rfl rfl ?_
  refine z_const rfl ?_
  refine z_iadd rfl ?_
  refine z_sld hz rfl (by rw [w32_i ⟨by omega, by omega⟩]; omega) (by rw [w32_i ⟨by omega, by omega⟩]; omega) (fun _ => ?_)
  refine z_aload rfl rfl rfl ?_
  refine z_iload rfl rfl ?_
  refine z_const rfl ?_
  refine z_iadd rfl ?_
  refine z_sld hz rfl (by rw [w32_i ⟨by omega, by omega⟩]; omega) (by rw [w32_i ⟨by omega, by omega⟩]; omega) (fun _ => ?_)
  refine z_aload rfl rfl rfl ?_
  refine z_iload rfl rfl ?_
  refine z_const rfl ?_
  refine z_iadd rfl ?_
  refine z_sld hz rfl (by rw [w32_i ⟨by omega, by omega⟩]; omega) (by rw [w32_i ⟨by omega, by omega⟩]; omega) (fun _ => ?_)
  refine z_aload rfl rfl rfl ?_
  refine z_iload rfl rfl ?_
  refine z_const rfl ?_
  refine z_iadd rfl ?_
  refine z_sld hz rfl (by rw [w32_i ⟨by omega, by omega⟩]; omega) (by rw [w32_i ⟨by omega, by omega⟩]; omega) (fun _ => ?_)
  have hJ2 : zW l E d zm_La_law 471 [.inr (.inr 1000), .inr (.inr 0), .inr (.inr 85), .inl x3] [.inl (if zsx E (w32 (x3 + 5)) = 0 then 0 else 1 : Int), .inl (zsx E (w32 (x3 + 4))), .inl (zsx E (w32 (x3 + 3))), .inl (zsx E (w32 (x3 + 2))), .inl (zsx E (w32 (x3 + 1))), .inr (.inr 0)] h Q := by
    obtain ⟨r8, h9, hc7, hF⟩ := zbind2 hF
    refine z_inv1 (d' := d - 1) (As := [.inl (zsx E (w32 (x3 + 1))), .inl (zsx E (w32 (x3 + 2))), .inl (zsx E (w32 (x3 + 3))), .inl (zsx E (w32 (x3 + 4))), .inl (if zsx E (w32 (x3 + 5)) = 0 then 0 else 1 : Int)]) rfl rfl (zf_Ox_heeds (by omega) N _ _ _ _ _ hc7) rfl rfl rfl (by omega) rfl (fun r3 h4 hR5 hQ6 => ?_)
    obtain ⟨rfl, rfl⟩ := hQ6
    refine z_aload rfl rfl rfl ?_
    refine z_aload rfl rfl rfl ?_
    refine z_iload rfl rfl ?_
    refine z_const rfl ?_
    refine z_iadd rfl ?_
    refine z_sld hz rfl (by rw [w32_i ⟨by omega, by omega⟩]; omega) (by rw [w32_i ⟨by omega, by omega⟩]; omega) (fun _ => ?_)
    refine z_aload rfl rfl rfl ?_
    refine z_iload rfl rfl ?_
    refine z_const rfl ?_
    refine z_iadd rfl ?_
    refine z_sld hz rfl (by rw [w32_i ⟨by omega, by omega⟩]; omega) (by rw [w32_i ⟨by omega, by omega⟩]; omega) (fun _ => ?_)
    refine z_aload rfl rfl rfl ?_
    refine z_iload rfl rfl ?_
    refine z_const rfl ?_
    refine z_iadd rfl ?_
    refine z_sld hz rfl (by rw [w32_i ⟨by omega, by omega⟩]; omega) (by rw [w32_i ⟨by omega, by omega⟩]; omega) (fun _ => ?_)
    refine z_aload rfl rfl rfl ?_
    refine z_iload rfl rfl ?_
    refine z_const rfl ?_
    refine z_iadd rfl ?_
    refine z_sld hz rfl (by rw [w32_i ⟨by omega, by omega⟩]; omega) (by rw [w32_i ⟨by omega, by omega⟩]; omega) (fun _ => ?_)
    refine z_aload rfl rfl rfl ?_
    refine z_iload rfl rfl ?_
    refine z_const rfl ?_
    refine z_iadd rfl ?_
    refine z_sld hz rfl (by rw [w32_i ⟨by omega, by omega⟩]; omega) (by rw [w32_i ⟨by omega, by omega⟩]; omega) (fun _ => ?_)
    have hJ11 : zW l E d zm_La_law 502 [.inr (.inr 1000), .inr (.inr 0), .inr (.inr 85), .inl x3] [.inl (if zsx E (w32 (x3 + 5)) = 0 then 0 else 1 : Int), .inl (zsx E (w32 (x3 + 4))), .inl (zsx E (w32 (x3 + 3))), .inl (zsx E (w32 (x3 + 2))), .inl (zsx E (w32 (x3 + 1))), .inr (.inr 85), .inl r8] h9 Q := by
      obtain ⟨r17, h18, hc16, hF⟩ := zbind2 hF
      refine z_inv1 (d' := d - 1) (As := [.inl (zsx E (w32 (x3 + 1))), .inl (zsx E (w32 (x3 + 2))), .inl (zsx E (w32 (x3 + 3))), .inl (zsx E (w32 (x3 + 4))), .inl (if zsx E (w32 (x3 + 5)) = 0 then 0 else 1 : Int)]) rfl rfl (zf_Mo_heeds (by omega) N _ _ _ _ _ hc16) rfl rfl rfl (by omega) rfl (fun r12 h13 hR14 hQ15 => ?_)
      obtain ⟨rfl, rfl⟩ := hQ15
      refine z_ceq rfl (fun c19 => ?_) (fun c19 => ?_)
      · rw [if_pos c19] at hF
        obtain ⟨-, rfl⟩ := zinj2 hF
        exact K
      · rw [if_neg c19] at hF
        refine z_const rfl ?_
        exact absurd (zinj2 hF).1 (by decide)
    refine z_zeq rfl (fun c10 => ?_) (fun c10 => ?_)
    · refine z_const rfl ?_
      exact zcast (by first | rfl | (simp only [if_pos c10] <;> rfl)) (by first | rfl | (simp only [if_pos c10] <;> rfl)) hJ11
    · refine z_const rfl ?_
      refine z_goto rfl ?_
      exact zcast (by first | rfl | (simp only [if_neg c10] <;> rfl)) (by first | rfl | (simp only [if_neg c10] <;> rfl)) hJ11
  refine z_zeq rfl (fun c1 => ?_) (fun c1 => ?_)
  · refine z_const rfl ?_
    exact zcast (by first | rfl | (simp only [if_pos c1] <;> rfl)) (by first | rfl | (simp only [if_pos c1] <;> rfl)) hJ2
  · refine z_const rfl ?_
    refine z_goto rfl ?_
    exact zcast (by first | rfl | (simp only [if_neg c1] <;> rfl)) (by first | rfl | (simp only [if_neg c1] <;> rfl)) hJ2
def sh_La_c18 (N : Nat) (E : zE) (x3 : Int) (h : zHp) : Option (Int × zHp) := zb2 (sh_Ox_call (zsx E (w32 (x3 + 1))) (zsx E (w32 (x3 + 2))) h) fun r6 h7 => zb2 (sh_Mo_call N (zsx E (w32 (x3 + 1))) (zsx E (w32 (x3 + 2))) h7) fun r13 h14 => if r6 = r13 then some (1, h14) else some (0, h14)
set_option maxRecDepth 100000 in
set_option maxHeartbeats 4000000 in
theorem zw_La_c18 {l : Launch} {E : zE} {d : Nat} (hd : 4 ≤ d) (N : Nat) (x3 : Int) (hx0 : 0 ≤ x3) (hx1 : x3 + 7 ≤ ((zsc E).1 : Nat)) (hx2 : (zsc E).1 < 100000) (hz : ∀ a, zI32 (zsx E a)) {h : zHp} {Q : Int → zHp → Prop} {h0 : zHp} (hF : sh_La_c18 N E x3 h = some (1, h0)) (K : zW l E d zm_La_law 822 [.inr (.inr 1000), .inr (.inr 0), .inr (.inr 85), .inl x3] [] h0 Q) : zW l E d zm_La_law 506 [.inr (.inr 1000), .inr (.inr 0), .inr (.inr 85), .inl x3] [] h Q := by
  rw [sh_La_c18] at hF
  refine z_aload rfl rfl rfl ?_
  refine z_aload rfl rfl rfl ?_
  refine z_iload rfl rfl ?_
  refine z_const rfl ?_
  refine z_iadd rfl ?_
  refine z_sld hz rfl (by rw [w32_i ⟨by omega, by omega⟩]; omega) (by rw [w32_i ⟨by omega, by omega⟩]; omega) (fun _ => ?_)
  refine z_aload rfl rfl rfl ?_
  refine z_iload rfl rfl ?_
  refine z_const rfl ?_
  refine z_iadd rfl ?_
  refine z_sld hz rfl (by rw [w32_i ⟨by omega, by omega⟩]; omega) (by rw [w32_i ⟨by omega, by omega⟩]; omega) (fun _ => ?_)
  obtain ⟨r6, h7, hc5, hF⟩ := zbind2 hF
  refine z_inv1 (d' := d - 1) (As := [.inl (zsx E (w32 (x3 + 1))), .inl (zsx E (w32 (x3 + 2)))]) rfl rfl (zf_Ox_call (by omega) _ _ hc5) rfl rfl rfl (by omega) rfl (fun r1 h2 hR3 hQ4 => ?_)
  obtain ⟨rfl, rfl⟩ := hQ4
  refine z_aload rfl rfl rfl ?_
  refine z_aload rfl rfl rfl ?_
  refine z_iload rfl rfl ?_
  refine z_const rfl ?_
  refine z_iadd rfl ?_
  refine z_sld hz rfl (by rw [w32_i ⟨by omega, by omega⟩]; omega) (by rw [w32_i ⟨by omega, by omega⟩]; omega) (fun _ => ?_)
  refine z_aload rfl rfl rfl ?_
  refine z_iload rfl rfl ?_
  refine z_const rfl ?_
  refine z_iadd rfl ?_
  refine z_sld hz rfl (by rw [w32_i ⟨by omega, by omega⟩]; omega) (by rw [w32_i ⟨by omega, by omega⟩]; omega) (fun _ => ?_)
  obtain ⟨r13, h14, hc12, hF⟩ := zbind2 hF
  refine z_inv1 (d' := d - 1) (As := [.inl (zsx E (w32 (x3 + 1))), .inl (zsx E (w32 (x3 + 2)))]) rfl rfl (zf_Mo_call (by omega) N _ _ hc12) rfl rfl rfl (by omega) rfl (fun r8 h9 hR10 hQ11 => ?_)
  obtain ⟨rfl, rfl⟩ := hQ11
  refine z_ceq rfl (fun c15 => ?_) (fun c15 => ?_)
  · rw [if_pos c15] at hF
    obtain ⟨-, rfl⟩ := zinj2 hF
    exact K
  · rw [if_neg c15] at hF
    refine z_const rfl ?_
    exact absurd (zinj2 hF).1 (by decide)
def sh_La_c19 (N : Nat) (E : zE) (x3 : Int) (h : zHp) : Option (Int × zHp) := zb2 (sh_Ox_hush h) fun r6 h7 => zb2 (sh_Mo_hush h7) fun r13 h14 => if r6 = r13 then some (1, h14) else some (0, h14)
set_option maxRecDepth 100000 in
set_option maxHeartbeats 4000000 in
theorem zw_La_c19 {l : Launch} {E : zE} {d : Nat} (hd : 2 ≤ d) (N : Nat) (x3 : Int) (hx0 : 0 ≤ x3) (hx1 : x3 + 7 ≤ ((zsc E).1 : Nat)) (hx2 : (zsc E).1 < 100000) (hz : ∀ a, zI32 (zsx E a)) {h : zHp} {Q : Int → zHp → Prop} {h0 : zHp} (hF : sh_La_c19 N E x3 h = some (1, h0)) (K : zW l E d zm_La_law 822 [.inr (.inr 1000), .inr (.inr 0), .inr (.inr 85), .inl x3] [] h0 Q) : zW l E d zm_La_law 533 [.inr (.inr 1000), .inr (.inr 0), .inr (.inr 85), .inl x3] [] h Q := by
  rw [sh_La_c19] at hF
  refine z_aload rfl rfl rfl ?_
  obtain ⟨r6, h7, hc5, hF⟩ := zbind2 hF
  refine z_inv1 (d' := d - 1) (As := []) rfl rfl (zf_Ox_hush (by omega) hc5) rfl rfl rfl (by omega) rfl (fun r1 h2 hR3 hQ4 => ?_)
  obtain ⟨rfl, rfl⟩ := hQ4
  refine z_aload rfl rfl rfl ?_
  obtain ⟨r13, h14, hc12, hF⟩ := zbind2 hF
  refine z_inv1 (d' := d - 1) (As := []) rfl rfl (zf_Mo_hush (by omega) hc12) rfl rfl rfl (by omega) rfl (fun r8 h9 hR10 hQ11 => ?_)
  obtain ⟨rfl, rfl⟩ := hQ11
  refine z_ceq rfl (fun c15 => ?_) (fun c15 => ?_)
  · rw [if_pos c15] at hF
    obtain ⟨-, rfl⟩ := zinj2 hF
    exact K
  · rw [if_neg c15] at hF
    refine z_const rfl ?_
    exact absurd (zinj2 hF).1 (by decide)
def sh_La_c20 (N : Nat) (E : zE) (x3 : Int) (h : zHp) : Option (Int × zHp) := zb2 (sh_Ox_stay N (zsx E (w32 (x3 + 1))) (zsx E (w32 (x3 + 2))) (zsx E (w32 (x3 + 3))) (zsx E (w32 (x3 + 4))) (if zsx E (w32 (x3 + 5)) = 0 then 0 else 1 : Int) h) fun r8 h9 => zb2 (sh_Mo_stay N (zsx E (w32 (x3 + 1))) (zsx E (w32 (x3 + 2))) (zsx E (w32 (x3 + 3))) (zsx E (w32 (x3 + 4))) (if zsx E (w32 (x3 + 5)) = 0 then 0 else 1 : Int) h9) fun r17 h18 => if r8 = r17 then some (1, h18) else some (0, h18)
set_option maxRecDepth 100000 in
set_option maxHeartbeats 4000000 in
theorem zw_La_c20 {l : Launch} {E : zE} {d : Nat} (hd : 9 ≤ d) (N : Nat) (x3 : Int) (hx0 : 0 ≤ x3) (hx1 : x3 + 7 ≤ ((zsc E).1 : Nat)) (hx2 : (zsc E).1 < 100000) (hz : ∀ a, zI32 (zsx E a)) {h : zHp} {Q : Int → zHp → Prop} {h0 : zHp} (hF : sh_La_c20 N E x3 h = some (1, h0)) (K : zW l E d zm_La_law 822 [.inr (.inr 1000), .inr (.inr 0), .inr (.inr 85), .inl x3] [] h0 Q) : zW l E d zm_La_law 540 [.inr (.inr 1000), .inr (.inr 0), .inr (.inr 85), .inl x3] [] h Q := by
  rw [sh_La_c20] at hF
  refine z_aload rfl rfl rfl ?_
  refine z_aload rfl rfl rfl ?_
  refine z_iload rfl rfl ?_
  refine z_const rfl ?_
  refine z_iadd rfl ?_
  refine z_sld hz rfl (by rw [w32_i ⟨by omega, by omega⟩]; omega) (by rw [w32_i ⟨by omega, by omega⟩]; omega) (fun _ => ?_)
  refine z_aload rfl rfl rfl ?_
  refine z_iload rfl rfl ?_
  refine z_const rfl ?_
  refine z_iadd rfl ?_
  refine z_sld hz rfl (by rw [w32_i ⟨by omega, by omega⟩]; omega) (by rw [w32_i ⟨by omega, by omega⟩]; omega) (fun _ => ?_)
  refine z_aload rfl rfl rfl ?_
  refine z_iload rfl rfl ?_
  refine z_const rfl ?_
  refine z_iadd rfl ?_
  refine z_sld hz rfl (by rw [w32_i ⟨by omega, by omega⟩]; omega) (by rw [w32_i ⟨by omega, by omega⟩]; omega) (fun _ => ?_)
  refine z_aload rfl rfl rfl ?_
  refine z_iload rfl rfl ?_
  refine z_const rfl ?_
  refine z_iadd rfl ?_
  refine z_sld hz rfl (by rw [w32_i ⟨by omega, by omega⟩]; omega) (by rw [w32_i ⟨by omega, by omega⟩]; omega) (fun _ => ?_)
  refine z_aload rfl rfl rfl ?_
  refine z_iload rfl rfl ?_
  refine z_const rfl ?_
  refine z_iadd rfl ?_
  refine z_sld hz rfl (by rw [w32_i ⟨by omega, by omega⟩]; omega) (by rw [w32_i ⟨by omega, by omega⟩]; omega) (fun _ => ?_)
  have hJ2 : zW l E d zm_La_law 570 [.inr (.inr 1000), .inr (.inr 0), .inr (.inr 85), .inl x3] [.inl (if zsx E (w32 (x3 + 5)) = 0 then 0 else 1 : Int), .inl (zsx E (w32 (x3 + 4))), .inl (zsx E (w32 (x3 + 3))), .inl (zsx E (w32 (x3 + 2))), .inl (zsx E (w32 (x3 + 1))), .inr (.inr 0)] h Q := by
    obtain ⟨r8, h9, hc7, hF⟩ := zbind2 hF
    refine z_inv1 (d' := d - 1) (As := [.inl (zsx E (w32 (x3 + 1))), .inl (zsx E (w32 (x3 + 2))), .inl (zsx E (w32 (x3 + 3))), .inl (zsx E (w32 (x3 + 4))), .inl (if zsx E (w32 (x3 + 5)) = 0 then 0 else 1 : Int)]) rfl rfl (zf_Ox_stay (by omega) N _ _ _ _ _ hc7) rfl rfl rfl (by omega) rfl (fun r3 h4 hR5 hQ6 => ?_)
    obtain ⟨rfl, rfl⟩ := hQ6
    refine z_aload rfl rfl rfl ?_
    refine z_aload rfl rfl rfl ?_
    refine z_iload rfl rfl ?_
    refine z_const rfl ?_
    refine z_iadd rfl ?_
    refine z_sld hz rfl (by rw [w32_i ⟨by omega, by omega⟩]; omega) (by rw [w32_i ⟨by omega, by omega⟩]; omega) (fun _ => ?_)
    refine z_aload rfl rfl rfl ?_
    refine z_iload rfl rfl ?_
    refine z_const rfl ?_
    refine z_iadd rfl ?_
    refine z_sld hz rfl (by rw [w32_i ⟨by omega, by omega⟩]; omega) (by rw [w32_i ⟨by omega, by omega⟩]; omega) (fun _ => ?_)
    refine z_aload rfl rfl rfl ?_
    refine z_iload rfl rfl ?_
    refine z_const rfl ?_
    refine z_iadd rfl ?_
    refine z_sld hz rfl (by rw [w32_i ⟨by omega, by omega⟩]; omega) (by rw [w32_i ⟨by omega, by omega⟩]; omega) (fun _ => ?_)
    refine z_aload rfl rfl rfl ?_
    refine z_iload rfl rfl ?_
    refine z_const rfl ?_
    refine z_iadd rfl ?_
    refine z_sld hz rfl (by rw [w32_i ⟨by omega, by omega⟩]; omega) (by rw [w32_i ⟨by omega, by omega⟩]; omega) (fun _ => ?_)
    refine z_aload rfl rfl rfl ?_
    refine z_iload rfl rfl ?_
    refine z_const rfl ?_
    refine z_iadd rfl ?_
    refine z_sld hz rfl (by rw [w32_i ⟨by omega, by omega⟩]; omega) (by rw [w32_i ⟨by omega, by omega⟩]; omega) (fun _ => ?_)
    have hJ11 : zW l E d zm_La_law 601 [.inr (.inr 1000), .inr (.inr 0), .inr (.inr 85), .inl x3] [.inl (if zsx E (w32 (x3 + 5)) = 0 then 0 else 1 : Int), .inl (zsx E (w32 (x3 + 4))), .inl (zsx E (w32 (x3 + 3))), .inl (zsx E (w32 (x3 + 2))), .inl (zsx E (w32 (x3 + 1))), .inr (.inr 85), .inl r8] h9 Q := by
      obtain ⟨r17, h18, hc16, hF⟩ := zbind2 hF
      refine z_inv1 (d' := d - 1) (As := [.inl (zsx E (w32 (x3 + 1))), .inl (zsx E (w32 (x3 + 2))), .inl (zsx E (w32 (x3 + 3))), .inl (zsx E (w32 (x3 + 4))), .inl (if zsx E (w32 (x3 + 5)) = 0 then 0 else 1 : Int)]) rfl rfl (zf_Mo_stay (by omega) N _ _ _ _ _ hc16) rfl rfl rfl (by omega) rfl (fun r12 h13 hR14 hQ15 => ?_)
      obtain ⟨rfl, rfl⟩ := hQ15
      refine z_ceq rfl (fun c19 => ?_) (fun c19 => ?_)
      · rw [if_pos c19] at hF
        obtain ⟨-, rfl⟩ := zinj2 hF
        exact K
      · rw [if_neg c19] at hF
        refine z_const rfl ?_
        exact absurd (zinj2 hF).1 (by decide)
    refine z_zeq rfl (fun c10 => ?_) (fun c10 => ?_)
    · refine z_const rfl ?_
      exact zcast (by first | rfl | (simp only [if_pos c10] <;> rfl)) (by first | rfl | (simp only [if_pos c10] <;> rfl)) hJ11
    · refine z_const rfl ?_
      refine z_goto rfl ?_
      exact zcast (by first | rfl | (simp only [if_neg c10] <;> rfl)) (by first | rfl | (simp only [if_neg c10] <;> rfl)) hJ11
  refine z_zeq rfl (fun c1 => ?_) (fun c1 => ?_)
  · refine z_const rfl ?_
    exact zcast (by first | rfl | (simp only [if_pos c1] <;> rfl)) (by first | rfl | (simp only [if_pos c1] <;> rfl)) hJ2
  · refine z_const rfl ?_
    refine z_goto rfl ?_
    exact zcast (by first | rfl | (simp only [if_neg c1] <;> rfl)) (by first | rfl | (simp only [if_neg c1] <;> rfl)) hJ2
def sh_La_c21 (N : Nat) (E : zE) (x3 : Int) (h : zHp) : Option (Int × zHp) := zb2 (sh_Ox_plan N (zsx E (w32 (x3 + 1))) (zsx E (w32 (x3 + 2))) h) fun r6 h7 => zb2 (sh_Mo_plan N (zsx E (w32 (x3 + 1))) (zsx E (w32 (x3 + 2))) h7) fun r13 h14 => if r6 = r13 then some (1, h14) else some (0, h14)
set_option maxRecDepth 100000 in
set_option maxHeartbeats 4000000 in
theorem zw_La_c21 {l : Launch} {E : zE} {d : Nat} (hd : 26 ≤ d) (N : Nat) (x3 : Int) (hx0 : 0 ≤ x3) (hx1 : x3 + 7 ≤ ((zsc E).1 : Nat)) (hx2 : (zsc E).1 < 100000) (hz : ∀ a, zI32 (zsx E a)) {h : zHp} {Q : Int → zHp → Prop} {h0 : zHp} (hF : sh_La_c21 N E x3 h = some (1, h0)) (K : zW l E d zm_La_law 822 [.inr (.inr 1000), .inr (.inr 0), .inr (.inr 85), .inl x3] [] h0 Q) : zW l E d zm_La_law 605 [.inr (.inr 1000), .inr (.inr 0), .inr (.inr 85), .inl x3] [] h Q := by
  rw [sh_La_c21] at hF
  refine z_aload rfl rfl rfl ?_
  refine z_aload rfl rfl rfl ?_
  refine z_iload rfl rfl ?_
  refine z_const rfl ?_
  refine z_iadd rfl ?_
  refine z_sld hz rfl (by rw [w32_i ⟨by omega, by omega⟩]; omega) (by rw [w32_i ⟨by omega, by omega⟩]; omega) (fun _ => ?_)
  refine z_aload rfl rfl rfl ?_
  refine z_iload rfl rfl ?_
  refine z_const rfl ?_
  refine z_iadd rfl ?_
  refine z_sld hz rfl (by rw [w32_i ⟨by omega, by omega⟩]; omega) (by rw [w32_i ⟨by omega, by omega⟩]; omega) (fun _ => ?_)
  obtain ⟨r6, h7, hc5, hF⟩ := zbind2 hF
  refine z_inv1 (d' := d - 1) (As := [.inl (zsx E (w32 (x3 + 1))), .inl (zsx E (w32 (x3 + 2)))]) rfl rfl (zf_Ox_plan (by omega) N _ _ hc5) rfl rfl rfl (by omega) rfl (fun r1 h2 hR3 hQ4 => ?_)
  obtain ⟨rfl, rfl⟩ := hQ4
  refine z_aload rfl rfl rfl ?_
  refine z_aload rfl rfl rfl ?_
  refine z_iload rfl rfl ?_
  refine z_const rfl ?_
  refine z_iadd rfl ?_
  refine z_sld hz rfl (by rw [w32_i ⟨by omega, by omega⟩]; omega) (by rw [w32_i ⟨by omega, by omega⟩]; omega) (fun _ => ?_)
  refine z_aload rfl rfl rfl ?_
  refine z_iload rfl rfl ?_
  refine z_const rfl ?_
  refine z_iadd rfl ?_
  refine z_sld hz rfl (by rw [w32_i ⟨by omega, by omega⟩]; omega) (by rw [w32_i ⟨by omega, by omega⟩]; omega) (fun _ => ?_)
  obtain ⟨r13, h14, hc12, hF⟩ := zbind2 hF
  refine z_inv1 (d' := d - 1) (As := [.inl (zsx E (w32 (x3 + 1))), .inl (zsx E (w32 (x3 + 2)))]) rfl rfl (zf_Mo_plan (by omega) N _ _ hc12) rfl rfl rfl (by omega) rfl (fun r8 h9 hR10 hQ11 => ?_)
  obtain ⟨rfl, rfl⟩ := hQ11
  refine z_ceq rfl (fun c15 => ?_) (fun c15 => ?_)
  · rw [if_pos c15] at hF
    obtain ⟨-, rfl⟩ := zinj2 hF
    exact K
  · rw [if_neg c15] at hF
    refine z_const rfl ?_
    exact absurd (zinj2 hF).1 (by decide)
def sh_La_c22 (N : Nat) (E : zE) (x3 : Int) (h : zHp) : Option (Int × zHp) := zb2 (sh_Ox_longest N (zsx E (w32 (x3 + 1))) (zsx E (w32 (x3 + 2))) h) fun r6 h7 => zb2 (sh_Mo_longest N (zsx E (w32 (x3 + 1))) (zsx E (w32 (x3 + 2))) h7) fun r13 h14 => if r6 = r13 then some (1, h14) else some (0, h14)
set_option maxRecDepth 100000 in
set_option maxHeartbeats 4000000 in
theorem zw_La_c22 {l : Launch} {E : zE} {d : Nat} (hd : 9 ≤ d) (N : Nat) (x3 : Int) (hx0 : 0 ≤ x3) (hx1 : x3 + 7 ≤ ((zsc E).1 : Nat)) (hx2 : (zsc E).1 < 100000) (hz : ∀ a, zI32 (zsx E a)) {h : zHp} {Q : Int → zHp → Prop} {h0 : zHp} (hF : sh_La_c22 N E x3 h = some (1, h0)) (K : zW l E d zm_La_law 822 [.inr (.inr 1000), .inr (.inr 0), .inr (.inr 85), .inl x3] [] h0 Q) : zW l E d zm_La_law 632 [.inr (.inr 1000), .inr (.inr 0), .inr (.inr 85), .inl x3] [] h Q := by
  rw [sh_La_c22] at hF
  refine z_aload rfl rfl rfl ?_
  refine z_aload rfl rfl rfl ?_
  refine z_iload rfl rfl ?_
  refine z_const rfl ?_
  refine z_iadd rfl ?_
  refine z_sld hz rfl (by rw [w32_i ⟨by omega, by omega⟩]; omega) (by rw [w32_i ⟨by omega, by omega⟩]; omega) (fun _ => ?_)
  refine z_aload rfl rfl rfl ?_
  refine z_iload rfl rfl ?_
  refine z_const rfl ?_
  refine z_iadd rfl ?_
  refine z_sld hz rfl (by rw [w32_i ⟨by omega, by omega⟩]; omega) (by rw [w32_i ⟨by omega, by omega⟩]; omega) (fun _ => ?_)
  obtain ⟨r6, h7, hc5, hF⟩ := zbind2 hF
  refine z_inv1 (d' := d - 1) (As := [.inl (zsx E (w32 (x3 + 1))), .inl (zsx E (w32 (x3 + 2)))]) rfl rfl (zf_Ox_longest (by omega) N _ _ hc5) rfl rfl rfl (by omega) rfl (fun r1 h2 hR3 hQ4 => ?_)
  obtain ⟨rfl, rfl⟩ := hQ4
  refine z_aload rfl rfl rfl ?_
  refine z_aload rfl rfl rfl ?_
  refine z_iload rfl rfl ?_
  refine z_const rfl ?_
  refine z_iadd rfl ?_
  refine z_sld hz rfl (by rw [w32_i ⟨by omega, by omega⟩]; omega) (by rw [w32_i ⟨by omega, by omega⟩]; omega) (fun _ => ?_)
  refine z_aload rfl rfl rfl ?_
  refine z_iload rfl rfl ?_
  refine z_const rfl ?_
  refine z_iadd rfl ?_
  refine z_sld hz rfl (by rw [w32_i ⟨by omega, by omega⟩]; omega) (by rw [w32_i ⟨by omega, by omega⟩]; omega) (fun _ => ?_)
  obtain ⟨r13, h14, hc12, hF⟩ := zbind2 hF
  refine z_inv1 (d' := d - 1) (As := [.inl (zsx E (w32 (x3 + 1))), .inl (zsx E (w32 (x3 + 2)))]) rfl rfl (zf_Mo_longest (by omega) N _ _ hc12) rfl rfl rfl (by omega) rfl (fun r8 h9 hR10 hQ11 => ?_)
  obtain ⟨rfl, rfl⟩ := hQ11
  refine z_ceq rfl (fun c15 => ?_) (fun c15 => ?_)
  · rw [if_pos c15] at hF
    obtain ⟨-, rfl⟩ := zinj2 hF
    exact K
  · rw [if_neg c15] at hF
    refine z_const rfl ?_
    exact absurd (zinj2 hF).1 (by decide)
def sh_La_c23 (N : Nat) (E : zE) (x3 : Int) (h : zHp) : Option (Int × zHp) := zb2 (sh_Ox_dark N (zsx E (w32 (x3 + 1))) (zsx E (w32 (x3 + 2))) (zsx E (w32 (x3 + 3))) (zsx E (w32 (x3 + 4))) (zsx E (w32 (x3 + 5))) (zsx E (w32 (x3 + 6))) h) fun r6 h7 => zb2 (sh_Mo_dark N (zsx E (w32 (x3 + 1))) (zsx E (w32 (x3 + 2))) (zsx E (w32 (x3 + 3))) (zsx E (w32 (x3 + 4))) (zsx E (w32 (x3 + 5))) (zsx E (w32 (x3 + 6))) h7) fun r13 h14 => if zcmp r6 r13 = 0 then some (1, h14) else some (0, h14)
set_option maxRecDepth 100000 in
set_option maxHeartbeats 4000000 in
theorem zw_La_c23 {l : Launch} {E : zE} {d : Nat} (hd : 7 ≤ d) (N : Nat) (x3 : Int) (hx0 : 0 ≤ x3) (hx1 : x3 + 7 ≤ ((zsc E).1 : Nat)) (hx2 : (zsc E).1 < 100000) (hz : ∀ a, zI32 (zsx E a)) {h : zHp} {Q : Int → zHp → Prop} {h0 : zHp} (hF : sh_La_c23 N E x3 h = some (1, h0)) (K : zW l E d zm_La_law 822 [.inr (.inr 1000), .inr (.inr 0), .inr (.inr 85), .inl x3] [] h0 Q) : zW l E d zm_La_law 659 [.inr (.inr 1000), .inr (.inr 0), .inr (.inr 85), .inl x3] [] h Q := by
  rw [sh_La_c23] at hF
  refine z_aload rfl rfl rfl ?_
  refine z_aload rfl rfl rfl ?_
  refine z_iload rfl rfl ?_
  refine z_const rfl ?_
  refine z_iadd rfl ?_
  refine z_sld hz rfl (by rw [w32_i ⟨by omega, by omega⟩]; omega) (by rw [w32_i ⟨by omega, by omega⟩]; omega) (fun _ => ?_)
  refine z_aload rfl rfl rfl ?_
  refine z_iload rfl rfl ?_
  refine z_const rfl ?_
  refine z_iadd rfl ?_
  refine z_sld hz rfl (by rw [w32_i ⟨by omega, by omega⟩]; omega) (by rw [w32_i ⟨by omega, by omega⟩]; omega) (fun _ => ?_)
  refine z_aload rfl rfl rfl ?_
  refine z_iload rfl rfl ?_
  refine z_const rfl ?_
  refine z_iadd rfl ?_
  refine z_sld hz rfl (by rw [w32_i ⟨by omega, by omega⟩]; omega) (by rw [w32_i ⟨by omega, by omega⟩]; omega) (fun _ => ?_)
  refine z_aload rfl rfl rfl ?_
  refine z_iload rfl rfl ?_
  refine z_const rfl ?_
  refine z_iadd rfl ?_
  refine z_sld hz rfl (by rw [w32_i ⟨by omega, by omega⟩]; omega) (by rw [w32_i ⟨by omega, by omega⟩]; omega) (fun _ => ?_)
  refine z_aload rfl rfl rfl ?_
  refine z_iload rfl rfl ?_
  refine z_const rfl ?_
  refine z_iadd rfl ?_
  refine z_sld hz rfl (by rw [w32_i ⟨by omega, by omega⟩]; omega) (by rw [w32_i ⟨by omega, by omega⟩]; omega) (fun _ => ?_)
  refine z_aload rfl rfl rfl ?_
  refine z_iload rfl rfl ?_
  refine z_const rfl ?_
  refine z_iadd rfl ?_
  refine z_sld hz rfl (by rw [w32_i ⟨by omega, by omega⟩]; omega) (by rw [w32_i ⟨by omega, by omega⟩]; omega) (fun _ => ?_)
  obtain ⟨r6, h7, hc5, hF⟩ := zbind2 hF
  refine z_inv2 (d' := d - 1) (As := [.inl (zsx E (w32 (x3 + 1))), .inl (zsx E (w32 (x3 + 2))), .inl (zsx E (w32 (x3 + 3))), .inl (zsx E (w32 (x3 + 4))), .inl (zsx E (w32 (x3 + 5))), .inl (zsx E (w32 (x3 + 6)))]) rfl rfl (zf_Ox_dark (by omega) N _ _ _ _ _ _ hc5) rfl rfl rfl (by omega) rfl (fun r1 h2 hR3 hQ4 => ?_)
  obtain ⟨rfl, rfl⟩ := hQ4
  refine z_aload rfl rfl rfl ?_
  refine z_aload rfl rfl rfl ?_
  refine z_iload rfl rfl ?_
  refine z_const rfl ?_
  refine z_iadd rfl ?_
  refine z_sld hz rfl (by rw [w32_i ⟨by omega, by omega⟩]; omega) (by rw [w32_i ⟨by omega, by omega⟩]; omega) (fun _ => ?_)
  refine z_aload rfl rfl rfl ?_
  refine z_iload rfl rfl ?_
  refine z_const rfl ?_
  refine z_iadd rfl ?_
  refine z_sld hz rfl (by rw [w32_i ⟨by omega, by omega⟩]; omega) (by rw [w32_i ⟨by omega, by omega⟩]; omega) (fun _ => ?_)
  refine z_aload rfl rfl rfl ?_
  refine z_iload rfl rfl ?_
  refine z_const rfl ?_
  refine z_iadd rfl ?_
  refine z_sld hz rfl (by rw [w32_i ⟨by omega, by omega⟩]; omega) (by rw [w32_i ⟨by omega, by omega⟩]; omega) (fun _ => ?_)
  refine z_aload rfl rfl rfl ?_
  refine z_iload rfl rfl ?_
  refine z_const rfl ?_
  refine z_iadd rfl ?_
  refine z_sld hz rfl (by rw [w32_i ⟨by omega, by omega⟩]; omega) (by rw [w32_i ⟨by omega, by omega⟩]; omega) (fun _ => ?_)
  refine z_aload rfl rfl rfl ?_
  refine z_iload rfl rfl ?_
  refine z_const rfl ?_
  refine z_iadd rfl ?_
  refine z_sld hz rfl (by rw [w32_i ⟨by omega, by omega⟩]; omega) (by rw [w32_i ⟨by omega, by omega⟩]; omega) (fun _ => ?_)
  refine z_aload rfl rfl rfl ?_
  refine z_iload rfl rfl ?_
  refine z_const rfl ?_
  refine z_iadd rfl ?_
  refine z_sld hz rfl (by rw [w32_i ⟨by omega, by omega⟩]; omega) (by rw [w32_i ⟨by omega, by omega⟩]; omega) (fun _ => ?_)
  obtain ⟨r13, h14, hc12, hF⟩ := zbind2 hF
  refine z_inv2 (d' := d - 1) (As := [.inl (zsx E (w32 (x3 + 1))), .inl (zsx E (w32 (x3 + 2))), .inl (zsx E (w32 (x3 + 3))), .inl (zsx E (w32 (x3 + 4))), .inl (zsx E (w32 (x3 + 5))), .inl (zsx E (w32 (x3 + 6)))]) rfl rfl (zf_Mo_dark (by omega) N _ _ _ _ _ _ hc12) rfl rfl rfl (by omega) rfl (fun r8 h9 hR10 hQ11 => ?_)
  obtain ⟨rfl, rfl⟩ := hQ11
  refine z_lcmp rfl ?_
  refine z_zeq rfl (fun c15 => ?_) (fun c15 => ?_)
  · rw [if_pos c15] at hF
    obtain ⟨-, rfl⟩ := zinj2 hF
    exact K
  · rw [if_neg c15] at hF
    refine z_const rfl ?_
    exact absurd (zinj2 hF).1 (by decide)
def sh_La_c24 (N : Nat) (E : zE) (x3 : Int) (h : zHp) : Option (Int × zHp) := zb2 (sh_Ox_apart N (zsx E (w32 (x3 + 1))) (zsx E (w32 (x3 + 2))) (zsx E (w32 (x3 + 3))) h) fun r6 h7 => zb2 (sh_Mo_apart N (zsx E (w32 (x3 + 1))) (zsx E (w32 (x3 + 2))) (zsx E (w32 (x3 + 3))) h7) fun r13 h14 => if r6 = r13 then some (1, h14) else some (0, h14)
set_option maxRecDepth 100000 in
set_option maxHeartbeats 4000000 in
theorem zw_La_c24 {l : Launch} {E : zE} {d : Nat} (hd : 26 ≤ d) (N : Nat) (x3 : Int) (hx0 : 0 ≤ x3) (hx1 : x3 + 7 ≤ ((zsc E).1 : Nat)) (hx2 : (zsc E).1 < 100000) (hz : ∀ a, zI32 (zsx E a)) {h : zHp} {Q : Int → zHp → Prop} {h0 : zHp} (hF : sh_La_c24 N E x3 h = some (1, h0)) (K : zW l E d zm_La_law 822 [.inr (.inr 1000), .inr (.inr 0), .inr (.inr 85), .inl x3] [] h0 Q) : zW l E d zm_La_law 727 [.inr (.inr 1000), .inr (.inr 0), .inr (.inr 85), .inl x3] [] h Q := by
  rw [sh_La_c24] at hF
  refine z_aload rfl rfl rfl ?_
  refine z_aload rfl rfl rfl ?_
  refine z_iload rfl rfl ?_
  refine z_const rfl ?_
  refine z_iadd rfl ?_
  refine z_sld hz rfl (by rw [w32_i ⟨by omega, by omega⟩]; omega) (by rw [w32_i ⟨by omega, by omega⟩]; omega) (fun _ => ?_)
  refine z_aload rfl rfl rfl ?_
  refine z_iload rfl rfl ?_
  refine z_const rfl ?_
  refine z_iadd rfl ?_
  refine z_sld hz rfl (by rw [w32_i ⟨by omega, by omega⟩]; omega) (by rw [w32_i ⟨by omega, by omega⟩]; omega) (fun _ => ?_)
  refine z_aload rfl rfl rfl ?_
  refine z_iload rfl rfl ?_
  refine z_const rfl ?_
  refine z_iadd rfl ?_
  refine z_sld hz rfl (by rw [w32_i ⟨by omega, by omega⟩]; omega) (by rw [w32_i ⟨by omega, by omega⟩]; omega) (fun _ => ?_)
  obtain ⟨r6, h7, hc5, hF⟩ := zbind2 hF
  refine z_inv1 (d' := d - 1) (As := [.inl (zsx E (w32 (x3 + 1))), .inl (zsx E (w32 (x3 + 2))), .inl (zsx E (w32 (x3 + 3)))]) rfl rfl (zf_Ox_apart (by omega) N _ _ _ hc5) rfl rfl rfl (by omega) rfl (fun r1 h2 hR3 hQ4 => ?_)
  obtain ⟨rfl, rfl⟩ := hQ4
  refine z_aload rfl rfl rfl ?_
  refine z_aload rfl rfl rfl ?_
  refine z_iload rfl rfl ?_
  refine z_const rfl ?_
  refine z_iadd rfl ?_
  refine z_sld hz rfl (by rw [w32_i ⟨by omega, by omega⟩]; omega) (by rw [w32_i ⟨by omega, by omega⟩]; omega) (fun _ => ?_)
  refine z_aload rfl rfl rfl ?_
  refine z_iload rfl rfl ?_
  refine z_const rfl ?_
  refine z_iadd rfl ?_
  refine z_sld hz rfl (by rw [w32_i ⟨by omega, by omega⟩]; omega) (by rw [w32_i ⟨by omega, by omega⟩]; omega) (fun _ => ?_)
  refine z_aload rfl rfl rfl ?_
  refine z_iload rfl rfl ?_
  refine z_const rfl ?_
  refine z_iadd rfl ?_
  refine z_sld hz rfl (by rw [w32_i ⟨by omega, by omega⟩]; omega) (by rw [w32_i ⟨by omega, by omega⟩]; omega) (fun _ => ?_)
  obtain ⟨r13, h14, hc12, hF⟩ := zbind2 hF
  refine z_inv1 (d' := d - 1) (As := [.inl (zsx E (w32 (x3 + 1))), .inl (zsx E (w32 (x3 + 2))), .inl (zsx E (w32 (x3 + 3)))]) rfl rfl (zf_Mo_apart (by omega) N _ _ _ hc12) rfl rfl rfl (by omega) rfl (fun r8 h9 hR10 hQ11 => ?_)
  obtain ⟨rfl, rfl⟩ := hQ11
  refine z_ceq rfl (fun c15 => ?_) (fun c15 => ?_)
  · rw [if_pos c15] at hF
    obtain ⟨-, rfl⟩ := zinj2 hF
    exact K
  · rw [if_neg c15] at hF
    refine z_const rfl ?_
    exact absurd (zinj2 hF).1 (by decide)
def sh_La_c25 (N : Nat) (E : zE) (x3 : Int) (h : zHp) : Option (Int × zHp) := zb2 (sh_Ox_thunder N (zsx E (w32 (x3 + 1))) (zsx E (w32 (x3 + 2))) h) fun r6 h7 => zb2 (sh_Mo_thunder N (zsx E (w32 (x3 + 1))) (zsx E (w32 (x3 + 2))) h7) fun r13 h14 => if r6 = r13 then some (1, h14) else some (0, h14)
set_option maxRecDepth 100000 in
set_option maxHeartbeats 4000000 in
theorem zw_La_c25 {l : Launch} {E : zE} {d : Nat} (hd : 7 ≤ d) (N : Nat) (x3 : Int) (hx0 : 0 ≤ x3) (hx1 : x3 + 7 ≤ ((zsc E).1 : Nat)) (hx2 : (zsc E).1 < 100000) (hz : ∀ a, zI32 (zsx E a)) {h : zHp} {Q : Int → zHp → Prop} {h0 : zHp} (hF : sh_La_c25 N E x3 h = some (1, h0)) (K : zW l E d zm_La_law 822 [.inr (.inr 1000), .inr (.inr 0), .inr (.inr 85), .inl x3] [] h0 Q) : zW l E d zm_La_law 764 [.inr (.inr 1000), .inr (.inr 0), .inr (.inr 85), .inl x3] [] h Q := by
  rw [sh_La_c25] at hF
  refine z_aload rfl rfl rfl ?_
  refine z_aload rfl rfl rfl ?_
  refine z_iload rfl rfl ?_
  refine z_const rfl ?_
  refine z_iadd rfl ?_
  refine z_sld hz rfl (by rw [w32_i ⟨by omega, by omega⟩]; omega) (by rw [w32_i ⟨by omega, by omega⟩]; omega) (fun _ => ?_)
  refine z_aload rfl rfl rfl ?_
  refine z_iload rfl rfl ?_
  refine z_const rfl ?_
  refine z_iadd rfl ?_
  refine z_sld hz rfl (by rw [w32_i ⟨by omega, by omega⟩]; omega) (by rw [w32_i ⟨by omega, by omega⟩]; omega) (fun _ => ?_)
  obtain ⟨r6, h7, hc5, hF⟩ := zbind2 hF
  refine z_inv1 (d' := d - 1) (As := [.inl (zsx E (w32 (x3 + 1))), .inl (zsx E (w32 (x3 + 2)))]) rfl rfl (zf_Ox_thunder (by omega) N _ _ hc5) rfl rfl rfl (by omega) rfl (fun r1 h2 hR3 hQ4 => ?_)
  obtain ⟨rfl, rfl⟩ := hQ4
  refine z_aload rfl rfl rfl ?_
  refine z_aload rfl rfl rfl ?_
  refine z_iload rfl rfl ?_
  refine z_const rfl ?_
  refine z_iadd rfl ?_
  refine z_sld hz rfl (by rw [w32_i ⟨by omega, by omega⟩]; omega) (by rw [w32_i ⟨by omega, by omega⟩]; omega) (fun _ => ?_)
  refine z_aload rfl rfl rfl ?_
  refine z_iload rfl rfl ?_
  refine z_const rfl ?_
  refine z_iadd rfl ?_
  refine z_sld hz rfl (by rw [w32_i ⟨by omega, by omega⟩]; omega) (by rw [w32_i ⟨by omega, by omega⟩]; omega) (fun _ => ?_)
  obtain ⟨r13, h14, hc12, hF⟩ := zbind2 hF
  refine z_inv1 (d' := d - 1) (As := [.inl (zsx E (w32 (x3 + 1))), .inl (zsx E (w32 (x3 + 2)))]) rfl rfl (zf_Mo_thunder (by omega) N _ _ hc12) rfl rfl rfl (by omega) rfl (fun r8 h9 hR10 hQ11 => ?_)
  obtain ⟨rfl, rfl⟩ := hQ11
  refine z_ceq rfl (fun c15 => ?_) (fun c15 => ?_)
  · rw [if_pos c15] at hF
    obtain ⟨-, rfl⟩ := zinj2 hF
    exact K
  · rw [if_neg c15] at hF
    refine z_const rfl ?_
    exact absurd (zinj2 hF).1 (by decide)
def sh_La_c26 (N : Nat) (E : zE) (x3 : Int) (h : zHp) : Option (Int × zHp) := zb2 (sh_Ox_image h) fun r6 h7 => zb2 (sh_Mo_image N h7) fun r13 h14 => if r6 = r13 then some (1, h14) else some (0, h14)
set_option maxRecDepth 100000 in
set_option maxHeartbeats 4000000 in
theorem zw_La_c26 {l : Launch} {E : zE} {d : Nat} (hd : 5 ≤ d) (N : Nat) (x3 : Int) (hx0 : 0 ≤ x3) (hx1 : x3 + 7 ≤ ((zsc E).1 : Nat)) (hx2 : (zsc E).1 < 100000) (hz : ∀ a, zI32 (zsx E a)) {h : zHp} {Q : Int → zHp → Prop} {h0 : zHp} (hF : sh_La_c26 N E x3 h = some (1, h0)) (K : zW l E d zm_La_law 822 [.inr (.inr 1000), .inr (.inr 0), .inr (.inr 85), .inl x3] [] h0 Q) : zW l E d zm_La_law 791 [.inr (.inr 1000), .inr (.inr 0), .inr (.inr 85), .inl x3] [] h Q := by
  rw [sh_La_c26] at hF
  refine z_aload rfl rfl rfl ?_
  obtain ⟨r6, h7, hc5, hF⟩ := zbind2 hF
  refine z_inv1 (d' := d - 1) (As := []) rfl rfl (zf_Ox_image (by omega) hc5) rfl rfl rfl (by omega) rfl (fun r1 h2 hR3 hQ4 => ?_)
  obtain ⟨rfl, rfl⟩ := hQ4
  refine z_aload rfl rfl rfl ?_
  obtain ⟨r13, h14, hc12, hF⟩ := zbind2 hF
  refine z_inv1 (d' := d - 1) (As := []) rfl rfl (zf_Mo_image (by omega) N hc12) rfl rfl rfl (by omega) rfl (fun r8 h9 hR10 hQ11 => ?_)
  obtain ⟨rfl, rfl⟩ := hQ11
  refine z_ceq rfl (fun c15 => ?_) (fun c15 => ?_)
  · rw [if_pos c15] at hF
    obtain ⟨-, rfl⟩ := zinj2 hF
    exact K
  · rw [if_neg c15] at hF
    refine z_const rfl ?_
    exact absurd (zinj2 hF).1 (by decide)
def sh_La_c27 (N : Nat) (E : zE) (x3 : Int) (h : zHp) : Option (Int × zHp) := zb2 (sh_Ox_back h) fun r6 h7 => zb2 (sh_Mo_back N h7) fun r13 h14 => if r6 = r13 then some (1, h14) else some (0, h14)
set_option maxRecDepth 100000 in
set_option maxHeartbeats 4000000 in
theorem zw_La_c27 {l : Launch} {E : zE} {d : Nat} (hd : 5 ≤ d) (N : Nat) (x3 : Int) (hx0 : 0 ≤ x3) (hx1 : x3 + 7 ≤ ((zsc E).1 : Nat)) (hx2 : (zsc E).1 < 100000) (hz : ∀ a, zI32 (zsx E a)) {h : zHp} {Q : Int → zHp → Prop} {h0 : zHp} (hF : sh_La_c27 N E x3 h = some (1, h0)) (K : zW l E d zm_La_law 822 [.inr (.inr 1000), .inr (.inr 0), .inr (.inr 85), .inl x3] [] h0 Q) : zW l E d zm_La_law 798 [.inr (.inr 1000), .inr (.inr 0), .inr (.inr 85), .inl x3] [] h Q := by
  rw [sh_La_c27] at hF
  refine z_aload rfl rfl rfl ?_
  obtain ⟨r6, h7, hc5, hF⟩ := zbind2 hF
  refine z_inv1 (d' := d - 1) (As := []) rfl rfl (zf_Ox_back (by omega) hc5) rfl rfl rfl (by omega) rfl (fun r1 h2 hR3 hQ4 => ?_)
  obtain ⟨rfl, rfl⟩ := hQ4
  refine z_aload rfl rfl rfl ?_
  obtain ⟨r13, h14, hc12, hF⟩ := zbind2 hF
  refine z_inv1 (d' := d - 1) (As := []) rfl rfl (zf_Mo_back (by omega) N hc12) rfl rfl rfl (by omega) rfl (fun r8 h9 hR10 hQ11 => ?_)
  obtain ⟨rfl, rfl⟩ := hQ11
  refine z_ceq rfl (fun c15 => ?_) (fun c15 => ?_)
  · rw [if_pos c15] at hF
    obtain ⟨-, rfl⟩ := zinj2 hF
    exact K
  · rw [if_neg c15] at hF
    refine z_const rfl ?_
    exact absurd (zinj2 hF).1 (by decide)
def sh_La_c28 (N : Nat) (E : zE) (x3 : Int) (h : zHp) : Option (Int × zHp) := zb1 (sh_Mo_about N (zsx E (w32 (x3 + 1))) h) fun r10 => if sh_Ox_about (zsx E (w32 (x3 + 1))) h = r10 then some (1, h) else some (0, h)
set_option maxRecDepth 100000 in
set_option maxHeartbeats 4000000 in
theorem zw_La_c28 {l : Launch} {E : zE} {d : Nat} (hd : 5 ≤ d) (N : Nat) (x3 : Int) (hx0 : 0 ≤ x3) (hx1 : x3 + 7 ≤ ((zsc E).1 : Nat)) (hx2 : (zsc E).1 < 100000) (hz : ∀ a, zI32 (zsx E a)) {h : zHp} {Q : Int → zHp → Prop} {h0 : zHp} (hF : sh_La_c28 N E x3 h = some (1, h0)) (K : zW l E d zm_La_law 822 [.inr (.inr 1000), .inr (.inr 0), .inr (.inr 85), .inl x3] [] h0 Q) : zW l E d zm_La_law 805 [.inr (.inr 1000), .inr (.inr 0), .inr (.inr 85), .inl x3] [] h Q := by
  rw [sh_La_c28] at hF
  refine z_aload rfl rfl rfl ?_
  refine z_aload rfl rfl rfl ?_
  refine z_iload rfl rfl ?_
  refine z_const rfl ?_
  refine z_iadd rfl ?_
  refine z_sld hz rfl (by rw [w32_i ⟨by omega, by omega⟩]; omega) (by rw [w32_i ⟨by omega, by omega⟩]; omega) (fun _ => ?_)
  refine z_inv1 (d' := d - 1) (As := [.inl (zsx E (w32 (x3 + 1)))]) rfl rfl (zf_Ox_about (by omega) _) rfl rfl rfl (by omega) rfl (fun r1 h2 hR3 hQ4 => ?_)
  obtain ⟨rfl, rfl⟩ := hQ4
  refine z_aload rfl rfl rfl ?_
  refine z_aload rfl rfl rfl ?_
  refine z_iload rfl rfl ?_
  refine z_const rfl ?_
  refine z_iadd rfl ?_
  refine z_sld hz rfl (by rw [w32_i ⟨by omega, by omega⟩]; omega) (by rw [w32_i ⟨by omega, by omega⟩]; omega) (fun _ => ?_)
  obtain ⟨r10, hc9, hF⟩ := zbind1 hF
  refine z_inv1 (d' := d - 1) (As := [.inl (zsx E (w32 (x3 + 1)))]) rfl rfl (zf_Mo_about (by omega) N _ hc9) rfl rfl rfl (by omega) rfl (fun r5 h6 hR7 hQ8 => ?_)
  obtain ⟨rfl, rfl⟩ := hQ8
  refine z_ceq rfl (fun c11 => ?_) (fun c11 => ?_)
  · rw [if_pos c11] at hF
    obtain ⟨-, rfl⟩ := zinj2 hF
    exact K
  · rw [if_neg c11] at hF
    refine z_const rfl ?_
    exact absurd (zinj2 hF).1 (by decide)
def zlawD : Nat := 116
